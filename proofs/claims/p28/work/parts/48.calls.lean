/-! 48: calls: looks at the reference's row, at actors; what is told -/
theorem a0 {S : Mem} {a : Nat} (ha : a < 12) : fm_at (Int32.ofNat a) 0 S = some (S 698 (77 * a + 0)) := by
  have := at_0 (S := S) (f := S 698) ha
  rwa [gM_eta] at this
theorem a1 {S : Mem} {a : Nat} (ha : a < 12) : fm_at (Int32.ofNat a) 1 S = some (S 698 (77 * a + 1)) := by
  have := at_1 (S := S) (f := S 698) ha
  rwa [gM_eta] at this
theorem a2 {S : Mem} {a : Nat} (ha : a < 12) : fm_at (Int32.ofNat a) 2 S = some (S 698 (77 * a + 2)) := by
  have := at_2 (S := S) (f := S 698) ha
  rwa [gM_eta] at this
theorem a3 {S : Mem} {a : Nat} (ha : a < 12) : fm_at (Int32.ofNat a) 3 S = some (S 698 (77 * a + 3)) := by
  have := at_3 (S := S) (f := S 698) ha
  rwa [gM_eta] at this
theorem a4 {S : Mem} {a : Nat} (ha : a < 12) : fm_at (Int32.ofNat a) 4 S = some (S 698 (77 * a + 4)) := by
  have := at_4 (S := S) (f := S 698) ha
  rwa [gM_eta] at this
theorem a5 {S : Mem} {a : Nat} (ha : a < 12) : fm_at (Int32.ofNat a) 5 S = some (S 698 (77 * a + 5)) := by
  have := at_5 (S := S) (f := S 698) ha
  rwa [gM_eta] at this
theorem a6 {S : Mem} {a : Nat} (ha : a < 12) : fm_at (Int32.ofNat a) 6 S = some (S 698 (77 * a + 6)) := by
  have := at_6 (S := S) (f := S 698) ha
  rwa [gM_eta] at this
theorem a7 {S : Mem} {a : Nat} (ha : a < 12) : fm_at (Int32.ofNat a) 7 S = some (S 698 (77 * a + 7)) := by
  have := at_7 (S := S) (f := S 698) ha
  rwa [gM_eta] at this
theorem a13 {S : Mem} {a : Nat} (ha : a < 12) : fm_at (Int32.ofNat a) 13 S = some (S 698 (77 * a + 13)) := by
  have := at_13 (S := S) (f := S 698) ha
  rwa [gM_eta] at this
theorem a38 {S : Mem} {a : Nat} (ha : a < 12) : fm_at (Int32.ofNat a) 38 S = some (S 698 (77 * a + 38)) := by
  have := at_38 (S := S) (f := S 698) ha
  rwa [gM_eta] at this
theorem a51 {S : Mem} {a : Nat} (ha : a < 12) : fm_at (Int32.ofNat a) 51 S = some (S 698 (77 * a + 51)) := by
  have := at_51 (S := S) (f := S 698) ha
  rwa [gM_eta] at this
theorem a64 {S : Mem} {a : Nat} (ha : a < 12) : fm_at (Int32.ofNat a) 64 S = some (S 698 (77 * a + 64)) := by
  have := at_64 (S := S) (f := S 698) ha
  rwa [gM_eta] at this
theorem a_v {S : Mem} {a k : Nat} (ha : a < 12) (hk : k < 77) : fm_at (Int32.ofNat a) (Int32.ofNat k) S = some (S 698 (77 * a + k)) := by
  have := at_v (S := S) (f := S 698) ha hk
  rwa [gM_eta] at this
theorem v_v {S : Mem} {k : Nat} (hk : k < 1018) : ald S 698 (Int32.ofNat k) = some (S 698 k) := by
  have := gv (S := S) (f := S 698) hk
  rwa [gM_eta] at this
theorem v924 {S : Mem} : ald S 698 924 = some (S 698 924) := v_v (by decide)
theorem v925 {S : Mem} : ald S 698 925 = some (S 698 925) := v_v (by decide)
theorem v926 {S : Mem} : ald S 698 926 = some (S 698 926) := v_v (by decide)
theorem v927 {S : Mem} : ald S 698 927 = some (S 698 927) := v_v (by decide)
theorem v928 {S : Mem} : ald S 698 928 = some (S 698 928) := v_v (by decide)
theorem v929 {S : Mem} : ald S 698 929 = some (S 698 929) := v_v (by decide)
theorem v930 {S : Mem} : ald S 698 930 = some (S 698 930) := v_v (by decide)
theorem v931 {S : Mem} : ald S 698 931 = some (S 698 931) := v_v (by decide)
theorem v962 {S : Mem} : ald S 698 962 = some (S 698 962) := v_v (by decide)
theorem v993 {S : Mem} : ald S 698 993 = some (S 698 993) := v_v (by decide)
theorem v994 {S : Mem} : ald S 698 994 = some (S 698 994) := v_v (by decide)
theorem n10 : ¬ (1 : Int32) = 0 := by decide
theorem delay_n (w : Wst) (a : Nat) (n : Int32) : wN (sDelay w a n) = wN w := by
  unfold sDelay
  split <;> rfl
theorem watch_n (w : Wst) (a : Nat) (n : Int32) : wN (sWatch w a n) = wN w := by
  unfold sWatch
  dsimp only
  repeat' split
  all_goals first
    | rfl
    | exact sSend_n ..
theorem deal_n (w : Wst) (a : Nat) (f b : Int32) : wN (sDeal w a f b).1 = wN w := by
  unfold sDeal
  dsimp only
  repeat' split
  all_goals first
    | rfl
    | exact sPass_n ..
    | exact sSend_n ..
    | exact watch_n ..
    | exact delay_n ..
    | exact (stop_shr 12 w a).1
theorem step_n {w : Wst} {q : Int32} (h : Good w) : wN (sStep w q).1 = wN w := by
  cases hd : sDealer w with
  | some a =>
    obtain ⟨hl, hm⟩ := dealer_some hd
    cases hml : aMail (wA w a) with
    | nil => rw [hml] at hm; exact absurd hm (by decide)
    | cons m l =>
      rw [step_some hd hml]
      have hT := take_good h hl hml
      have hlT : sLive (sTake w a m) a = true := by rw [take_live]; exact hl
      by_cases e : (dealt w a m).2 = 0
      · rw [if_pos e]
        exact deal_n ..
      · rw [if_neg e, show (dealt w a m).1 = sTake w a m from deal_fail e]
        exact (sFail_good hT hlT).2
  | none =>
    cases ht : wT w with
    | nil => rw [step_nil hd ht]
    | cons t l =>
      rw [step_cons hd ht]
      exact sSend_n ..
theorem steps_n : ∀ (k : Nat) (w : Wst), Good w → wN (sSteps k w).1 = wN w
  | 0, _, _ => rfl
  | k + 1, w, hg => by
    have hs : sSteps (k + 1) w = if wI w 10 = 0 then ((sSteps k (wSI (sStep w 0).1 10 (sHow (sStep w 0).1))).1, (sSteps k (wSI (sStep w 0).1 10 (sHow (sStep w 0).1))).2 + 1) else (w, 0) := rfl
    rw [hs]
    split
    · exact (steps_n k _ (Good.int8 (sStep_good hg) (by decide))).trans (step_n hg)
    · rfl
theorem run_n {w : Wst} (k : Nat) (hg : Good w) : wN (sRun w k).1 = wN w := steps_n k _ (Good.int8 hg (by decide))
theorem nn_cases (v : Int32) : v < 0 ∨ ∃ i, i < 2 ^ 31 ∧ v = Int32.ofNat i := by
  by_cases h : v < 0
  · exact Or.inl h
  · exact Or.inr ⟨v.toNatClampNeg, v.toNatClampNeg_lt, n_of (Int32.not_lt.mp h)⟩
theorem actor_cases {S : Mem} {w : Wst} {ik : Option Wst} {bl : List Int32} {hd : Nat → Hd} (h : REL S w ik bl hd) (v : Int32) : (∃ a, a < wN w ∧ a < 12 ∧ v = Int32.ofNat a ∧ fw_isActor 1 v S = some 1 ∧ fm_isActor v S = some 1) ∨ (fw_isActor 1 v S = some 0 ∧ fm_isActor v S = some 0) := by
  have hI := h.2.2.1.1
  have h12 := hI.1
  rcases nn_cases v with hv | ⟨i, hi, rfl⟩
  · refine Or.inr ⟨w_isActor_no h.1.1 (Or.inl hv), ?_⟩
    have := m_isActor_no (S := S) h.2.1.1 hv
    rwa [gM_eta] at this
  · have e1 := w_isActor_any h.1.1 hI hi
    have e2 := m_isActor_ok (S := S) h.2.1.1 hI hi
    rw [gM_eta] at e2
    by_cases e : i < wN w
    · rw [if_pos e] at e1 e2
      exact Or.inl ⟨i, e, by omega, rfl, e1, e2⟩
    · rw [if_neg e] at e1 e2
      exact Or.inr ⟨e1, e2⟩
theorem live_both {S : Mem} {w : Wst} {ik : Option Wst} {bl : List Int32} {hd : Nat → Hd} (h : REL S w ik bl hd) {a : Nat} (ha : a < wN w) : fw_isLive 1 (Int32.ofNat a) S = some (if sLive w a = true then 1 else 0) ∧ fm_isLive (Int32.ofNat a) S = some (if sLive w a = true then 1 else 0) := by
  have hI := h.2.2.1.1
  refine ⟨w_isLive_ok h.1.1 hI.1 ha (hI.b ha), ?_⟩
  have := m_isLive_ok (S := S) h.2.1.1 hI ha
  rwa [gM_eta] at this
theorem le_n {i : Nat} {n : Nat} (hi : i < 2 ^ 31) (hn : n < 2 ^ 31) : (Int32.ofNat n ≤ Int32.ofNat i) = (n ≤ i) := propext (n_le hn hi)
theorem nn0 {i : Nat} (hi : i < 2 ^ 31) : (0 : Int32) ≤ Int32.ofNat i := Int32.not_lt.mp (n_neg hi)
theorem neg0 {v : Int32} (h : v < 0) : ¬ (0 : Int32) ≤ v := Int32.not_le.mpr h
section
variable {S : Mem} {w : Wst} {ik : Option Wst} {bl : List Int32} {hd : Nat → Hd}
theorem e_counted (h : REL S w ik bl hd) (v : Int32) : ∃ r, fx_counted v S = some r ∧ fm_counted v S = some r := by
  unfold fx_counted fm_counted
  rcases actor_cases h v with ⟨a, ha, ha12, rfl, e1, e2⟩ | ⟨e1, e2⟩
  · rw [e1, obs, if_neg n10, e2, obs, if_neg n10, ix_n ha12 (by decide), obs, a6 ha12, obs, (h.1.1.2.2.1 a ha).1 5 (by decide), (h.2.1.1.2.2.1 a ha).1.2.2.2.2.2.2]
    exact ⟨_, rfl, rfl⟩
  · rw [e1, obs, if_pos rfl, e2, obs, if_pos rfl]
    exact ⟨_, rfl, rfl⟩
theorem e_ended (h : REL S w ik bl hd) : ∃ r, fx_ended S = some r ∧ fm_ended S = some r := by
  unfold fx_ended fm_ended
  rw [v930, obs, h.2.1.1.2.1.2.2.2.2.2, h.1.1.2.1 10 (by decide) (by decide)]
  exact ⟨_, rfl, rfl⟩
theorem msg_sum {b n : Int32} (hb : okBody b) (hn : n = bm b) : (if n < 1000 then some (n + 100) else some ((300 + n) - 1000)) = some (100 + b) := by
  subst hn
  rcases hb with hb | ⟨k, hk, rfl⟩
  · have h2 : okV b := hb
    rw [bm_num h2, if_pos, Int32.add_comm]
    rw [Int32.lt_iff_toInt_lt]
    have : (1000 : Int32).toInt = 1000 := by decide
    have := h2.2
    omega
  · have hge : ¬ 1000 + Int32.ofNat k < 1000 := fun q => by
      rw [show (1000 : Int32) = Int32.ofNat 1000 from rfl, n_add, n_lt (by omega) (by decide)] at q
      omega
    rw [bm_death hk, if_neg hge, Int32.add_comm 1000, ← Int32.add_assoc, Int32.add_sub_cancel, show (300 : Int32) = 100 + 200 from rfl, Int32.add_assoc]
theorem e_message (h : REL S w ik bl hd) (v1 v2 v3 : Int32) : ∃ r, fx_message v1 v2 v3 S = some r ∧ fm_message v1 v2 v3 S = some r := by
  unfold fx_message fm_message fm_messageAt
  have hI := h.2.2.1.1
  have h12 := hI.1
  rcases actor_cases h v1 with ⟨a, ha, ha12, rfl, e1, e2⟩ | ⟨e1, e2⟩
  · have hA := h.1.1.2.2.1 a ha
    have hM := h.2.1.1.2.2.1 a ha
    have hx := hI.fit ha
    obtain ⟨l1, l2, l3, l4, l5, l6, l7⟩ := lnA (Or.inl rfl : IsW 1) ha12
    rw [e1, obs, if_neg n10, e2, obs, if_neg n10]
    rcases nn_cases v2 with hv | ⟨i, hi, rfl⟩
    · rw [if_neg (neg0 hv), if_neg (neg0 hv)]
      exact ⟨_, rfl, rfl⟩
    · rw [if_pos (nn0 hi), if_pos (nn0 hi)]
      by_cases e3 : v3 = 0
      · have hl := hx.2.1
        simp only [if_pos e3]
        rw [ix_n ha12 (by decide), obs, hA.2.2.1.1, a13 ha12, obs, hM.2.2.1.1]
        by_cases g : (aMail (wA w a)).length ≤ i
        · rw [if_pos ((n_le (by omega) hi).mpr g), if_pos ((n_le (by omega) hi).mpr g), obs, if_neg (by decide)]
          exact ⟨_, rfl, rfl⟩
        · have hm : (aMail (wA w a))[i]? = some (aMail (wA w a))[i] := List.getElem?_eq_getElem (by omega)
          have hb := ((hI.2.1 a ha).2.2.2.2.2.2.2.1.2 _ (List.getElem_mem (show i < (aMail (wA w a)).length by omega))).2
          rw [if_neg (fun q => g ((n_le (by omega) hi).mp q)), if_neg (fun q => g ((n_le (by omega) hi).mp q)), obs, i14d, if_pos (nn0 (by omega)), n_succ, a_v ha12 (by omega), obs, p_second_ok hA.2.2.1 hm (by rw [l3]; omega) (by rw [l3]; decide), obs, show 77 * a + (14 + 2 * i + 1) = 77 * a + 14 + 2 * i + 1 by omega, msg_sum hb (hM.2.2.1.2 i _ hm).1]
          exact ⟨_, rfl, rfl⟩
      · have hl := hx.2.2.1
        simp only [if_neg e3]
        rw [ix_n ha12 (by decide), obs, hA.2.2.2.1.1, a38 ha12, obs, hM.2.2.2.1.1]
        by_cases g : (aStash (wA w a)).length ≤ i
        · rw [if_pos ((n_le (by omega) hi).mpr g), if_pos ((n_le (by omega) hi).mpr g), obs, if_neg (by decide)]
          exact ⟨_, rfl, rfl⟩
        · have hm : (aStash (wA w a))[i]? = some (aStash (wA w a))[i] := List.getElem?_eq_getElem (by omega)
          have hb := ((hI.2.1 a ha).2.2.2.2.2.2.2.2.1.2 _ (List.getElem_mem (show i < (aStash (wA w a)).length by omega))).1.2
          rw [if_neg (fun q => g ((n_le (by omega) hi).mp q)), if_neg (fun q => g ((n_le (by omega) hi).mp q)), obs, i39d, if_pos (nn0 (by omega)), n_succ, a_v ha12 (by omega), obs, p_second_ok hA.2.2.2.1 hm (by rw [l5]; omega) (by rw [l5]; decide), obs, show 77 * a + (39 + 2 * i + 1) = 77 * a + 39 + 2 * i + 1 by omega, msg_sum hb (hM.2.2.2.1.2 i _ hm).1]
          exact ⟨_, rfl, rfl⟩
  · rw [e1, obs, if_pos rfl, e2, obs, if_pos rfl]
    exact ⟨_, rfl, rfl⟩
theorem e_sender (h : REL S w ik bl hd) (v1 v2 v3 : Int32) : ∃ r r2, fx_sender v1 v2 v3 S = some r ∧ fm_sender v1 v2 v3 S = some r2 := by
  unfold fx_sender fm_sender fm_messageAt
  have hI := h.2.2.1.1
  have h12 := hI.1
  rcases actor_cases h v1 with ⟨a, ha, ha12, rfl, e1, e2⟩ | ⟨e1, e2⟩
  · have hA := h.1.1.2.2.1 a ha
    have hM := h.2.1.1.2.2.1 a ha
    have hx := hI.fit ha
    obtain ⟨l1, l2, l3, l4, l5, l6, l7⟩ := lnA (Or.inl rfl : IsW 1) ha12
    rw [e1, obs, if_neg n10, e2, obs, if_neg n10]
    rcases nn_cases v2 with hv | ⟨i, hi, rfl⟩
    · rw [if_neg (neg0 hv), if_neg (neg0 hv)]
      exact ⟨_, _, rfl, rfl⟩
    · rw [if_pos (nn0 hi), if_pos (nn0 hi)]
      by_cases e3 : v3 = 0
      · have hl := hx.2.1
        simp only [if_pos e3]
        rw [ix_n ha12 (by decide), obs, hA.2.2.1.1, a13 ha12, obs, hM.2.2.1.1]
        by_cases g : (aMail (wA w a)).length ≤ i
        · rw [if_pos ((n_le (by omega) hi).mpr g), if_pos ((n_le (by omega) hi).mpr g), obs, if_neg (by decide)]
          exact ⟨_, _, rfl, rfl⟩
        · have hm : (aMail (wA w a))[i]? = some (aMail (wA w a))[i] := List.getElem?_eq_getElem (by omega)
          rw [if_neg (fun q => g ((n_le (by omega) hi).mp q)), if_neg (fun q => g ((n_le (by omega) hi).mp q)), obs, i14d, if_pos (nn0 (by omega)), a_v ha12 (by omega), obs, p_first_ok hA.2.2.1 hm (by rw [l2]; omega) (by rw [l2]; decide), obs]
          exact ⟨_, _, rfl, rfl⟩
      · have hl := hx.2.2.1
        simp only [if_neg e3]
        rw [ix_n ha12 (by decide), obs, hA.2.2.2.1.1, a38 ha12, obs, hM.2.2.2.1.1]
        by_cases g : (aStash (wA w a)).length ≤ i
        · rw [if_pos ((n_le (by omega) hi).mpr g), if_pos ((n_le (by omega) hi).mpr g), obs, if_neg (by decide)]
          exact ⟨_, _, rfl, rfl⟩
        · have hm : (aStash (wA w a))[i]? = some (aStash (wA w a))[i] := List.getElem?_eq_getElem (by omega)
          rw [if_neg (fun q => g ((n_le (by omega) hi).mp q)), if_neg (fun q => g ((n_le (by omega) hi).mp q)), obs, i39d, if_pos (nn0 (by omega)), a_v ha12 (by omega), obs, p_first_ok hA.2.2.2.1 hm (by rw [l4]; omega) (by rw [l4]; decide), obs]
          exact ⟨_, _, rfl, rfl⟩
  · rw [e1, obs, if_pos rfl, e2, obs, if_pos rfl]
    exact ⟨_, _, rfl, rfl⟩
theorem e_stack (h : REL S w ik bl hd) (v1 v2 : Int32) : ∃ r, fx_stack v1 v2 S = some r ∧ fm_stack v1 v2 S = some r := by
  unfold fx_stack fm_stack fx_itemOf
  have hI := h.2.2.1.1
  rcases actor_cases h v1 with ⟨a, ha, ha12, rfl, e1, e2⟩ | ⟨e1, e2⟩
  · have hA := h.1.1.2.2.1 a ha
    have hM := h.2.1.1.2.2.1 a ha
    have hx := (hI.fit ha).1
    obtain ⟨l1, l2, l3, l4, l5, l6, l7⟩ := lnA (Or.inl rfl : IsW 1) ha12
    rw [e1, obs, if_neg n10, e2, obs, if_neg n10, ix_n ha12 (by decide), obs]
    rcases nn_cases v2 with hv | ⟨i, hi, rfl⟩
    · rw [if_neg (neg0 hv), if_neg (neg0 hv), obs]
      exact ⟨_, rfl, rfl⟩
    · rw [if_pos (nn0 hi), if_pos (nn0 hi), hA.2.1.1, a7 ha12, obs, hM.2.1.1]
      by_cases g : (aStk (wA w a)).length ≤ i
      · rw [if_pos ((n_le (by omega) hi).mpr g), if_pos ((n_le (by omega) hi).mpr g), obs]
        exact ⟨_, rfl, rfl⟩
      · have hm : (aStk (wA w a))[i]? = some (aStk (wA w a))[i] := List.getElem?_eq_getElem (by omega)
        rw [if_neg (fun q => g ((n_le (by omega) hi).mp q)), if_neg (fun q => g ((n_le (by omega) hi).mp q)), i8, a_v ha12 (by omega), obs, n_at_ok hA.2.1 hm (by rw [l1]; omega) (by rw [l1]; decide), obs, obs, show 77 * a + (8 + i) = 77 * a + 8 + i by omega, hM.2.1.2.1 i _ hm]
        exact ⟨_, rfl, rfl⟩
  · rw [e1, obs, if_pos rfl, e2, obs, if_pos rfl]
    exact ⟨_, rfl, rfl⟩
theorem e_watcher (h : REL S w ik bl hd) (v1 v2 : Int32) : ∃ r, fx_watcher v1 v2 S = some r ∧ fm_watcher v1 v2 S = some r := by
  unfold fx_watcher fm_watcher fx_itemOf
  have hI := h.2.2.1.1
  rcases actor_cases h v1 with ⟨a, ha, ha12, rfl, e1, e2⟩ | ⟨e1, e2⟩
  · have hA := h.1.1.2.2.1 a ha
    have hM := h.2.1.1.2.2.1 a ha
    have hx := (hI.fit ha).2.2.2.1
    obtain ⟨l1, l2, l3, l4, l5, l6, l7⟩ := lnA (Or.inl rfl : IsW 1) ha12
    rw [e1, obs, if_neg n10, e2, obs, if_neg n10, ix_n ha12 (by decide), obs]
    rcases nn_cases v2 with hv | ⟨i, hi, rfl⟩
    · rw [if_neg (neg0 hv), if_neg (neg0 hv), obs]
      exact ⟨_, rfl, rfl⟩
    · rw [if_pos (nn0 hi), if_pos (nn0 hi), hA.2.2.2.2.1.1, a51 ha12, obs, hM.2.2.2.2.1.1]
      by_cases g : (aWat (wA w a)).length ≤ i
      · rw [if_pos ((n_le (by omega) hi).mpr g), if_pos ((n_le (by omega) hi).mpr g), obs]
        exact ⟨_, rfl, rfl⟩
      · have hm : (aWat (wA w a))[i]? = some (aWat (wA w a))[i] := List.getElem?_eq_getElem (by omega)
        rw [if_neg (fun q => g ((n_le (by omega) hi).mp q)), if_neg (fun q => g ((n_le (by omega) hi).mp q)), i52, a_v ha12 (by omega), obs, n_at_ok hA.2.2.2.2.1 hm (by rw [l6]; omega) (by rw [l6]; decide), obs, obs, show 77 * a + (52 + i) = 77 * a + 52 + i by omega, hM.2.2.2.2.1.2 i _ hm]
        exact ⟨_, rfl, rfl⟩
  · rw [e1, obs, if_pos rfl, e2, obs, if_pos rfl]
    exact ⟨_, rfl, rfl⟩
theorem e_log (h : REL S w ik bl hd) (v : Int32) : ∃ r, fx_log v S = some r ∧ fm_log v S = some r := by
  unfold fx_log fm_log
  have hI := h.2.2.1.1
  have hP : RP S 7 (wL w) := h.1.1.2.2.2.2.1
  have hL := h.2.1.1.2.2.2.2.1
  have hl := hI.2.2.2.1.1
  obtain ⟨l1, l2, l3, l4, l5⟩ := lnW (Or.inl rfl : IsW 1)
  rcases nn_cases v with hv | ⟨i, hi, rfl⟩
  · rw [if_neg (neg0 hv), if_neg (neg0 hv)]
    exact ⟨_, rfl, rfl⟩
  · rw [if_pos (nn0 hi), if_pos (nn0 hi), hP.1, v962, obs, hL.1]
    by_cases g : (wL w).length ≤ i
    · rw [if_pos ((n_le (by omega) hi).mpr g), if_pos ((n_le (by omega) hi).mpr g)]
      exact ⟨_, rfl, rfl⟩
    · have hm : (wL w)[i]? = some (wL w)[i] := List.getElem?_eq_getElem (by omega)
      rw [if_neg (fun q => g ((n_le (by omega) hi).mp q)), if_neg (fun q => g ((n_le (by omega) hi).mp q)), i963, v_v (by omega), obs, p_first_ok hP hm (by show _ ≤ ln (1 + 6 + 1); rw [l2]; omega) (by show ln (1 + 6 + 1) < _; rw [l2]; decide), obs, p_second_ok hP hm (by show _ ≤ ln (1 + 6 + 2); rw [l3]; omega) (by show ln (1 + 6 + 2) < _; rw [l3]; decide), obs, hL.2 i _ hm]
      exact ⟨_, rfl, rfl⟩
theorem in01 {S : Mem} {v : Int32} : fm_in v 0 1 S = some (if v = 0 ∨ v = 1 then 1 else 0) := by
  rw [in_ok]
  by_cases e : v = 0 ∨ v = 1
  · rw [if_pos e]
    rcases e with rfl | rfl <;> rfl
  · rw [if_neg e, if_neg]
    rintro ⟨q1, q2⟩
    rw [Int32.lt_iff_toInt_lt] at q1 q2
    have h0 : (0 : Int32).toInt = 0 := by decide
    have h1 : (1 : Int32).toInt = 1 := by decide
    have : v.toInt = 0 ∨ v.toInt = 1 := by omega
    rcases this with q | q
    · exact e (Or.inl (Int32.toInt_inj.mp (by rw [q, h0])))
    · exact e (Or.inr (Int32.toInt_inj.mp (by rw [q, h1])))
theorem e_cause (h : REL S w ik bl hd) (v1 v2 : Int32) : ∃ r, fx_cause v1 v2 S = some r ∧ fm_cause v1 v2 S = some r := by
  unfold fx_cause fm_cause
  have hI := h.2.2.1.1
  have hP : RP S 10 (wC w) := h.1.1.2.2.2.2.2
  have hL := h.2.1.1.2.2.2.2.2
  have hl := hI.2.2.2.2.1.1
  obtain ⟨l1, l2, l3, l4, l5⟩ := lnW (Or.inl rfl : IsW 1)
  rcases nn_cases v1 with hv | ⟨i, hi, rfl⟩
  · rw [if_pos hv, if_pos hv]
    exact ⟨_, rfl, rfl⟩
  · rw [if_neg (n_neg hi), if_neg (n_neg hi), in01, obs]
    by_cases e : v2 = 0 ∨ v2 = 1
    · have e1 : ¬ v2 < 0 := by rcases e with rfl | rfl <;> decide
      have e2 : v2 ≤ 1 := by rcases e with rfl | rfl <;> decide
      rw [if_neg e1, if_pos e2, if_pos e, if_neg n10, v993, obs, hL.1, hP.1]
      by_cases g : i < (wC w).length
      · have hx : (wC w)[(wC w).length - 1 - i]? = some (wC w)[(wC w).length - 1 - i] := List.getElem?_eq_getElem (by omega)
        have hr : (wC w).reverse[i]? = some (wC w)[(wC w).length - 1 - i] := by
          rw [List.getElem?_reverse g]
          exact hx
        have hc := hL.2 i _ hr
        have hp : Int32.ofNat (wC w).length - 1 - Int32.ofNat i = Int32.ofNat ((wC w).length - 1 - i) := by
          rw [show (1 : Int32) = Int32.ofNat 1 from rfl, n_sub (by omega), n_sub (by omega)]
        rw [if_pos ((n_lt hi (by omega)).mpr g), if_neg (show ¬ Int32.ofNat (wC w).length ≤ Int32.ofNat i from fun q => by rw [n_le (by omega) hi] at q; omega), hp, i994d]
        rcases e with rfl | rfl
        · rw [if_pos rfl, p_first_ok hP hx (by show _ ≤ ln (1 + 9 + 1); rw [l4]; omega) (by show ln (1 + 9 + 1) < _; rw [l4]; decide), obs, show Int32.ofNat (994 + 2 * i) + 0 = Int32.ofNat (994 + 2 * i) from Int32.add_zero _, v_v (by omega), obs, hc.1]
          exact ⟨_, rfl, rfl⟩
        · rw [if_neg (by decide), p_second_ok hP hx (by show _ ≤ ln (1 + 9 + 2); rw [l5]; omega) (by show ln (1 + 9 + 2) < _; rw [l5]; decide), obs, n_succ, v_v (by omega), obs, hc.2]
          exact ⟨_, rfl, rfl⟩
      · rw [if_neg (fun q => g ((n_lt hi (by omega)).mp q)), if_pos ((n_le (by omega) hi).mpr (by omega))]
        exact ⟨_, rfl, rfl⟩
    · rw [if_neg e, if_pos rfl]
      by_cases e1 : v2 < 0
      · rw [if_pos e1]
        exact ⟨_, rfl, rfl⟩
      · rw [if_neg e1, if_neg]
        · exact ⟨_, rfl, rfl⟩
        · intro q
          rw [Int32.lt_iff_toInt_lt] at e1
          rw [Int32.le_iff_toInt_le] at q
          have h0 : (0 : Int32).toInt = 0 := by decide
          have h1 : (1 : Int32).toInt = 1 := by decide
          have : v2.toInt = 0 ∨ v2.toInt = 1 := by omega
          rcases this with q | q
          · exact e (Or.inl (Int32.toInt_inj.mp (by rw [q, h0])))
          · exact e (Or.inr (Int32.toInt_inj.mp (by rw [q, h1])))
/-! calls that tell -/
theorem num_cases (v : Int32) (S1 S2 : Mem) : (okV v ∧ fx_isNumber v S1 = some 1 ∧ fm_isNumber v S2 = some 1) ∨ (¬ okV v ∧ fx_isNumber v S1 = some 0 ∧ fm_isNumber v S2 = some 0) := by
  have h99 : (99 : Int32).toInt = 99 := by decide
  have h99m : (-99 : Int32).toInt = -99 := by decide
  unfold fx_isNumber fm_isNumber
  rw [in_ok, obs]
  by_cases h : okV v
  · have h1 : ¬ v < -99 := fun q => by
      rw [Int32.lt_iff_toInt_lt] at q
      have := h.1
      omega
    have h2 : ¬ 99 < v := fun q => by
      rw [Int32.lt_iff_toInt_lt] at q
      have := h.2
      omega
    refine Or.inl ⟨h, ?_, ?_⟩
    · rw [if_neg h1, if_neg h2]
    · rw [if_pos ⟨h1, h2⟩]
      rfl
  · refine Or.inr ⟨h, ?_, ?_⟩
    · by_cases h1 : v < -99
      · rw [if_pos h1]
      · rw [if_neg h1, if_pos]
        rw [Int32.lt_iff_toInt_lt] at h1 ⊢
        unfold okV at h
        omega
    · rw [if_neg]
      · rfl
      · rintro ⟨h1, h2⟩
        rw [Int32.lt_iff_toInt_lt] at h1 h2
        unfold okV at h
        omega
theorem kp10 {w w1 : Wst} (h : Kp w w1) : wI w1 10 = wI w 10 := h.2.2.2.2.2 10 (by decide)
/-- a message sent, on both sides -/
theorem send_both (h : REL S w ik bl hd) {a : Nat} {m : Msg} {p n : Int32} (ha : a < wN w) (hm : okM (wN w) m) (hM : MM m p n) : ∃ S1 S2 r, fw_send 1 (Int32.ofNat a) m.1 m.2 S = some (r, S1) ∧ fm_sends (Int32.ofNat a) p n S1 = some (r, S2) ∧ REL S2 (sSend w a m) ik bl hd ∧ r = (if sLive w a = true ∧ (aMail (wA w a)).length < 12 then 1 else 0) ∧ RW S1 1 (sSend w a m) := by
  have hI := h.2.2.1.1
  obtain ⟨S1, g1, g2, g3⟩ := w_send_ok m (Or.inl rfl : IsW 1) h.1.1 hI.1 ha (hI.b ha) (hI.mail ha)
  have hf := fr.of (Or.inl rfl) g3.1
  have hr : RM (wI w 10) (S1 698) w := by
    rw [hf 698 (by omega)]
    exact h.2.1.1
  obtain ⟨f1, k1, k2, -⟩ := m_send_ok (S := S1) hr hI ha hM
  rw [gM_eta] at k1
  refine ⟨S1, gM S1 f1, _, g1, k1, ?_, rfl, g2⟩
  refine h.world g2 hf mf_of ?_ (sSend_good h.2.2.1 hm) (Nat.le_of_eq (sSend_n w a m).symm)
  rw [gM_at, kp10 (sSend_kp w a m)]
  exact k2
theorem e_tell (h : REL S w ik bl hd) (v1 v2 v3 : Int32) : ∃ r S1 S2 w', fx_tell v1 v2 v3 S = some (r, S1) ∧ fm_tell v1 v2 v3 S1 = some (r, S2) ∧ REL S2 w' ik bl hd := by
  have hI := h.2.2.1.1
  have h12 := hI.1
  unfold fx_tell fm_tell
  rcases actor_cases h v1 with ⟨a, ha, ha12, rfl, e1, e2⟩ | ⟨e1, e2⟩
  · have key : ∀ v2 : Int32, okM (wN w) (v2, v3) → okV v3 → ∃ r S1 S2 w', (bd (fw_send 1 (Int32.ofNat a) v2 v3 S) fun x3 S1 => if x3 = 0 then (some ((-5 : Int32), S1)) else ((ix (Int32.ofNat a) 12).bind fun i1 => some (S1 (1 + 12 + 13 * i1 + 3) 2, S1))) = some (r, S1) ∧ (bd (fm_sends (Int32.ofNat a) v2 v3 S1) fun x3 S1 => if x3 = 0 then (some ((-5 : Int32), S1)) else ((fm_at (Int32.ofNat a) 13 S1).bind fun x4 => some (x4, S1))) = some (r, S2) ∧ REL S2 w' ik bl hd ∧ fm_isActor (Int32.ofNat a) S1 = fm_isActor (Int32.ofNat a) S ∧ (fm_isActor v2 S1 = fm_isActor v2 S) := fun v2 hm hv => by
      obtain ⟨S1, S2, r, q1, q2, q3, q4, q5⟩ := send_both h (m := (v2, v3)) ha hm (MM_num hv)
      have hsame : ∀ v, fm_isActor v S1 = fm_isActor v S := fun v => by
        obtain ⟨S1', g1, g2, g3⟩ := w_send_ok (v2, v3) (Or.inl rfl : IsW 1) h.1.1 hI.1 ha (hI.b ha) (hI.mail ha)
        rw [g1] at q1
        have e : S1' = S1 := by
          have := Option.some.inj q1
          exact congrArg Prod.snd this
        have e698 : S1 698 = S 698 := by
          rw [← e]
          exact (fr.of (Or.inl rfl) g3.1) 698 (by omega)
        unfold fm_isActor
        rw [v924, v924, e698]
        rfl
      rw [q1, bd_some]
      by_cases e : sLive w a = true ∧ (aMail (wA w a)).length < 12
      · have hw : wA (sSend w a (v2, v3)) a = aSMail (wA w a) (aMail (wA w a) ++ [(v2, v3)]) := by
          unfold sSend
          rw [if_pos e]
          exact wSA_self
        have r5 : RW S1 1 (sSend w a (v2, v3)) := q5
        have hz := (r5.2.2.1 a (by rw [sSend_n]; exact ha)).2.2.1.1
        have hz2 := (q3.2.1.1.2.2.1 a (by rw [sSend_n]; exact ha)).2.2.1.1
        rw [q4, if_pos e, if_neg (by decide), ix_n ha12 (by decide), obs, hz]
        refine ⟨_, _, S2, _, rfl, ?_, q3, hsame _, hsame _⟩
        rw [q2, bd_some, q4, if_pos e, if_neg n10, a13 ha12, obs, hz2]
      · rw [q4, if_neg e, if_pos rfl]
        refine ⟨_, _, S2, _, rfl, ?_, q3, hsame _, hsame _⟩
        rw [q2, bd_some, q4, if_neg e, if_pos rfl]
    have k0 : ∃ r S1 S2 w', (some ((-1 : Int32), S) : Option (Int32 × Mem)) = some (r, S1) ∧ (some ((-1 : Int32), S1) : Option (Int32 × Mem)) = some (r, S2) ∧ REL S2 w' ik bl hd := ⟨_, _, _, w, rfl, rfl, h⟩
    rw [e1, obs, if_neg n10]
    by_cases g : v2 = -1
    · rw [if_pos g]
      rcases num_cases v3 S S with ⟨hv, n1, -⟩ | ⟨hv, n1, -⟩
      · obtain ⟨r, S1, S2, w', q1, q2, q3, q4, -⟩ := key v2 ⟨Or.inl g, Or.inl hv⟩ hv
        rcases num_cases v3 S S1 with ⟨-, -, n2⟩ | ⟨hv2, -⟩
        · rw [n1, obs, if_neg n10, q1]
          refine ⟨r, S1, S2, w', rfl, ?_, q3⟩
          rw [q4, e2, obs, if_neg n10, if_pos g, n2, obs, if_neg n10]
          exact q2
        · exact absurd hv hv2
      · rcases num_cases v3 S S with ⟨hv2, -⟩ | ⟨-, -, n2⟩
        · exact absurd hv2 hv
        · rw [n1, obs, if_pos rfl]
          refine ⟨_, _, _, w, rfl, ?_, h⟩
          rw [e2, obs, if_neg n10, if_pos g, n2, obs, if_pos rfl]
    · rw [if_neg g]
      rcases actor_cases h v2 with ⟨b, hb, hb12, hbe, b1, b2⟩ | ⟨b1, b2⟩
      · rw [b1, obs, if_neg n10]
        rcases num_cases v3 S S with ⟨hv, n1, -⟩ | ⟨hv, n1, -⟩
        · obtain ⟨r, S1, S2, w', q1, q2, q3, q4, q5⟩ := key v2 ⟨Or.inr ⟨b, hb, hbe⟩, Or.inl hv⟩ hv
          rcases num_cases v3 S S1 with ⟨-, -, n2⟩ | ⟨hv2, -⟩
          · rw [n1, obs, if_neg n10, q1]
            refine ⟨r, S1, S2, w', rfl, ?_, q3⟩
            rw [q4, e2, obs, if_neg n10, if_neg g, q5, b2, obs, if_neg n10, n2, obs, if_neg n10]
            exact q2
          · exact absurd hv hv2
        · rcases num_cases v3 S S with ⟨hv2, -⟩ | ⟨-, -, n2⟩
          · exact absurd hv2 hv
          · rw [n1, obs, if_pos rfl]
            refine ⟨_, _, _, w, rfl, ?_, h⟩
            rw [e2, obs, if_neg n10, if_neg g, b2, obs, if_neg n10, n2, obs, if_pos rfl]
      · rw [b1, obs, if_pos rfl]
        refine ⟨_, _, _, w, rfl, ?_, h⟩
        rw [e2, obs, if_neg n10, if_neg g, b2, obs, if_pos rfl]
  · rw [e1, obs, if_pos rfl]
    refine ⟨_, _, _, w, rfl, ?_, h⟩
    rw [e2, obs, if_pos rfl]
theorem e_seed (h : REL S w ik bl hd) (v : Int32) : ∃ r S1 S2 w', fx_seed v S = some (r, S1) ∧ fm_seed v S1 = some (r, S2) ∧ REL S2 w' ik bl hd := by
  have hI := h.2.2.1.1
  have r1 : RW (up2 S 1 9 v) 1 (wSI w 9 v) := h.1.1.int (by decide)
  have hf : fr S (up2 S 1 9 v) := fr.of (Or.inl rfl) (Only.refl.up ⟨by omega, by omega⟩)
  have hr : RM (wI w 10) ((up2 S 1 9 v) 698) w := by
    rw [hf 698 (by omega)]
    exact h.2.1.1
  have r2 := hr.i9 (v := v) hI
  have e1 := g_929 (S := up2 S 1 9 v) (f := (up2 S 1 9 v) 698)
  have e2 := gs_929 (S := up2 S 1 9 v) (f := (up2 S 1 9 v) 698) (v := v)
  rw [gM_eta] at e1 e2
  unfold fx_seed fm_seed
  rw [obs, h.1.1.2.1 9 (by decide) (by decide)]
  refine ⟨_, _, _, wSI w 9 v, rfl, ?_, h.world r1 hf (mf_of (g := upd ((up2 S 1 9 v) 698) 929 v)) ?_ (h.2.2.1.int8 (by decide)) (Nat.le_refl _)⟩
  · rw [e1, obs, e2, obs, hr.2.1.2.2.2.2.1]
  · rw [gM_at]
    exact r2
theorem steps_cases (v : Int32) (S1 S2 : Mem) : (∃ k, 1 ≤ k ∧ k ≤ 200 ∧ v = Int32.ofNat k ∧ fx_isSteps v S1 = some 1 ∧ fm_in v 1 200 S2 = some 1) ∨ (fx_isSteps v S1 = some 0 ∧ fm_in v 1 200 S2 = some 0) := by
  unfold fx_isSteps
  rw [in_ok]
  by_cases h1 : v < 1
  · rw [if_pos h1, if_neg (fun q => q.1 h1)]
    exact Or.inr ⟨rfl, rfl⟩
  · rw [if_neg h1]
    by_cases h2 : 200 < v
    · rw [if_pos h2, if_neg (fun q => q.2 h2)]
      exact Or.inr ⟨rfl, rfl⟩
    · rw [if_neg h2, if_pos ⟨h1, h2⟩]
      rcases nn_cases v with hv | ⟨k, hk, rfl⟩
      · exfalso
        rw [Int32.lt_iff_toInt_lt] at h1 hv
        have h0 : (0 : Int32).toInt = 0 := by decide
        have h1 : (1 : Int32).toInt = 1 := by decide
        omega
      · rw [show (1 : Int32) = Int32.ofNat 1 from rfl, n_lt hk (by decide)] at h1
        rw [show (200 : Int32) = Int32.ofNat 200 from rfl, n_lt (by decide) hk] at h2
        exact Or.inl ⟨k, by omega, by omega, rfl, rfl, rfl⟩
theorem e_run (h : REL S w ik bl hd) (v : Int32) : ∃ r S1 S2 w', fx_run v S = some (r, S1) ∧ fm_run v S1 = some (r, S2) ∧ REL S2 w' ik bl hd := by
  have hg := h.2.2.1
  unfold fx_run fm_run
  rcases steps_cases v S S with ⟨k, hk1, hk2, rfl, e1, -⟩ | ⟨e1, -⟩
  · obtain ⟨S1, q1, q2, q3⟩ := w_run_ok (k := k) (Or.inl rfl : IsW 1) h.1.1 hg (by omega)
    have hf := fr.of (Or.inl rfl) q3
    have hr : RM (wI w 10) (S1 698) w := by
      rw [hf 698 (by omega)]
      exact h.2.1.1
    obtain ⟨S2, f2, m1, m2, m3, m4⟩ := m_run_ok (S := S1) (k := k) hr hg (by omega)
    rw [gM_eta] at m1
    have hgr := run_good (k := k) hg
    have r2 := m2.i10 (v := S2 697 18) hgr.1
    rw [e1, obs, if_neg n10, q1, bd_some]
    have e2 : fm_in (Int32.ofNat k) 1 200 S1 = some 1 := by
      rcases steps_cases (Int32.ofNat k) S S1 with ⟨_, _, _, _, _, q⟩ | ⟨q, -⟩
      · exact q
      · rw [e1] at q
        exact absurd (Option.some.inj q) (by decide)
    have hmf : mf S1 (gM S2 (upd f2 930 (S2 697 18))) := by
      have := m3.mf (f := S1 698) (g := upd f2 930 (S2 697 18))
      rwa [gM_eta] at this
    refine ⟨_, S1, gM S2 (upd f2 930 (S2 697 18)), (sRun w k).1, rfl, ?_, h.world q2 hf hmf ?_ hgr ?_⟩
    · rw [e2, obs, if_neg n10, m1, bd_some, gM_off (by decide), gs_930, obs]
    · rw [gM_at, ← m4]
      exact r2
    · exact Nat.le_of_eq (run_n k hg).symm
  · have e2 : fm_in v 1 200 S = some 0 := by
      rcases steps_cases v S S with ⟨_, _, _, _, q, _⟩ | ⟨-, q⟩
      · rw [e1] at q
        exact absurd (Option.some.inj q) (by decide)
      · exact q
    rw [e1, obs, if_pos rfl]
    refine ⟨_, _, _, w, rfl, ?_, h⟩
    rw [e2, obs, if_pos rfl]
end
