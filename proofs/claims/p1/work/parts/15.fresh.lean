/-! 15: one call on fresh cells -/
theorem i14 : I0 1 4 = 0 := by decide +kernel
theorem i924 : I0 698 924 = 0 := by decide +kernel
theorem wA {S : Mem} (h : S 1 4 = 0) (v : Int32) : fw_isActor 1 v S = some 0 := by
  unfold fw_isActor
  rw [h]
  split
  · rfl
  · rename_i g
    rw [if_pos (Int32.not_lt.mp g)]
theorem wL {S : Mem} (h : S 1 4 = 0) (v : Int32) : fw_isLive 1 v S = some 0 := by
  unfold fw_isLive
  rw [h]
  split
  · rfl
  · rename_i g
    rw [if_pos (Int32.not_lt.mp g)]
theorem mIn0 {S : Mem} (v : Int32) : fm_in v 0 (0 - 1) S = some 0 := by
  unfold fm_in
  split
  · rfl
  · rename_i g
    rw [if_pos]
    have := Int32.not_lt.mp g
    rw [Int32.le_iff_toInt_le] at this
    rw [Int32.lt_iff_toInt_lt]
    have e : (0 - 1 : Int32).toInt = -1 := by decide
    have e2 : (0 : Int32).toInt = 0 := by decide
    omega
theorem mA {S : Mem} (h : S 698 924 = 0) (v : Int32) : fm_isActor v S = some 0 := by
  unfold fm_isActor
  rw [ald_k 924 (by decide +kernel), obs, h, mIn0, obs]
  rfl
theorem e_tell (v1 v2 v3 : Int32) : fx_tell v1 v2 v3 I0 = some (-1, I0) ∧ fm_tell v1 v2 v3 I0 = some (-1, I0) := by
  unfold fx_tell fm_tell
  rw [wA i14, mA i924]
  exact ⟨rfl, rfl⟩
theorem e_of (v1 v2 : Int32) : fx_of v1 v2 I0 = some (-1) ∧ fm_of v1 v2 I0 = some (-1, I0) := by
  unfold fx_of fm_of
  rw [wA i14, mA i924]
  exact ⟨rfl, rfl⟩
theorem e_counted (v1 : Int32) : fx_counted v1 I0 = some (-2000000000) ∧ fm_counted v1 I0 = some (-2000000000) := by
  unfold fx_counted fm_counted
  rw [wA i14, mA i924]
  exact ⟨rfl, rfl⟩
theorem e_message (v1 v2 v3 : Int32) : fx_message v1 v2 v3 I0 = some (-1) ∧ fm_message v1 v2 v3 I0 = some (-1) := by
  unfold fx_message fm_message
  rw [wA i14, mA i924]
  exact ⟨rfl, rfl⟩
theorem e_sender (v1 v2 v3 : Int32) : fx_sender v1 v2 v3 I0 = some (-2) ∧ fm_sender v1 v2 v3 I0 = some (-2) := by
  unfold fx_sender fm_sender
  rw [wA i14, mA i924]
  exact ⟨rfl, rfl⟩
theorem e_stack (v1 v2 : Int32) : fx_stack v1 v2 I0 = some (-1) ∧ fm_stack v1 v2 I0 = some (-1) := by
  unfold fx_stack fm_stack
  rw [wA i14, mA i924]
  exact ⟨rfl, rfl⟩
theorem e_watcher (v1 v2 : Int32) : fx_watcher v1 v2 I0 = some (-1) ∧ fm_watcher v1 v2 I0 = some (-1) := by
  unfold fx_watcher fm_watcher
  rw [wA i14, mA i924]
  exact ⟨rfl, rfl⟩
theorem e_stop (v1 : Int32) : fx_stop v1 I0 = some (-1, I0) ∧ fm_stop v1 I0 = some (-1, I0) := by
  unfold fx_stop fm_stop
  rw [wA i14, mA i924]
  exact ⟨rfl, rfl⟩
theorem e_would (v1 v2 v3 : Int32) : fx_would v1 v2 v3 I0 = some (-2000000000, I0) ∧ fm_would v1 v2 v3 I0 = some (-2000000000, I0) := by
  unfold fx_would fm_would
  rw [wL i14, mA i924]
  exact ⟨rfl, rfl⟩
theorem e_brings (v1 v2 : Int32) : fx_brings v1 v2 I0 = some (-2000000000, I0) ∧ fm_brings v1 v2 I0 = some (-2000000000, I0) := by
  unfold fx_brings fm_brings
  rw [wL i14, mA i924]
  exact ⟨rfl, rfl⟩
theorem e_reach (v1 v2 : Int32) : fx_reach v1 v2 I0 = some (-1) ∧ fm_reach v1 v2 I0 = some (-1, I0) := by
  unfold fx_reach fm_reach
  rw [wA i14, mA i924]
  exact ⟨rfl, rfl⟩
theorem e_timer (v1 v2 : Int32) : ∃ r, fx_timer v1 v2 I0 = some r ∧ fm_timer v1 v2 I0 = some r := by
  unfold fx_timer fm_timer
  rw [mIn]
  by_cases h1 : v1 < 0
  · rw [if_pos h1, if_pos h1]
    exact ⟨_, rfl, rfl⟩
  rw [if_neg h1, if_neg h1]
  by_cases h2 : v2 < 0
  · rw [if_pos h2, if_pos h2]
    exact ⟨_, rfl, rfl⟩
  rw [if_neg h2, if_neg h2]
  by_cases h3 : v2 ≤ 2
  · rw [if_pos h3, if_neg (Int32.not_lt.mpr h3)]
    rw [if_neg (show ¬ v1 < I0 3 3 from h1)]
    refine ⟨-2, rfl, ?_⟩
    show fm_timer_17b (fm_timer_17 2999) v1 v2 0 I0 = _
    unfold fm_timer_17b
    rw [ald_k 931 (by decide +kernel), obs, if_pos (by decide +kernel)]
  · rw [if_neg h3, if_pos (Int32.not_le.mp h3)]
    exact ⟨_, rfl, rfl⟩
theorem e_ended : fx_ended I0 = some 0 ∧ fm_ended I0 = some 0 := by decide +kernel
theorem e_log (v1 : Int32) : ∃ r, fx_log v1 I0 = some r ∧ fm_log v1 I0 = some r := by
  unfold fx_log fm_log
  by_cases h1 : 0 ≤ v1
  · rw [if_pos h1, if_pos h1, if_pos (show I0 7 2 ≤ v1 from h1), ald_k 962 (by decide +kernel), obs, if_pos (show I0 698 962 ≤ v1 from h1)]
    exact ⟨_, rfl, rfl⟩
  · rw [if_neg h1, if_neg h1]
    exact ⟨_, rfl, rfl⟩
theorem e_cause (v1 v2 : Int32) : ∃ r, fx_cause v1 v2 I0 = some r ∧ fm_cause v1 v2 I0 = some r := by
  unfold fx_cause fm_cause
  rw [mIn]
  by_cases h1 : v1 < 0
  · rw [if_pos h1, if_pos h1]
    exact ⟨_, rfl, rfl⟩
  rw [if_neg h1, if_neg h1]
  by_cases h2 : v2 < 0
  · rw [if_pos h2, if_pos h2]
    exact ⟨_, rfl, rfl⟩
  rw [if_neg h2, if_neg h2]
  by_cases h3 : v2 ≤ 1
  · rw [if_pos h3, if_neg (Int32.not_lt.mpr h3), if_neg (show ¬ v1 < I0 10 2 from h1), obs, if_neg (by decide), ald_k 993 (by decide +kernel), obs, if_pos (show I0 698 993 ≤ v1 from Int32.not_lt.mp h1)]
    exact ⟨_, rfl, rfl⟩
  · rw [if_neg h3, if_pos (Int32.not_le.mp h3)]
    exact ⟨_, rfl, rfl⟩
/-! runs -/
theorem lf_makeSteps (n : Nat) : fw_makeSteps_10 (n + 1) = fw_makeSteps_10b (fw_makeSteps_10 n) := rfl
theorem e_steps {W : Nat} {S : Mem} (v1 : Int32) (h : fw_howItStands W S = some 1) : fw_makeSteps W v1 S = some (0, up2 S W 10 1) := by
  unfold fw_makeSteps
  rw [h, obs, obs, lf_makeSteps 2999]
  unfold fw_makeSteps_10b
  by_cases g : v1 ≤ 0
  · rw [if_pos g]
  · rw [if_neg g]
    have e : up2 S W 10 1 W 10 = 1 := by simp [up2, xup, upd]
    rw [e]
    rfl
theorem lf_runs (n : Nat) : fm_runs_2 (n + 1) = fm_runs_2b (fm_runs_2 n) := rfl
theorem e_isEnd {S : Mem} (v1 v2 : Int32) (h1 : S 698 924 = 0) (h2 : fm_hasStep S = some 0) : fm_isEnd v1 v2 S = some (1, up2 S 697 18 1) := by
  unfold fm_isEnd
  rw [ald_k 924 (by decide +kernel), obs, h1, if_pos (by decide)]
  unfold fm_isEnd_24
  rw [h2]
  rw [obs, if_pos rfl, obs]
  have e : up2 S 697 18 1 697 18 = 1 := by simp [up2, xup, upd]
  rw [e, if_pos (by decide)]
theorem e_runs {S : Mem} (v1 : Int32) (h1 : S 698 924 = 0) (h2 : fm_hasStep S = some 0) : fm_runs v1 S = some (0, up2 S 697 18 1) := by
  unfold fm_runs
  rw [lf_runs 2999]
  unfold fm_runs_2b
  rw [e_isEnd _ _ h1 h2]
  rfl
theorem e_run (v1 : Int32) : ∃ r S1 S2, fx_run v1 I0 = some (r, S1) ∧ fm_run v1 S1 = some (r, S2) := by
  unfold fx_run fm_run fx_isSteps
  simp only [mIn]
  by_cases h1 : v1 < 1
  · simp only [if_pos h1]
    exact ⟨_, _, _, rfl, rfl⟩
  simp only [if_neg h1]
  by_cases h2 : 200 < v1
  · simp only [if_pos h2]
    exact ⟨_, _, _, rfl, rfl⟩
  simp only [if_neg h2, obs]
  refine ⟨0, up2 I0 1 10 1, (up2 (up2 I0 1 10 1) 697 18 1 |> fun T => up2 T 698 930 (T 697 18)), ?_, ?_⟩
  · rw [if_neg (by decide), e_steps v1 (by decide +kernel)]
    rfl
  · rw [if_neg (by decide), e_runs v1 (by decide +kernel) (by decide +kernel), bd_some, ast_k 930 (by decide +kernel)]
    rfl
def cW : Mem := (fw_copyFrom 169 1 I0).getD I0
theorem hcW : fw_copyFrom 169 1 I0 = some cW := by
  obtain ⟨x, hx⟩ := getS (show (fw_copyFrom 169 1 I0).isSome = true by decide +kernel)
  unfold cW
  rw [hx]
  rfl
def mW (S : Mem) : Mem := (fm_take 698 699 S).getD S
def okP (f : Option (Int32 × Mem)) (g : Mem → Option (Int32 × Mem)) : Bool := match f with
  | some (r, S1) => match g S1 with
    | some (r2, _) => decide (r = r2)
    | none => false
  | none => false
theorem okP_of {f : Option (Int32 × Mem)} {g : Mem → Option (Int32 × Mem)} (h : okP f g = true) : ∃ r S1 S2, f = some (r, S1) ∧ g S1 = some (r, S2) := by
  unfold okP at h
  split at h
  · split at h
    · rename_i r S1 _ r2 S2 hg
      exact ⟨r, S1, S2, rfl, by rw [hg, of_decide_eq_true h]⟩
    · cases h
  · cases h
theorem up6 {v : Int32} (h1 : ¬ v < 0) (h2 : v ≤ 5) : v = 0 ∨ v = 1 ∨ v = 2 ∨ v = 3 ∨ v = 4 ∨ v = 5 := by
  rw [Int32.lt_iff_toInt_lt] at h1
  rw [Int32.le_iff_toInt_le] at h2
  have e0 : (0 : Int32).toInt = 0 := by decide
  have e5 : (5 : Int32).toInt = 5 := by decide
  have hv : v = Int32.ofInt v.toInt := (Int32.ofInt_toInt v).symm
  have : v.toInt = 0 ∨ v.toInt = 1 ∨ v.toInt = 2 ∨ v.toInt = 3 ∨ v.toInt = 4 ∨ v.toInt = 5 := by omega
  rcases this with h | h | h | h | h | h
  all_goals rw [h] at hv
  · exact Or.inl hv
  · exact Or.inr (Or.inl hv)
  · exact Or.inr (Or.inr (Or.inl hv))
  · exact Or.inr (Or.inr (Or.inr (Or.inl hv)))
  · exact Or.inr (Or.inr (Or.inr (Or.inr (Or.inl hv))))
  · exact Or.inr (Or.inr (Or.inr (Or.inr (Or.inr hv))))
def dS : Mem := up2 cW 169 10 1
theorem dryX {v1 : Int32} (v2 s : Int32) (h1 : ¬ v1 < 1) (h2 : ¬ 200 < v1) : fx_dry_34 v1 v2 s I0 = fx_dry_34 1 v2 s I0 := by
  unfold fx_dry_34 fx_isSteps
  rw [if_neg h1, if_neg h2, if_neg (by decide : ¬ (1 : Int32) < 1), if_neg (by decide : ¬ (200 : Int32) < 1), hcW]
  simp only [obs]
  rw [e_steps v1 (by decide +kernel), e_steps 1 (by decide +kernel)]
theorem dryM (v1 v2 : Int32) : fm_dry_40 v1 v2 dS = fm_dry_40 1 v2 dS := by
  unfold fm_dry_40
  obtain ⟨T, hT⟩ := getS (show (fm_take 698 699 dS).isSome = true by decide +kernel)
  have g1 : (match fm_take 698 699 dS with | some T => decide (T 698 924 = 0) && decide (fm_hasStep T = some 0) | none => false) = true := by decide +kernel
  rw [hT] at g1
  simp only [Bool.and_eq_true, decide_eq_true_eq] at g1
  rw [hT]
  simp only [obs]
  rw [e_runs v1 g1.1 g1.2, e_runs 1 g1.1 g1.2]
theorem dry_s (v2 : Int32) {r : Int32} {S1 : Mem} (h : fx_dry_34 1 v2 1 I0 = some (r, S1)) : S1 = dS := by
  unfold fx_dry_34 fx_isSteps at h
  rw [if_neg (by decide : ¬ (1 : Int32) < 1), if_neg (by decide : ¬ (200 : Int32) < 1), hcW] at h
  simp only [obs] at h
  rw [if_neg (by decide), if_neg (by decide), e_steps 1 (by decide +kernel), bd_some] at h
  have hb : fw_isActor 169 (v2 - 10) (up2 cW 169 10 1) = some 0 := by
    unfold fw_isActor
    rw [show up2 cW 169 10 1 169 4 = 0 by decide +kernel]
    split
    · rfl
    · rename_i g
      rw [if_pos (Int32.not_lt.mp g)]
  have hl : ∃ x, fw_liveBits 169 (up2 cW 169 10 1) = some x := getS (by decide +kernel)
  obtain ⟨x, hx⟩ := hl
  rw [hb, hx] at h
  simp only [obs] at h
  by_cases q0 : v2 = 0
  · rw [if_pos q0] at h
    exact (so2 h).2.symm
  rw [if_neg q0] at h
  by_cases q1 : v2 = 1
  · rw [if_pos q1] at h
    exact (so2 h).2.symm
  rw [if_neg q1] at h
  by_cases q2 : v2 = 2
  · rw [if_pos q2] at h
    exact (so2 h).2.symm
  rw [if_neg q2] at h
  by_cases q3 : v2 = 3
  · rw [if_pos q3] at h
    exact (so2 h).2.symm
  rw [if_neg q3] at h
  by_cases q4 : v2 = 4
  · rw [if_pos q4] at h
    exact (so2 h).2.symm
  rw [if_neg q4] at h
  by_cases q5 : v2 = 5
  · rw [if_pos q5] at h
    exact (so2 h).2.symm
  rw [if_neg q5, if_pos (by trivial)] at h
  exact (so2 h).2.symm
theorem e_dry (v1 v2 : Int32) : ∃ r S1 S2, fx_dry v1 v2 I0 = some (r, S1) ∧ fm_dry v1 v2 S1 = some (r, S2) := by
  by_cases h1 : v1 < 1 ∨ 200 < v1
  · have hx : ∀ s, fx_dry_34 v1 v2 s I0 = some (-2000000000, I0) := fun s => by
      unfold fx_dry_34 fx_isSteps
      by_cases g : v1 < 1
      · rw [if_pos g]
        rfl
      · rw [if_neg g, if_pos (h1.resolve_left g)]
        rfl
    refine ⟨-2000000000, I0, I0, ?_, ?_⟩
    · unfold fx_dry
      rw [wA i14, obs, if_pos rfl, hx, hx]
      split
      · split <;> rfl
      · split
        · rfl
        · split <;> rfl
    · unfold fm_dry
      rw [mIn]
      by_cases g : v1 < 1
      · rw [if_pos g]
        rfl
      · rw [if_neg g, if_pos (h1.resolve_left g)]
        rfl
  have g1 : ¬ v1 < 1 := fun q => h1 (Or.inl q)
  have g2 : ¬ 200 < v1 := fun q => h1 (Or.inr q)
  by_cases h2 : v2 < 0 ∨ 5 < v2
  · have hx : fx_dry_34 v1 v2 0 I0 = some (-2000000000, I0) := by
      unfold fx_dry_34 fx_isSteps
      rw [if_neg g1, if_neg g2]
      rfl
    refine ⟨-2000000000, I0, I0, ?_, ?_⟩
    · unfold fx_dry
      rw [wA i14, obs, if_pos rfl, hx]
      by_cases g : v2 < 0
      · rw [if_pos g]
        split <;> rfl
      · rw [if_neg g, if_neg (Int32.not_le.mpr (h2.resolve_left g))]
        split <;> rfl
    · unfold fm_dry
      rw [mIn, if_neg g1, if_neg g2, obs, if_neg (by decide), mIn, mA i924]
      by_cases g : v2 < 0
      · rw [if_pos g, obs, if_pos rfl]
        split <;> rfl
      · rw [if_neg g, if_pos (h2.resolve_left g), obs, if_pos rfl]
        split <;> rfl
  have g3 : ¬ v2 < 0 := fun q => h2 (Or.inl q)
  have g4 : v2 ≤ 5 := Int32.not_lt.mp fun q => h2 (Or.inr q)
  have key : ∃ r S1 S2, fx_dry_34 1 v2 1 I0 = some (r, S1) ∧ fm_dry_40 1 v2 S1 = some (r, S2) := by
    rcases up6 g3 g4 with rfl | rfl | rfl | rfl | rfl | rfl
    all_goals exact okP_of (by decide +kernel)
  obtain ⟨r, S1, S2, k1, k2⟩ := key
  have hS := dry_s v2 k1
  subst hS
  refine ⟨r, dS, S2, ?_, ?_⟩
  · unfold fx_dry
    rw [if_neg g3, if_pos g4, dryX v2 1 g1 g2]
    exact k1
  · unfold fm_dry
    rw [mIn, if_neg g1, if_neg g2, obs, if_neg (by decide), mIn, if_neg g3, if_neg (Int32.not_lt.mpr g4), obs, if_neg (by decide), dryM]
    exact k2
set_option maxRecDepth 100000 in
theorem e_first : ∃ r S1 S2, fx_first I0 = some (r, S1) ∧ fm_first S1 = some (r, S2) := okP_of (by decide +kernel)
set_option maxRecDepth 100000 in
theorem e_quiet : ∃ r S1 S2, fx_quiet I0 = some (r, S1) ∧ fm_quiet S1 = some (r, S2) := okP_of (by decide +kernel)
set_option maxRecDepth 100000 in
theorem e_script : ∃ r S1 S2, fx_script I0 = some (r, S1) ∧ fm_script S1 = some (r, S2) := okP_of (by decide +kernel)
set_option maxRecDepth 100000 in
theorem e_image : ∃ r S1 S2, fx_image I0 = some (r, S1) ∧ fm_image S1 = some (r, S2) := okP_of (by decide +kernel)
theorem e_back : ∃ r S1 S2, fx_back I0 = some (r, S1) ∧ fm_back S1 = some (r, S2) := okP_of (by decide +kernel)
theorem e_feed (v1 : Int32) : ∃ r S1 S2, fx_feed v1 I0 = some (r, S1) ∧ fm_feed v1 S1 = some (r, S2) := by
  unfold fx_feed fm_feed
  simp only [mIn]
  by_cases h1 : v1 < 0
  · simp only [if_pos h1]
    exact ⟨_, _, _, rfl, rfl⟩
  simp only [if_neg h1]
  by_cases h2 : v1 ≤ 255
  · simp only [if_pos h2, if_neg (Int32.not_lt.mpr h2), obs]
    unfold fn_add
    refine ⟨1, up2 (up2 I0 675 0 v1) 674 1 1, ?w, ?hf, ?hg⟩
    case hf =>
      rw [if_neg (by decide +kernel), if_pos (by decide +kernel), ast_k 0 (by decide +kernel), obs, obs, bd_some, if_neg (by decide)]
      rfl
    case hg =>
      have e : up2 (up2 I0 675 0 v1) 674 1 1 697 11 = 0 := by rw [up2_ne (by decide), up2_ne (by decide)]; decide +kernel
      rw [if_neg (by decide), e, if_neg (by decide), ast_k 0 (by decide +kernel), obs, up2_ne (by decide), up2_self]
      rfl
  · simp only [if_neg h2, if_pos (Int32.not_le.mp h2)]
    exact ⟨_, _, _, rfl, rfl⟩
theorem e_drawn (v1 : Int32) : ∃ r S1 S2, fx_drawn v1 I0 = some (r, S1) ∧ fm_drawn v1 S1 = some (r, S2) := by
  unfold fx_drawn fm_drawn
  simp only [mIn]
  by_cases h1 : v1 < 1
  · simp only [if_pos h1]
    exact ⟨_, _, _, rfl, rfl⟩
  simp only [if_neg h1]
  by_cases h2 : v1 ≤ 40
  · simp only [if_pos h2, if_neg (Int32.not_lt.mpr h2), if_pos i14, obs]
    refine ⟨-5, I0, I0, rfl, ?_⟩
    rw [if_neg (by decide), ald_k 924 (by decide +kernel), obs, if_pos i924]
  · simp only [if_neg h2, if_pos (Int32.not_le.mp h2)]
    exact ⟨_, _, _, rfl, rfl⟩
theorem e_seed (v1 : Int32) : ∃ r S1 S2, fx_seed v1 I0 = some (r, S1) ∧ fm_seed v1 S1 = some (r, S2) := by
  unfold fx_seed fm_seed
  refine ⟨1, up2 I0 1 9 v1, ?w, rfl, ?hg⟩
  case hg =>
    rw [ald_k 929 (by decide +kernel), obs, ast_k 929 (by decide +kernel), obs, up2_ne (by decide)]
    rfl
theorem I0z {a f : Nat} (h : 505 < a) (h2 : a ≠ 698) : I0 a f = 0 := by
  unfold I0
  rw [if_neg h2, if_neg (by omega)]
theorem ix_ok {v : Int32} {N : Nat} (h1 : ¬ v < 0) (h2 : v.toNatClampNeg < N) : ix v N = some v.toNatClampNeg := by
  unfold ix
  rw [if_neg (fun q => q.elim h1 fun q => by omega)]
theorem clamp_lt {v : Int32} {n : Nat} {k : Int32} (h1 : ¬ v < 0) (h2 : ¬ k ≤ v) (hk : k.toInt = n) : v.toNatClampNeg < n := by
  rw [Int32.le_iff_toInt_le] at h2
  rw [Int32.lt_iff_toInt_lt] at h1
  show v.toInt.toNat < n
  have e0 : (0 : Int32).toInt = 0 := by decide
  omega
theorem ast_ok {S : Mem} {a : Nat} {j x : Int32} (h1 : ¬ j < 0) (h2 : j.toNatClampNeg < ln a) : ast S a j x = some (up2 S a j.toNatClampNeg x) := by
  unfold ast
  rw [if_neg (fun q => q.elim h1 fun q => by omega)]
theorem ald_ok {S : Mem} {a : Nat} {j : Int32} (h1 : ¬ j < 0) (h2 : j.toNatClampNeg < ln a) : ald S a j = some (S a j.toNatClampNeg) := by
  unfold ald
  rw [if_neg (fun q => q.elim h1 fun q => by omega)]
theorem six {v : Int32} (h : ¬ 6 ≤ v) : ¬ 5 < v := by
  rw [Int32.le_iff_toInt_le] at h
  rw [Int32.lt_iff_toInt_lt]
  have e5 : (5 : Int32).toInt = 5 := by decide
  have e6 : (6 : Int32).toInt = 6 := by decide
  omega
theorem mH {S : Mem} {v1 : Int32} (h1 : ¬ v1 < 0) (h2 : ¬ 6 ≤ v1) : fm_isHandle v1 S = some 1 := by
  unfold fm_isHandle
  rw [mIn, if_neg h1, if_neg (six h2)]
  rfl
theorem mHn {S : Mem} {v1 : Int32} (h : v1 < 0 ∨ 6 ≤ v1) : fm_isHandle v1 S = some 0 := by
  unfold fm_isHandle
  rw [mIn]
  by_cases g : v1 < 0
  · rw [if_pos g]
    rfl
  · have h2 := h.resolve_left g
    rw [if_neg g, if_pos]
    · rfl
    · rw [Int32.le_iff_toInt_le] at h2
      rw [Int32.lt_iff_toInt_lt]
      have e5 : (5 : Int32).toInt = 5 := by decide
      have e6 : (6 : Int32).toInt = 6 := by decide
      omega
theorem xH {S : Mem} {v1 : Int32} (h1 : ¬ v1 < 0) (h2 : ¬ 6 ≤ v1) : fx_isHandle v1 S = some 1 := by
  unfold fx_isHandle
  rw [if_neg h1, if_neg h2]
theorem xHn {S : Mem} {v1 : Int32} (h : v1 < 0 ∨ 6 ≤ v1) : fx_isHandle v1 S = some 0 := by
  unfold fx_isHandle
  by_cases g : v1 < 0
  · rw [if_pos g]
  · rw [if_neg g, if_pos (h.resolve_left g)]
theorem h10 : ¬ (1 : Int32) = 0 := by decide
theorem e_order (v1 v2 : Int32) : ∃ r S1 S2, fx_order v1 v2 I0 = some (r, S1) ∧ fm_order v1 v2 S1 = some (r, S2) := by
  unfold fx_order fm_order
  by_cases h : v1 < 0 ∨ 6 ≤ v1
  · simp only [xHn h, mHn h]
    exact ⟨_, _, _, rfl, rfl⟩
  have h1 : ¬ v1 < 0 := fun q => h (Or.inl q)
  have h2 : ¬ 6 ≤ v1 := fun q => h (Or.inr q)
  have h3 := clamp_lt (n := 6) h1 h2 (by decide)
  have z1 : I0 (679 + 3 * v1.toNatClampNeg) 1 = 0 := I0z (by omega) (by omega)
  have z2 : I0 704 v1.toNatClampNeg = 0 := I0z (by omega) (by omega)
  refine ⟨-11, I0, I0, ?_, ?_⟩
  · rw [xH h1 h2, obs, if_neg h10, ix_ok h1 h3, obs, if_pos z1]
  · rw [mH h1 h2, obs, if_neg h10, ald_ok h1 (by rw [ln704]; exact h3), obs, z2, if_neg (by decide), obs, if_pos rfl]
theorem e_put (v1 v2 v3 : Int32) : ∃ r S1 S2, fx_put v1 v2 v3 I0 = some (r, S1) ∧ fm_put v1 v2 v3 S1 = some (r, S2) := by
  unfold fx_put fm_put
  by_cases h : v1 < 0 ∨ 6 ≤ v1
  · simp only [xHn h, mHn h]
    exact ⟨_, _, _, rfl, rfl⟩
  have h1 : ¬ v1 < 0 := fun q => h (Or.inl q)
  have h2 : ¬ 6 ≤ v1 := fun q => h (Or.inr q)
  have h3 := clamp_lt (n := 6) h1 h2 (by decide)
  have z1 : I0 (679 + 3 * v1.toNatClampNeg) 1 = 0 := I0z (by omega) (by omega)
  have z2 : I0 704 v1.toNatClampNeg = 0 := I0z (by omega) (by omega)
  refine ⟨-2000000000, I0, I0, ?_, ?_⟩
  · rw [xH h1 h2, obs, if_neg h10, ix_ok h1 h3, obs, z1, if_neg (by decide)]
  · rw [mH h1 h2, obs, if_neg h10, ald_ok h1 (by rw [ln704]; exact h3), obs, z2, if_neg (by decide)]
theorem e_tells (v1 v2 : Int32) : ∃ r, fx_tells v1 v2 I0 = some r ∧ fm_tells v1 v2 I0 = some r := by
  unfold fx_tells fm_tells
  by_cases h : v1 < 0 ∨ 6 ≤ v1
  · simp only [xHn h, mHn h]
    exact ⟨_, rfl, rfl⟩
  have h1 : ¬ v1 < 0 := fun q => h (Or.inl q)
  have h2 : ¬ 6 ≤ v1 := fun q => h (Or.inr q)
  have h3 := clamp_lt (n := 6) h1 h2 (by decide)
  have z1 : I0 (679 + 3 * v1.toNatClampNeg) 1 = 0 := I0z (by omega) (by omega)
  have z2 : I0 704 v1.toNatClampNeg = 0 := I0z (by omega) (by omega)
  refine ⟨-2000000000, ?_, ?_⟩
  · rw [xH h1 h2, obs, if_neg h10]
    by_cases g1 : v2 < 0
    · rw [if_pos g1]
    by_cases g2 : 3 < v2
    · rw [if_neg g1, if_pos g2]
    rw [if_neg g1, if_neg g2, ix_ok h1 h3, obs, if_pos z1]
  · rw [mH h1 h2, obs, if_neg h10, mIn]
    by_cases g1 : v2 < 0
    · rw [if_pos g1]
      rfl
    by_cases g2 : 3 < v2
    · rw [if_neg g1, if_pos g2]
      rfl
    rw [if_neg g1, if_neg g2, obs, if_neg h10, ald_ok h1 (by rw [ln704]; exact h3), obs, if_pos z2]
theorem e_hold (v1 v2 : Int32) : ∃ r S1 S2, fx_hold v1 v2 I0 = some (r, S1) ∧ fm_hold v1 v2 S1 = some (r, S2) := by
  unfold fx_hold fm_hold
  by_cases h : v1 < 0 ∨ 6 ≤ v1
  · simp only [xHn h, mHn h]
    exact ⟨_, _, _, rfl, rfl⟩
  have h1 : ¬ v1 < 0 := fun q => h (Or.inl q)
  have h2 : ¬ 6 ≤ v1 := fun q => h (Or.inr q)
  have h3 := clamp_lt (n := 6) h1 h2 (by decide)
  by_cases g : v2 = -1
  · refine ⟨1, up2 (up2 I0 (679 + 3 * v1.toNatClampNeg) 1 0) (679 + 3 * v1.toNatClampNeg) 2 v2, ?w, ?hf, ?hg⟩
    case hf =>
      rw [xH h1 h2, obs, if_neg h10, if_pos g]
      unfold fx_hold_25
      simp only [ix_ok h1 h3, obs, if_pos g]
    case hg =>
      rw [mH h1 h2, obs, if_neg h10, if_pos g]
      unfold fm_hold_23
      rw [if_pos g, ast_ok h1 (by rw [ln704]; exact h3), obs, ast_ok h1 (by rw [ln705]; exact h3), obs]
  · refine ⟨-1, I0, I0, ?_, ?_⟩
    · rw [xH h1 h2, obs, if_neg h10, if_neg g, wA i14, obs, if_pos rfl]
    · rw [mH h1 h2, obs, if_neg h10, if_neg g, mA i924, obs, if_pos rfl]
theorem e_count (v1 : Int32) : ∃ r, fx_count v1 I0 = some r ∧ fm_count v1 I0 = some r := by
  by_cases h0 : v1 = 0
  · subst h0; exact ⟨0, by decide +kernel, by decide +kernel⟩
  by_cases h1 : v1 = 1
  · subst h1; exact ⟨0, by decide +kernel, by decide +kernel⟩
  by_cases h2 : v1 = 2
  · subst h2; exact ⟨0, by decide +kernel, by decide +kernel⟩
  by_cases h3 : v1 = 3
  · subst h3; exact ⟨0, by decide +kernel, by decide +kernel⟩
  by_cases h4 : v1 = 4
  · subst h4; exact ⟨0, by decide +kernel, by decide +kernel⟩
  by_cases h5 : v1 = 5
  · subst h5; exact ⟨0, by decide +kernel, by decide +kernel⟩
  by_cases h6 : v1 = 6
  · subst h6; exact ⟨0, by decide +kernel, by decide +kernel⟩
  by_cases h7 : v1 = 7
  · subst h7; exact ⟨0, by decide +kernel, by decide +kernel⟩
  by_cases h8 : v1 = 8
  · subst h8; exact ⟨0, by decide +kernel, by decide +kernel⟩
  by_cases h9 : v1 = 9
  · subst h9; exact ⟨0, by decide +kernel, by decide +kernel⟩
  unfold fx_count fm_count
  rw [if_neg h0, if_neg h1, if_neg h2, if_neg h3, if_neg h4, if_neg h5, if_neg h6, if_neg h7, if_neg h8, if_neg h9, if_neg h0, if_neg h1, if_neg h2, if_neg h3, if_neg h4, if_neg h5, if_neg h6, if_neg h7, if_neg h8, if_neg h9]
  exact ⟨_, rfl, rfl⟩
theorem e_row (v1 v2 : Int32) : ∃ r S1 S2, fx_row v1 v2 I0 = some (r, S1) ∧ fm_row v1 v2 S1 = some (r, S2) := by
  unfold fx_row fm_row
  by_cases h : v1 < 0 ∨ 6 ≤ v1
  · simp only [xHn h, mHn h]
    exact ⟨_, _, _, rfl, rfl⟩
  have h1 : ¬ v1 < 0 := fun q => h (Or.inl q)
  have h2 : ¬ 6 ≤ v1 := fun q => h (Or.inr q)
  have h3 := clamp_lt (n := 6) h1 h2 (by decide)
  by_cases g1 : v2 ≤ 60
  · by_cases g2 : 0 ≤ v2
    · have hl : ln (679 + 3 * v1.toNatClampNeg + 1 + 1) = 60 := by
        generalize v1.toNatClampNeg = i at h3
        have : i = 0 ∨ i = 1 ∨ i = 2 ∨ i = 3 ∨ i = 4 ∨ i = 5 := by omega
        rcases this with rfl | rfl | rfl | rfl | rfl | rfl <;> decide +kernel
      refine ⟨1, ?v, ?w, ?hf, ?hg⟩
      case hf =>
        rw [xH h1 h2, obs, if_neg h10, if_pos g1, if_pos g2, ix_ok h1 h3, obs, obs, obs, xz_fill hl (by decide), obs]
      case hg =>
        rw [mH h1 h2, obs, if_neg h10, if_pos g1, if_pos g2, ast_ok h1 (by rw [ln704]; exact h3), obs, ast_ok h1 (by rw [ln706]; exact h3), obs]
        exact mr_loop v1 (ix_ok h1 h3) 60 LF 0 _ rfl (by decide)
    · refine ⟨-14, I0, I0, ?_, ?_⟩
      · rw [xH h1 h2, obs, if_neg h10, if_pos g1, if_neg g2]
      · rw [mH h1 h2, obs, if_neg h10, if_pos g1, if_neg g2]
  · refine ⟨-1, I0, I0, ?_, ?_⟩
    · rw [xH h1 h2, obs, if_neg h10, if_neg g1]
    · rw [mH h1 h2, obs, if_neg h10, if_neg g1]
/-! an actor -/
theorem a_keep {A : Nat} {S : Mem} (h5 : ln (A + 1 + 1) = 5) : fa_keepOwnOnly A S = some (up2 (up2 (up2 (up2 S (A + 1) 1 0) (A + 1 + 1) 0 (S A 1)) (A + 1) 1 1) (A + 11) 1 0) := by
  unfold fa_keepOwnOnly fn_add
  rw [obs, up2_self, h5, if_neg (by decide), if_pos (by decide), up2_ne (by omega : A ≠ A + 1), show (0 : Int32) = Int32.ofNat 0 from rfl, ast_n (by omega) (by omega), obs, obs, bd_some, obs, up2_ne (by omega : A + 1 ≠ A + 1 + 1), up2_self]
  rfl
theorem a_begin {A : Nat} {S : Mem} (v1 v2 : Int32) (h5 : ln (A + 1 + 1) = 5) : ∃ S1, fa_begin A v1 v2 S = some S1 ∧ ∀ b f, (b < A ∨ A + 12 < b) → S1 b f = S b f := by
  unfold fa_begin
  simp only [obs]
  rw [a_keep h5]
  refine ⟨_, rfl, fun b f hb => ?_⟩
  repeat rw [up2_ne (by omega)]
theorem ma_loop (v1 v2 v3 : Int32) : ∀ (m n k : Nat) (S : Mem), k + m = 77 → m < n → ∃ S1, fm_actor_35 n v1 v2 v3 (Int32.ofNat 0) (Int32.ofNat k) S = some (0, S1)
  | _, 0, _, _, _, h => absurd h (Nat.not_lt_zero _)
  | 0, n + 1, k, S, h, _ => by
    show ∃ S1, fm_actor_35b (fm_actor_35 n) v1 v2 v3 (Int32.ofNat 0) (Int32.ofNat k) S = some (0, S1)
    unfold fm_actor_35b
    rw [show (77 : Int32) = Int32.ofNat 77 from rfl, if_pos ((n_le (by omega) (by omega)).mpr (by omega))]
    rw [show (1 : Int32) = Int32.ofNat 1 from rfl, show (2 : Int32) = Int32.ofNat 2 from rfl, show (3 : Int32) = Int32.ofNat 3 from rfl, show (4 : Int32) = Int32.ofNat 4 from rfl, show (5 : Int32) = Int32.ofNat 5 from rfl, show (7 : Int32) = Int32.ofNat 7 from rfl, show (8 : Int32) = Int32.ofNat 8 from rfl, show (0 : Int32) = Int32.ofNat 0 from rfl]
    rw [sets_n (by omega), obs, sets_n (by omega), obs, sets_n (by omega), obs, sets_n (by omega), obs, sets_n (by omega), obs, sets_n (by omega), obs, sets_n (by omega), obs, sets_n (by omega), obs]
    exact ⟨_, rfl⟩
  | m + 1, n + 1, k, S, h, hn => by
    show ∃ S1, fm_actor_35b (fm_actor_35 n) v1 v2 v3 (Int32.ofNat 0) (Int32.ofNat k) S = some (0, S1)
    unfold fm_actor_35b
    rw [show (77 : Int32) = Int32.ofNat 77 from rfl, if_neg (fun q => by have := (n_le (by omega) (by omega)).mp q; omega), sets_n (by omega), obs, n_succ]
    exact ma_loop v1 v2 v3 m n (k + 1) _ (by omega) (by omega)
/-- what both ask of a new actor -/
def aOK (v2 v3 : Int32) : Prop := (¬ v2 < 0 ∧ ¬ 9 < v2) ∧ (¬ v3 < 0 ∧ ¬ 2999 < v3) ∧ ¬ irm v3 100 < 1 ∧ ¬ 50 < irm v3 100
theorem mRule {S : Mem} (v3 : Int32) : fm_isRule v3 S = some (if v3 < 0 then 0 else if 2999 < v3 then 0 else if irm v3 100 < 1 then 0 else if 50 < irm v3 100 then 0 else 1) := by
  unfold fm_isRule
  rw [mIn]
  by_cases a : v3 < 0
  · rw [if_pos a, if_pos a]
    rfl
  by_cases b : 2999 < v3
  · rw [if_neg a, if_neg a, if_pos b, if_pos b]
    rfl
  rw [if_neg a, if_neg a, if_neg b, if_neg b, obs, if_neg (by decide), mIn]
  by_cases c : irm v3 100 < 1
  · rw [if_pos c]
    rfl
  by_cases d : 50 < irm v3 100
  · rw [if_neg c, if_pos d]
    rfl
  rw [if_neg c, if_neg d]
  rfl
theorem e_actor (v1 v2 v3 : Int32) : ∃ r S1 S2, fx_actor v1 v2 v3 I0 = some (r, S1) ∧ fm_actor v1 v2 v3 S1 = some (r, S2) := by
  by_cases h1 : v1 = -1
  · subst h1
    by_cases hc : aOK v2 v3
    · obtain ⟨⟨a1, a2⟩, ⟨a3, a4⟩, a5, a6⟩ := hc
      have a3' : 0 ≤ v3 := Int32.not_lt.mp a3
      obtain ⟨b1, b2, b3, b4⟩ := rule_s a3'
      obtain ⟨S1, k1, k2⟩ := a_begin (A := 1 + 12 + 13 * 0) (S := I0) (-1) v2 (by decide +kernel)
      have hx : ∃ S2, fx_actor (-1) v2 v3 I0 = some (0, S2) ∧ S2 698 924 = 0 := by
        unfold fx_actor fw_addActor
        rw [if_pos a3', if_pos rfl, if_pos i14]
        unfold fw_addActor_25
        rw [if_neg (by decide), if_neg a1, if_neg a2, if_neg b1, if_neg (fun q => a4 (b2.mp q)), if_neg b3, if_neg b4, if_neg a5, if_pos (Int32.not_lt.mp a6), if_pos rfl]
        unfold fw_addActor_94
        rw [i14, if_neg (by decide), if_pos (by decide), show ix 0 12 = some 0 by decide +kernel, obs, k1]
        simp only [obs]
        rw [up2_self, bd_some]
        refine ⟨?w, ?hf, ?hg⟩
        case hf =>
          rw [up2_ne (by decide), up2_ne (by decide), up2_ne (by decide), k2 1 4 (Or.inl (by decide)), i14]
          rfl
        case hg => rw [up2_ne (by decide), up2_ne (by decide), up2_ne (by decide), up2_ne (by decide), k2 698 924 (Or.inr (by decide)), i924]
      obtain ⟨S2, x1, x2⟩ := hx
      obtain ⟨S3, y1⟩ := ma_loop (-1) v2 v3 77 LF 0 (up2 S2 698 924 (0 + 1)) rfl (by decide)
      refine ⟨0, S2, S3, x1, ?_⟩
      unfold fm_actor fm_canBe
      rw [if_pos rfl, ald_k 924 (by decide +kernel), obs, x2, if_pos rfl]
      unfold fm_canBe_27
      rw [mIn, if_neg a1, if_neg a2, obs, if_neg (by decide), mRule, if_neg a3, if_neg a4, if_neg a5, if_neg a6, obs, if_neg (by decide), if_pos (by decide), ald_k 924 (by decide +kernel), obs, x2, if_neg (by decide), obs, if_pos rfl, obs, ast_k 924 (by decide +kernel), obs]
      exact y1
    · refine ⟨-1, I0, I0, ?_, ?_⟩
      · unfold fx_actor
        by_cases a3 : 0 ≤ v3
        · obtain ⟨b1, b2, b3, b4⟩ := rule_s a3
          unfold fw_addActor
          rw [if_pos a3, if_pos rfl, if_pos i14]
          unfold fw_addActor_25
          rw [if_neg (by decide)]
          by_cases a1 : v2 < 0
          · rw [if_pos a1]
            rfl
          rw [if_neg a1]
          by_cases a2 : 9 < v2
          · rw [if_pos a2]
            rfl
          rw [if_neg a2, if_neg b1]
          by_cases a4 : 2999 < v3
          · rw [if_pos (b2.mpr a4)]
            rfl
          rw [if_neg (fun q => a4 (b2.mp q)), if_neg b3, if_neg b4]
          by_cases a5 : irm v3 100 < 1
          · rw [if_pos a5]
            rfl
          rw [if_neg a5]
          by_cases a6 : 50 < irm v3 100
          · rw [if_neg (Int32.not_le.mpr a6)]
            rfl
          exact absurd ⟨⟨a1, a2⟩, ⟨Int32.not_lt.mpr a3, a4⟩, a5, a6⟩ hc
        · rw [if_neg a3]
      · unfold fm_actor fm_canBe
        rw [if_pos rfl, ald_k 924 (by decide +kernel), obs, i924, if_pos rfl]
        unfold fm_canBe_27
        rw [mIn, mRule]
        by_cases a1 : v2 < 0
        · rw [if_pos a1]
          rfl
        rw [if_neg a1]
        by_cases a2 : 9 < v2
        · rw [if_pos a2]
          rfl
        rw [if_neg a2, obs, if_neg (by decide)]
        by_cases a3 : v3 < 0
        · rw [if_pos a3]
          rfl
        rw [if_neg a3]
        by_cases a4 : 2999 < v3
        · rw [if_pos a4]
          rfl
        rw [if_neg a4]
        by_cases a5 : irm v3 100 < 1
        · rw [if_pos a5]
          rfl
        rw [if_neg a5]
        by_cases a6 : 50 < irm v3 100
        · rw [if_pos a6]
          rfl
        exact absurd ⟨⟨a1, a2⟩, ⟨a3, a4⟩, a5, a6⟩ hc
  · refine ⟨-1, I0, I0, ?_, ?_⟩
    · unfold fx_actor fw_addActor
      rw [if_neg h1, wA i14, obs]
      unfold fw_addActor_25
      rw [if_pos rfl, bd_some]
      split <;> rfl
    · unfold fm_actor fm_canBe
      rw [if_neg h1, mA i924]
      rfl
