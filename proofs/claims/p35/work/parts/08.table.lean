/-! 08: the methods by numbers; the tables' words that they need -/
def Y0 : XY := (yX0_begin, cX0_begin, 3, none)
def Y1 : XY := (yX0_copyFrom, cX0_copyFrom, 2, none)
def Y2 : XY := (yX0_init, cX0_init, 1, none)
def Y3 : XY := (yX0_keepOwnOnly, cX0_keepOwnOnly, 1, none)
def Y4 : XY := (yX1_init, cX1_init, 1, none)
def Y5 : XY := (yX2_add, cX2_add, 2, (some .boolean))
def Y6 : XY := (yX2_at, cX2_at, 2, (some .int))
def Y8 : XY := (yX2_copyFrom, cX2_copyFrom, 2, none)
def Y9 : XY := (yX2_countFrom, cX2_countFrom, 4, (some .int))
def Y11 : XY := (yX2_has, cX2_has, 3, (some .boolean))
def Y12 : XY := (yX2_init, cX2_init, 2, none)
def Y13 : XY := (yX2_remove, cX2_remove, 4, none)
def Y14 : XY := (yX2_removeBelow, cX2_removeBelow, 4, none)
def Y15 : XY := (yX3_add, cX3_add, 3, (some .boolean))
def Y16 : XY := (yX3_addDroppingOldest, cX3_addDroppingOldest, 3, none)
def Y17 : XY := (yX3_copyFrom, cX3_copyFrom, 2, none)
def Y18 : XY := (yX3_firstAt, cX3_firstAt, 2, (some .int))
def Y19 : XY := (yX3_init, cX3_init, 2, none)
def Y20 : XY := (yX3_putAhead, cX3_putAhead, 3, (some .int))
def Y21 : XY := (yX3_removeFirst, cX3_removeFirst, 1, none)
def Y22 : XY := (yX3_secondAt, cX3_secondAt, 2, (some .int))
def Y24 : XY := (yX4_init, cX4_init, 1, none)
def Y30 : XY := (yX5_copyFrom, cX5_copyFrom, 2, none)
def Y31 : XY := (yX5_countOf, cX5_countOf, 4, (some .int))
def Y32 : XY := (yX5_dueAt, cX5_dueAt, 2, (some .int))
def Y33 : XY := (yX5_init, cX5_init, 1, none)
def Y34 : XY := (yX5_move, cX5_move, 3, none)
def Y35 : XY := (yX5_numberAt, cX5_numberAt, 2, (some .int))
def Y36 : XY := (yX5_ownerAt, cX5_ownerAt, 2, (some .int))
def Y37 : XY := (yX5_removeFirst, cX5_removeFirst, 2, none)
def Y38 : XY := (yX5_removeOf, cX5_removeOf, 4, none)
def Y39 : XY := (yX5_set, cX5_set, 5, none)
def Y40 : XY := (yX6_addActor, cX6_addActor, 8, (some .int))
def Y41 : XY := (yX6_childBits, cX6_childBits, 4, (some .int))
def Y42 : XY := (yX6_copyFrom, cX6_copyFrom, 3, none)
def Y43 : XY := (yX6_deal, cX6_deal, 6, (some .int))
def Y44 : XY := (yX6_dealEarlier, cX6_dealEarlier, 6, (some .int))
def Y45 : XY := (yX6_dealLater, cX6_dealLater, 5, (some .int))
def Y46 : XY := (yX6_fail, cX6_fail, 5, none)
def Y47 : XY := (yX6_fireTimer, cX6_fireTimer, 3, (some .boolean))
def Y48 : XY := (yX6_greatestLiveChild, cX6_greatestLiveChild, 3, (some .int))
def Y49 : XY := (yX6_halt, cX6_halt, 8, (some .int))
def Y50 : XY := (yX6_hasStep, cX6_hasStep, 1, (some .boolean))
def Y51 : XY := (yX6_howItStands, cX6_howItStands, 1, (some .int))
def Y52 : XY := (yX6_init, cX6_init, 2, none)
def Y53 : XY := (yX6_isActor, cX6_isActor, 2, (some .boolean))
def Y54 : XY := (yX6_isLive, cX6_isLive, 2, (some .boolean))
def Y55 : XY := (yX6_isLiveChild, cX6_isLiveChild, 3, (some .boolean))
def Y56 : XY := (yX6_isOverBudgetAbove, cX6_isOverBudgetAbove, 3, (some .boolean))
def Y57 : XY := (yX6_isRestartedWith, cX6_isRestartedWith, 4, (some .boolean))
def Y58 : XY := (yX6_liveBits, cX6_liveBits, 3, (some .int))
def Y59 : XY := (yX6_mailed, cX6_mailed, 3, (some .int))
def Y60 : XY := (yX6_makeSteps, cX6_makeSteps, 3, (some .int))
def Y61 : XY := (yX6_nextDealer, cX6_nextDealer, 3, (some .int))
def Y62 : XY := (yX6_restart, cX6_restart, 3, none)
def Y63 : XY := (yX6_send, cX6_send, 5, (some .boolean))
def Y64 : XY := (yX6_sendDown, cX6_sendDown, 6, none)
def Y65 : XY := (yX6_step, cX6_step, 6, (some .boolean))
def Y66 : XY := (yX6_unstash, cX6_unstash, 2, none)
def Y67 : XY := (yX6_watch, cX6_watch, 4, none)
def Y68 : XY := (yX7_actor, cX7_actor, 4, (some .int))
def Y69 : XY := (yX7_back, cX7_back, 2, (some .int))
def Y72 : XY := (yX7_count, cX7_count, 2, (some .int))
def Y73 : XY := (yX7_counted, cX7_counted, 2, (some .int))
def Y75 : XY := (yX7_drawn, cX7_drawn, 5, (some .int))
def Y76 : XY := (yX7_dry, cX7_dry, 5, (some .int))
def Y77 : XY := (yX7_ended, cX7_ended, 1, (some .int))
def Y82 : XY := (yX7_image, cX7_image, 1, (some .int))
def Y83 : XY := (yX7_init, cX7_init, 2, none)
def Y85 : XY := (yX7_isNumber, cX7_isNumber, 1, (some .boolean))
def Y86 : XY := (yX7_isSteps, cX7_isSteps, 1, (some .boolean))
def Y87 : XY := (yX7_itemOf, cX7_itemOf, 2, (some .int))
def Y90 : XY := (yX7_of, cX7_of, 4, (some .int))
def Y93 : XY := (yX7_quiet, cX7_quiet, 2, (some .int))
def Y96 : XY := (yX7_run, cX7_run, 2, (some .int))
def Y98 : XY := (yX7_seed, cX7_seed, 3, (some .int))
def Y101 : XY := (yX7_stop, cX7_stop, 2, (some .int))
def Y102 : XY := (yX7_tell, cX7_tell, 4, (some .int))
def Y104 : XY := (yX7_timer, cX7_timer, 4, (some .int))
def Y105 : XY := (yX7_watcher, cX7_watcher, 3, (some .int))
def Y189 : XY := (yJ6_bitCount_0f7a4, cJ6_bitCount_0f7a4, 1, (some .int))
def Y190 : XY := (yL_law, cL_law, 11, (some .boolean))
def Y191 : XY := (yL_cell, cL_cell, 2, (some .int))
def Y192 : XY := (yL_act, cL_act, 5, none)
def Y193 : XY := (yL_isFair, cL_isFair, 8, (some .boolean))
def xm (mid : Nat) : XY := if mid < 54 then if mid < 25 then if mid < 12 then if mid < 6 then if mid < 3 then if mid < 1 then Y0 else if mid < 2 then Y1 else Y2 else if mid < 4 then Y3 else if mid < 5 then Y4 else Y5 else if mid < 9 then if mid < 7 then Y6 else if mid < 8 then Y0 else Y8 else if mid < 10 then Y9 else if mid < 11 then Y0 else Y11 else if mid < 18 then if mid < 15 then if mid < 13 then Y12 else if mid < 14 then Y13 else Y14 else if mid < 16 then Y15 else if mid < 17 then Y16 else Y17 else if mid < 21 then if mid < 19 then Y18 else if mid < 20 then Y19 else Y20 else if mid < 23 then if mid < 22 then Y21 else Y22 else if mid < 24 then Y0 else Y24 else if mid < 41 then if mid < 35 then if mid < 32 then if mid < 30 then Y0 else if mid < 31 then Y30 else Y31 else if mid < 33 then Y32 else if mid < 34 then Y33 else Y34 else if mid < 38 then if mid < 36 then Y35 else if mid < 37 then Y36 else Y37 else if mid < 39 then Y38 else if mid < 40 then Y39 else Y40 else if mid < 47 then if mid < 44 then if mid < 42 then Y41 else if mid < 43 then Y42 else Y43 else if mid < 45 then Y44 else if mid < 46 then Y45 else Y46 else if mid < 50 then if mid < 48 then Y47 else if mid < 49 then Y48 else Y49 else if mid < 52 then if mid < 51 then Y50 else Y51 else if mid < 53 then Y52 else Y53 else if mid < 83 then if mid < 66 then if mid < 60 then if mid < 57 then if mid < 55 then Y54 else if mid < 56 then Y55 else Y56 else if mid < 58 then Y57 else if mid < 59 then Y58 else Y59 else if mid < 63 then if mid < 61 then Y60 else if mid < 62 then Y61 else Y62 else if mid < 64 then Y63 else if mid < 65 then Y64 else Y65 else if mid < 73 then if mid < 69 then if mid < 67 then Y66 else if mid < 68 then Y67 else Y68 else if mid < 70 then Y69 else if mid < 72 then Y0 else Y72 else if mid < 76 then if mid < 74 then Y73 else if mid < 75 then Y0 else Y75 else if mid < 78 then if mid < 77 then Y76 else Y77 else if mid < 82 then Y0 else Y82 else if mid < 98 then if mid < 90 then if mid < 86 then if mid < 84 then Y83 else if mid < 85 then Y0 else Y85 else if mid < 87 then Y86 else if mid < 88 then Y87 else Y0 else if mid < 94 then if mid < 91 then Y90 else if mid < 93 then Y0 else Y93 else if mid < 96 then Y0 else if mid < 97 then Y96 else Y0 else if mid < 105 then if mid < 102 then if mid < 99 then Y98 else if mid < 101 then Y0 else Y101 else if mid < 103 then Y102 else if mid < 104 then Y0 else Y104 else if mid < 190 then if mid < 106 then Y105 else if mid < 189 then Y0 else Y189 else if mid < 192 then if mid < 191 then Y190 else Y191 else if mid < 193 then Y192 else Y193
theorem xmem {w : Cond} (h : w ∈ tables_1) (g : xgd w = true) : w ∈ xtbl := List.mem_append_right _ (List.mem_filter.mpr ⟨h, g⟩)
def xlk : List (Nat × XI) → Nat → XI
  | [], _ => fun _ _ _ => xbad
  | (k, i) :: l, pc => if pc = k then i else xlk l pc
theorem xlk_ok {xm : Nat → XY} {scr : Nat × (Nat → Int32)} {Y : XY} : ∀ {l : List (Nat × XI)}, (∀ q ∈ l, XSnd xm scr Y q.1 q.2) → ∀ pc, XSnd xm scr Y pc (xlk l pc)
  | [], _, _ => XSnd_bad
  | (k, i) :: l, h, pc => by
    unfold xlk
    split
    · rename_i e
      subst e
      exact h _ List.mem_cons_self
    · exact xlk_ok (fun q hq => h q (List.mem_cons_of_mem _ hq)) pc
theorem xcons {xm : Nat → XY} {scr : Nat × (Nat → Int32)} {Y : XY} {pc : Nat} {i : XI} {l : List (Nat × XI)} (h1 : XSnd xm scr Y pc i) (h2 : ∀ q ∈ l, XSnd xm scr Y q.1 q.2) : ∀ q ∈ (pc, i) :: l, XSnd xm scr Y q.1 q.2 := List.forall_mem_cons.mpr ⟨h1, h2⟩
theorem xnil {xm : Nat → XY} {scr : Nat × (Nat → Int32)} {Y : XY} : ∀ q ∈ ([] : List (Nat × XI)), XSnd xm scr Y q.1 q.2 := fun _ h => absurd h List.not_mem_nil
theorem xite {xm : Nat → XY} {scr : Nat × (Nat → Int32)} {Y : XY} {pc : Nat} {p : Prop} [Decidable p] {a b : XI} (h1 : XSnd xm scr Y pc a) (h2 : XSnd xm scr Y pc b) : XSnd xm scr Y pc (if p then a else b) := by
  split
  · exact h1
  · exact h2
def x_mmax (n : Nat) : XI := xiN fun L st h => match st with
  | .inl y :: .inl x :: st => if st.length ≤ 8 then some (n, L, .inl (if x < y then y else x) :: st, h) else none
  | _ => none
def x_mmin (n : Nat) : XI := xiN fun L st h => match st with
  | .inl y :: .inl x :: st => if st.length ≤ 8 then some (n, L, .inl (if y < x then y else x) :: st, h) else none
  | _ => none
theorem s_mmax {xm : Nat → XY} {scr : Nat × (Nat → Int32)} {Y : XY} {pc : Nat} {idx : Nat} (hw : Cond.methodLink Y.1.cls idx Lib.Math.max.name ∈ xtbl) (hw1 : Cond.static Lib.Math.max.name ∈ xtbl) (hw2 : Cond.initialized "java/lang/Math" ∈ xtbl) (hw3 : Cond.code Lib.Math.max.name Lib.Math.max.code 2 (some .int) ∈ xtbl) (hd : decode Y.2.1 pc = .ok (.invokestatic idx, 3)) : XSnd xm scr Y pc (x_mmax (pc + 3)) := by
  refine XSnd_P fun L st h pc1 L1 st1 h1 ee => ?_
  split at ee
  · split at ee
    · rename_i y x st0 hc
      cases ee
      refine ⟨rfl, fun p l e R s m args below meth c β D cA d m0 z0 Q X hm0 hz0 hmR hzR k H locs ls hP hF hl => ?_⟩
      obtain ⟨hx, hb, hml, hown, hts, hK, hnm, hbs, hfr, hlo, -⟩ := X
      exact va_mmax (rest := xst β st0) hx hb (hml.trans hl.1.symm) hown (hts _ hw) (hts _ hw1) (hts _ hw2) (hts _ hw3) (by omega) (by rw [xst_sum β st0]; omega) hmR hzR hd (k H locs ls hP hF hl)
    · cases ee
  · cases ee
theorem s_mmin {xm : Nat → XY} {scr : Nat × (Nat → Int32)} {Y : XY} {pc : Nat} {idx : Nat} (hw : Cond.methodLink Y.1.cls idx Lib.Math.min.name ∈ xtbl) (hw1 : Cond.static Lib.Math.min.name ∈ xtbl) (hw2 : Cond.initialized "java/lang/Math" ∈ xtbl) (hw3 : Cond.code Lib.Math.min.name Lib.Math.min.code 2 (some .int) ∈ xtbl) (hd : decode Y.2.1 pc = .ok (.invokestatic idx, 3)) : XSnd xm scr Y pc (x_mmin (pc + 3)) := by
  refine XSnd_P fun L st h pc1 L1 st1 h1 ee => ?_
  split at ee
  · split at ee
    · rename_i y x st0 hc
      cases ee
      refine ⟨rfl, fun p l e R s m args below meth c β D cA d m0 z0 Q X hm0 hz0 hmR hzR k H locs ls hP hF hl => ?_⟩
      obtain ⟨hx, hb, hml, hown, hts, hK, hnm, hbs, hfr, hlo, -⟩ := X
      exact va_mmin (rest := xst β st0) hx hb (hml.trans hl.1.symm) hown (hts _ hw) (hts _ hw1) (hts _ hw2) (hts _ hw3) (by omega) (by rw [xst_sum β st0]; omega) hmR hzR hd (k H locs ls hP hF hl)
    · cases ee
  · cases ee
set_option maxRecDepth 100000 in
theorem xw_0 : Cond.fieldLink "ActorTrees$Actor" 36 "ActorTrees$Actor" "parent" "I" ∈ xtbl := xmem (List.mem_of_getElem? (i := 92) rfl) rfl
set_option maxRecDepth 100000 in
theorem xw_1 : Cond.fieldLink "ActorTrees$Actor" 40 "ActorTrees$Actor" "own" "I" ∈ xtbl := xmem (List.mem_of_getElem? (i := 95) rfl) rfl
set_option maxRecDepth 100000 in
theorem xw_2 : Cond.fieldLink "ActorTrees$Actor" 43 "ActorTrees$Actor" "count" "I" ∈ xtbl := xmem (List.mem_of_getElem? (i := 106) rfl) rfl
set_option maxRecDepth 100000 in
theorem xw_3 : Cond.fieldLink "ActorTrees$Actor" 46 "ActorTrees$Actor" "live" "Z" ∈ xtbl := xmem (List.mem_of_getElem? (i := 109) rfl) rfl
set_option maxRecDepth 100000 in
theorem xw_4 : Cond.fieldLink "ActorTrees$Actor" 23 "ActorTrees$Actor" "mailbox" "LActorTrees$Pairs;" ∈ xtbl := xmem (List.mem_of_getElem? (i := 115) rfl) rfl
set_option maxRecDepth 100000 in
theorem xw_5 : Cond.fieldLink "ActorTrees$Actor" 50 "ActorTrees$Pairs" "size" "I" ∈ xtbl := xmem (List.mem_of_getElem? (i := 58) rfl) rfl
set_option maxRecDepth 100000 in
theorem xw_6 : Cond.fieldLink "ActorTrees$Actor" 27 "ActorTrees$Actor" "stash" "LActorTrees$Pairs;" ∈ xtbl := xmem (List.mem_of_getElem? (i := 118) rfl) rfl
set_option maxRecDepth 100000 in
theorem xw_7 : Cond.fieldLink "ActorTrees$Actor" 30 "ActorTrees$Actor" "watchers" "LActorTrees$Numbers;" ∈ xtbl := xmem (List.mem_of_getElem? (i := 121) rfl) rfl
set_option maxRecDepth 100000 in
theorem xw_8 : Cond.fieldLink "ActorTrees$Actor" 53 "ActorTrees$Numbers" "size" "I" ∈ xtbl := xmem (List.mem_of_getElem? (i := 81) rfl) rfl
set_option maxRecDepth 100000 in
theorem xw_9 : Cond.code yX0_keepOwnOnly prog_2_method_3_code 1 (Option.none) ∈ xtbl := xmem (List.mem_of_getElem? (i := 421) rfl) rfl
set_option maxRecDepth 100000 in
theorem xw_10 : Cond.initialized "ActorTrees$Actor" ∈ xtbl := xmem (List.mem_of_getElem? (i := 5) rfl) rfl
set_option maxRecDepth 100000 in
theorem xw_11 : Cond.methodLink "ActorTrees$Actor" 54 yX0_keepOwnOnly ∈ xtbl := xmem (List.mem_of_getElem? (i := 555) rfl) rfl
set_option maxRecDepth 100000 in
theorem xw_12 : Cond.instanceMethod yX0_keepOwnOnly ∈ xtbl := xmem (List.mem_of_getElem? (i := 419) rfl) rfl
set_option maxRecDepth 100000 in
theorem xw_13 : Cond.selects "ActorTrees$Actor" yX0_keepOwnOnly yX0_keepOwnOnly ∈ xtbl := xmem (List.mem_of_getElem? (i := 420) rfl) rfl
set_option maxRecDepth 100000 in
theorem xw_14 : Cond.fieldLink "ActorTrees$Actor" 61 "ActorTrees$Actor" "strategy" "I" ∈ xtbl := xmem (List.mem_of_getElem? (i := 97) rfl) rfl
set_option maxRecDepth 100000 in
theorem xw_15 : Cond.fieldLink "ActorTrees$Actor" 64 "ActorTrees$Actor" "budget" "I" ∈ xtbl := xmem (List.mem_of_getElem? (i := 100) rfl) rfl
set_option maxRecDepth 100000 in
theorem xw_16 : Cond.fieldLink "ActorTrees$Actor" 67 "ActorTrees$Actor" "window" "I" ∈ xtbl := xmem (List.mem_of_getElem? (i := 103) rfl) rfl
set_option maxRecDepth 100000 in
theorem xw_17 : Cond.fieldLink "ActorTrees$Actor" 14 "ActorTrees$Actor" "stack" "LActorTrees$Numbers;" ∈ xtbl := xmem (List.mem_of_getElem? (i := 112) rfl) rfl
set_option maxRecDepth 100000 in
theorem xw_18 : Cond.code yX2_copyFrom prog_4_method_10_code 2 (Option.none) ∈ xtbl := xmem (List.mem_of_getElem? (i := 485) rfl) rfl
set_option maxRecDepth 100000 in
theorem xw_19 : Cond.initialized "ActorTrees$Numbers" ∈ xtbl := xmem (List.mem_of_getElem? (i := 6) rfl) rfl
set_option maxRecDepth 100000 in
theorem xw_20 : Cond.methodLink "ActorTrees$Actor" 70 yX2_copyFrom ∈ xtbl := xmem (List.mem_of_getElem? (i := 482) rfl) rfl
set_option maxRecDepth 100000 in
theorem xw_21 : Cond.instanceMethod yX2_copyFrom ∈ xtbl := xmem (List.mem_of_getElem? (i := 483) rfl) rfl
set_option maxRecDepth 100000 in
theorem xw_22 : Cond.selects "ActorTrees$Numbers" yX2_copyFrom yX2_copyFrom ∈ xtbl := xmem (List.mem_of_getElem? (i := 484) rfl) rfl
set_option maxRecDepth 100000 in
theorem xw_23 : Cond.code yX3_copyFrom prog_5_method_8_code 2 (Option.none) ∈ xtbl := xmem (List.mem_of_getElem? (i := 494) rfl) rfl
set_option maxRecDepth 100000 in
theorem xw_24 : Cond.initialized "ActorTrees$Pairs" ∈ xtbl := xmem (List.mem_of_getElem? (i := 4) rfl) rfl
set_option maxRecDepth 100000 in
theorem xw_25 : Cond.methodLink "ActorTrees$Actor" 74 yX3_copyFrom ∈ xtbl := xmem (List.mem_of_getElem? (i := 491) rfl) rfl
set_option maxRecDepth 100000 in
theorem xw_26 : Cond.instanceMethod yX3_copyFrom ∈ xtbl := xmem (List.mem_of_getElem? (i := 492) rfl) rfl
set_option maxRecDepth 100000 in
theorem xw_27 : Cond.selects "ActorTrees$Pairs" yX3_copyFrom yX3_copyFrom ∈ xtbl := xmem (List.mem_of_getElem? (i := 493) rfl) rfl
set_option maxRecDepth 100000 in
theorem xw_28 : Cond.fieldLink "ActorTrees$Actor" 33 "ActorTrees$Actor" "notes" "LActorTrees$Numbers;" ∈ xtbl := xmem (List.mem_of_getElem? (i := 124) rfl) rfl
set_option maxRecDepth 100000 in
theorem xw_29 : Cond.methodLink "ActorTrees$Actor" 3 objectInit ∈ xtbl := xmem (List.mem_of_getElem? (i := 73) rfl) rfl
set_option maxRecDepth 100000 in
theorem xw_30 : Cond.instanceMethod objectInit ∈ xtbl := xmem (List.mem_of_getElem? (i := 18) rfl) rfl
set_option maxRecDepth 100000 in
theorem xw_31 : Cond.code objectInit object_method_1_code 1 (Option.none) ∈ xtbl := xmem (List.mem_of_getElem? (i := 19) rfl) rfl
set_option maxRecDepth 100000 in
theorem xw_32 : Cond.classLink "ActorTrees$Actor" 9 "ActorTrees$Numbers" ∈ xtbl := xmem (List.mem_of_getElem? (i := 74) rfl) rfl
set_option maxRecDepth 100000 in
theorem xw_33 : Cond.instantiable "ActorTrees$Numbers" 2 ∈ xtbl := xmem (List.mem_of_getElem? (i := 75) rfl) rfl
set_option maxRecDepth 100000 in
theorem xw_34 : Cond.code yX2_init prog_4_method_1_code 2 (Option.none) ∈ xtbl := xmem (List.mem_of_getElem? (i := 78) rfl) rfl
set_option maxRecDepth 100000 in
theorem xw_35 : Cond.methodLink "ActorTrees$Actor" 11 yX2_init ∈ xtbl := xmem (List.mem_of_getElem? (i := 76) rfl) rfl
set_option maxRecDepth 100000 in
theorem xw_36 : Cond.instanceMethod yX2_init ∈ xtbl := xmem (List.mem_of_getElem? (i := 77) rfl) rfl
set_option maxRecDepth 100000 in
theorem xw_37 : Cond.classLink "ActorTrees$Actor" 20 "ActorTrees$Pairs" ∈ xtbl := xmem (List.mem_of_getElem? (i := 90) rfl) rfl
set_option maxRecDepth 100000 in
theorem xw_38 : Cond.instantiable "ActorTrees$Pairs" 3 ∈ xtbl := xmem (List.mem_of_getElem? (i := 51) rfl) rfl
set_option maxRecDepth 100000 in
theorem xw_39 : Cond.code yX3_init prog_5_method_1_code 2 (Option.none) ∈ xtbl := xmem (List.mem_of_getElem? (i := 54) rfl) rfl
set_option maxRecDepth 100000 in
theorem xw_40 : Cond.methodLink "ActorTrees$Actor" 22 yX3_init ∈ xtbl := xmem (List.mem_of_getElem? (i := 91) rfl) rfl
set_option maxRecDepth 100000 in
theorem xw_41 : Cond.instanceMethod yX3_init ∈ xtbl := xmem (List.mem_of_getElem? (i := 53) rfl) rfl
set_option maxRecDepth 100000 in
theorem xw_42 : Cond.code yX2_add prog_4_method_4_code 2 (Option.some FieldType.boolean) ∈ xtbl := xmem (List.mem_of_getElem? (i := 409) rfl) rfl
set_option maxRecDepth 100000 in
theorem xw_43 : Cond.methodLink "ActorTrees$Actor" 57 yX2_add ∈ xtbl := xmem (List.mem_of_getElem? (i := 422) rfl) rfl
set_option maxRecDepth 100000 in
theorem xw_44 : Cond.instanceMethod yX2_add ∈ xtbl := xmem (List.mem_of_getElem? (i := 407) rfl) rfl
set_option maxRecDepth 100000 in
theorem xw_45 : Cond.selects "ActorTrees$Numbers" yX2_add yX2_add ∈ xtbl := xmem (List.mem_of_getElem? (i := 408) rfl) rfl
set_option maxRecDepth 100000 in
theorem xw_46 : Cond.methodLink "ActorTrees$Handle" 3 objectInit ∈ xtbl := xmem (List.mem_of_getElem? (i := 228) rfl) rfl
set_option maxRecDepth 100000 in
theorem xw_47 : Cond.classLink "ActorTrees$Handle" 9 "ActorTrees$Numbers" ∈ xtbl := xmem (List.mem_of_getElem? (i := 229) rfl) rfl
set_option maxRecDepth 100000 in
theorem xw_48 : Cond.methodLink "ActorTrees$Handle" 11 yX2_init ∈ xtbl := xmem (List.mem_of_getElem? (i := 230) rfl) rfl
set_option maxRecDepth 100000 in
theorem xw_49 : Cond.fieldLink "ActorTrees$Handle" 14 "ActorTrees$Handle" "items" "LActorTrees$Numbers;" ∈ xtbl := xmem (List.mem_of_getElem? (i := 231) rfl) rfl
set_option maxRecDepth 100000 in
theorem xw_50 : Cond.fieldLink "ActorTrees$Numbers" 13 "ActorTrees$Numbers" "size" "I" ∈ xtbl := xmem (List.mem_of_getElem? (i := 82) rfl) rfl
set_option maxRecDepth 100000 in
theorem xw_51 : Cond.fieldLink "ActorTrees$Numbers" 7 "ActorTrees$Numbers" "items" "[I" ∈ xtbl := xmem (List.mem_of_getElem? (i := 80) rfl) rfl
set_option maxRecDepth 100000 in
theorem xw_52 : Cond.methodLink "ActorTrees$Numbers" 17 yJ9_min_7cf53 ∈ xtbl := xmem (List.mem_of_getElem? (i := 486) rfl) rfl
set_option maxRecDepth 100000 in
theorem xw_53 : Cond.static yJ9_min_7cf53 ∈ xtbl := xmem (List.mem_of_getElem? (i := 444) rfl) rfl
set_option maxRecDepth 100000 in
theorem xw_54 : Cond.initialized "java/lang/Math" ∈ xtbl := xmem (List.mem_of_getElem? (i := 11) rfl) rfl
set_option maxRecDepth 100000 in
theorem xw_55 : Cond.code yJ9_min_7cf53 prog_12_method_69_code 2 (Option.some FieldType.int) ∈ xtbl := xmem (List.mem_of_getElem? (i := 445) rfl) rfl
set_option maxRecDepth 100000 in
theorem xw_56 : Cond.methodLink "ActorTrees$Numbers" 23 yJ9_max_7cf53 ∈ xtbl := xmem (List.mem_of_getElem? (i := 487) rfl) rfl
set_option maxRecDepth 100000 in
theorem xw_57 : Cond.static yJ9_max_7cf53 ∈ xtbl := xmem (List.mem_of_getElem? (i := 488) rfl) rfl
set_option maxRecDepth 100000 in
theorem xw_58 : Cond.code yJ9_max_7cf53 prog_12_method_65_code 2 (Option.some FieldType.int) ∈ xtbl := xmem (List.mem_of_getElem? (i := 489) rfl) rfl
set_option maxRecDepth 100000 in
theorem xw_59 : Cond.methodLink "ActorTrees$Numbers" 26 arraycopyName ∈ xtbl := xmem (List.mem_of_getElem? (i := 490) rfl) rfl
set_option maxRecDepth 100000 in
theorem xw_60 : Cond.native arraycopyName ∈ xtbl := xmem (List.mem_of_getElem? (i := 370) rfl) rfl
set_option maxRecDepth 100000 in
theorem xw_61 : Cond.static arraycopyName ∈ xtbl := xmem (List.mem_of_getElem? (i := 369) rfl) rfl
set_option maxRecDepth 100000 in
theorem xw_62 : Cond.initialized "java/lang/System" ∈ xtbl := xmem (List.mem_of_getElem? (i := 10) rfl) rfl
set_option maxRecDepth 100000 in
theorem xw_63 : Cond.methodLink "ActorTrees$Numbers" 1 objectInit ∈ xtbl := xmem (List.mem_of_getElem? (i := 79) rfl) rfl
set_option maxRecDepth 100000 in
theorem xw_64 : Cond.arrayClass .int ∈ xtbl := xmem (List.mem_of_getElem? (i := 49) rfl) rfl
set_option maxRecDepth 100000 in
theorem xw_65 : Cond.fieldLink "ActorTrees$Pairs" 18 "ActorTrees$Pairs" "size" "I" ∈ xtbl := xmem (List.mem_of_getElem? (i := 60) rfl) rfl
set_option maxRecDepth 100000 in
theorem xw_66 : Cond.fieldLink "ActorTrees$Pairs" 9 "ActorTrees$Pairs" "firsts" "[I" ∈ xtbl := xmem (List.mem_of_getElem? (i := 56) rfl) rfl
set_option maxRecDepth 100000 in
theorem xw_67 : Cond.fieldLink "ActorTrees$Pairs" 15 "ActorTrees$Pairs" "seconds" "[I" ∈ xtbl := xmem (List.mem_of_getElem? (i := 57) rfl) rfl
set_option maxRecDepth 100000 in
theorem xw_68 : Cond.code yX3_removeFirst prog_5_method_6_code 1 (Option.none) ∈ xtbl := xmem (List.mem_of_getElem? (i := 367) rfl) rfl
set_option maxRecDepth 100000 in
theorem xw_69 : Cond.methodLink "ActorTrees$Pairs" 22 yX3_removeFirst ∈ xtbl := xmem (List.mem_of_getElem? (i := 375) rfl) rfl
set_option maxRecDepth 100000 in
theorem xw_70 : Cond.instanceMethod yX3_removeFirst ∈ xtbl := xmem (List.mem_of_getElem? (i := 365) rfl) rfl
set_option maxRecDepth 100000 in
theorem xw_71 : Cond.selects "ActorTrees$Pairs" yX3_removeFirst yX3_removeFirst ∈ xtbl := xmem (List.mem_of_getElem? (i := 366) rfl) rfl
set_option maxRecDepth 100000 in
theorem xw_72 : Cond.code yX3_add prog_5_method_4_code 3 (Option.some FieldType.boolean) ∈ xtbl := xmem (List.mem_of_getElem? (i := 355) rfl) rfl
set_option maxRecDepth 100000 in
theorem xw_73 : Cond.methodLink "ActorTrees$Pairs" 25 yX3_add ∈ xtbl := xmem (List.mem_of_getElem? (i := 376) rfl) rfl
set_option maxRecDepth 100000 in
theorem xw_74 : Cond.instanceMethod yX3_add ∈ xtbl := xmem (List.mem_of_getElem? (i := 353) rfl) rfl
set_option maxRecDepth 100000 in
theorem xw_75 : Cond.selects "ActorTrees$Pairs" yX3_add yX3_add ∈ xtbl := xmem (List.mem_of_getElem? (i := 354) rfl) rfl
set_option maxRecDepth 100000 in
theorem xw_76 : Cond.methodLink "ActorTrees$Pairs" 35 yJ9_min_7cf53 ∈ xtbl := xmem (List.mem_of_getElem? (i := 443) rfl) rfl
set_option maxRecDepth 100000 in
theorem xw_77 : Cond.methodLink "ActorTrees$Pairs" 41 yJ9_max_7cf53 ∈ xtbl := xmem (List.mem_of_getElem? (i := 495) rfl) rfl
set_option maxRecDepth 100000 in
theorem xw_78 : Cond.methodLink "ActorTrees$Pairs" 29 arraycopyName ∈ xtbl := xmem (List.mem_of_getElem? (i := 368) rfl) rfl
set_option maxRecDepth 100000 in
theorem xw_79 : Cond.methodLink "ActorTrees$Pairs" 3 objectInit ∈ xtbl := xmem (List.mem_of_getElem? (i := 55) rfl) rfl
set_option maxRecDepth 100000 in
theorem xw_82 : Cond.initialized "ActorTrees$Tape" ∈ xtbl := xmem (List.mem_of_getElem? (i := 7) rfl) rfl
set_option maxRecDepth 100000 in
theorem xw_90 : Cond.fieldLink "ActorTrees$Tape" 14 "ActorTrees$Tape" "bytes" "LActorTrees$Numbers;" ∈ xtbl := xmem (List.mem_of_getElem? (i := 210) rfl) rfl
set_option maxRecDepth 100000 in
theorem xw_91 : Cond.code yX2_at prog_4_method_2_code 2 (Option.some FieldType.int) ∈ xtbl := xmem (List.mem_of_getElem? (i := 274) rfl) rfl
set_option maxRecDepth 100000 in
theorem xw_93 : Cond.instanceMethod yX2_at ∈ xtbl := xmem (List.mem_of_getElem? (i := 272) rfl) rfl
set_option maxRecDepth 100000 in
theorem xw_94 : Cond.selects "ActorTrees$Numbers" yX2_at yX2_at ∈ xtbl := xmem (List.mem_of_getElem? (i := 273) rfl) rfl
set_option maxRecDepth 100000 in
theorem xw_95 : Cond.methodLink "ActorTrees$Tape" 3 objectInit ∈ xtbl := xmem (List.mem_of_getElem? (i := 207) rfl) rfl
set_option maxRecDepth 100000 in
theorem xw_96 : Cond.classLink "ActorTrees$Tape" 9 "ActorTrees$Numbers" ∈ xtbl := xmem (List.mem_of_getElem? (i := 208) rfl) rfl
set_option maxRecDepth 100000 in
theorem xw_97 : Cond.methodLink "ActorTrees$Tape" 11 yX2_init ∈ xtbl := xmem (List.mem_of_getElem? (i := 209) rfl) rfl
set_option maxRecDepth 100000 in
theorem xw_98 : Cond.fieldLink "ActorTrees$Tape" 20 "ActorTrees$Tape" "numbers" "LActorTrees$Numbers;" ∈ xtbl := xmem (List.mem_of_getElem? (i := 212) rfl) rfl
set_option maxRecDepth 100000 in
theorem xw_114 : Cond.fieldLink "ActorTrees$Timers" 21 "ActorTrees$Timers" "size" "I" ∈ xtbl := xmem (List.mem_of_getElem? (i := 37) rfl) rfl
set_option maxRecDepth 100000 in
theorem xw_115 : Cond.methodLink "ActorTrees$Timers" 29 yJ9_min_7cf53 ∈ xtbl := xmem (List.mem_of_getElem? (i := 500) rfl) rfl
set_option maxRecDepth 100000 in
theorem xw_116 : Cond.methodLink "ActorTrees$Timers" 35 yJ9_max_7cf53 ∈ xtbl := xmem (List.mem_of_getElem? (i := 501) rfl) rfl
set_option maxRecDepth 100000 in
theorem xw_117 : Cond.fieldLink "ActorTrees$Timers" 9 "ActorTrees$Timers" "owners" "[I" ∈ xtbl := xmem (List.mem_of_getElem? (i := 34) rfl) rfl
set_option maxRecDepth 100000 in
theorem xw_118 : Cond.methodLink "ActorTrees$Timers" 38 arraycopyName ∈ xtbl := xmem (List.mem_of_getElem? (i := 502) rfl) rfl
set_option maxRecDepth 100000 in
theorem xw_119 : Cond.fieldLink "ActorTrees$Timers" 15 "ActorTrees$Timers" "dues" "[I" ∈ xtbl := xmem (List.mem_of_getElem? (i := 35) rfl) rfl
set_option maxRecDepth 100000 in
theorem xw_120 : Cond.fieldLink "ActorTrees$Timers" 18 "ActorTrees$Timers" "numbers" "[I" ∈ xtbl := xmem (List.mem_of_getElem? (i := 36) rfl) rfl
set_option maxRecDepth 100000 in
theorem xw_121 : Cond.methodLink "ActorTrees$Timers" 3 objectInit ∈ xtbl := xmem (List.mem_of_getElem? (i := 33) rfl) rfl
set_option maxRecDepth 100000 in
theorem xw_122 : Cond.code yX5_move prog_7_method_9_code 3 (Option.none) ∈ xtbl := xmem (List.mem_of_getElem? (i := 347) rfl) rfl
set_option maxRecDepth 100000 in
theorem xw_123 : Cond.initialized "ActorTrees$Timers" ∈ xtbl := xmem (List.mem_of_getElem? (i := 3) rfl) rfl
set_option maxRecDepth 100000 in
theorem xw_124 : Cond.methodLink "ActorTrees$Timers" 25 yX5_move ∈ xtbl := xmem (List.mem_of_getElem? (i := 344) rfl) rfl
set_option maxRecDepth 100000 in
theorem xw_125 : Cond.instanceMethod yX5_move ∈ xtbl := xmem (List.mem_of_getElem? (i := 346) rfl) rfl
theorem xw_126 : Cond.selects "ActorTrees$Timers" yX5_move yX5_move ∈ xtbl := List.mem_append_left _ (List.mem_of_getElem? (i := 3) rfl)
set_option maxRecDepth 100000 in
theorem xw_127 : Cond.fieldLink "ActorTrees$World" 44 "ActorTrees$World" "came" "I" ∈ xtbl := xmem (List.mem_of_getElem? (i := 160) rfl) rfl
set_option maxRecDepth 100000 in
theorem xw_128 : Cond.code yX6_isActor prog_8_method_3_code 2 (Option.some FieldType.boolean) ∈ xtbl := xmem (List.mem_of_getElem? (i := 270) rfl) rfl
set_option maxRecDepth 100000 in
theorem xw_129 : Cond.initialized "ActorTrees$World" ∈ xtbl := xmem (List.mem_of_getElem? (i := 2) rfl) rfl
set_option maxRecDepth 100000 in
theorem xw_130 : Cond.methodLink "ActorTrees$World" 82 yX6_isActor ∈ xtbl := xmem (List.mem_of_getElem? (i := 323) rfl) rfl
set_option maxRecDepth 100000 in
theorem xw_131 : Cond.instanceMethod yX6_isActor ∈ xtbl := xmem (List.mem_of_getElem? (i := 268) rfl) rfl
set_option maxRecDepth 100000 in
theorem xw_132 : Cond.selects "ActorTrees$World" yX6_isActor yX6_isActor ∈ xtbl := xmem (List.mem_of_getElem? (i := 269) rfl) rfl
set_option maxRecDepth 100000 in
theorem xw_133 : Cond.code yX6_isLive prog_8_method_4_code 2 (Option.some FieldType.boolean) ∈ xtbl := xmem (List.mem_of_getElem? (i := 310) rfl) rfl
set_option maxRecDepth 100000 in
theorem xw_134 : Cond.methodLink "ActorTrees$World" 86 yX6_isLive ∈ xtbl := xmem (List.mem_of_getElem? (i := 307) rfl) rfl
set_option maxRecDepth 100000 in
theorem xw_135 : Cond.instanceMethod yX6_isLive ∈ xtbl := xmem (List.mem_of_getElem? (i := 308) rfl) rfl
set_option maxRecDepth 100000 in
theorem xw_136 : Cond.selects "ActorTrees$World" yX6_isLive yX6_isLive ∈ xtbl := xmem (List.mem_of_getElem? (i := 309) rfl) rfl
set_option maxRecDepth 100000 in
theorem xw_137 : Cond.fieldLink "ActorTrees$World" 11 "ActorTrees$World" "actors" "[LActorTrees$Actor;" ∈ xtbl := xmem (List.mem_of_getElem? (i := 152) rfl) rfl
set_option maxRecDepth 100000 in
theorem xw_138 : Cond.code yX0_begin prog_2_method_2_code 3 (Option.none) ∈ xtbl := xmem (List.mem_of_getElem? (i := 554) rfl) rfl
set_option maxRecDepth 100000 in
theorem xw_139 : Cond.methodLink "ActorTrees$World" 89 yX0_begin ∈ xtbl := xmem (List.mem_of_getElem? (i := 551) rfl) rfl
set_option maxRecDepth 100000 in
theorem xw_140 : Cond.instanceMethod yX0_begin ∈ xtbl := xmem (List.mem_of_getElem? (i := 552) rfl) rfl
set_option maxRecDepth 100000 in
theorem xw_141 : Cond.selects "ActorTrees$Actor" yX0_begin yX0_begin ∈ xtbl := xmem (List.mem_of_getElem? (i := 553) rfl) rfl
set_option maxRecDepth 100000 in
theorem xw_142 : Cond.fieldLink "ActorTrees$World" 93 "ActorTrees$Actor" "strategy" "I" ∈ xtbl := xmem (List.mem_of_getElem? (i := 99) rfl) rfl
set_option maxRecDepth 100000 in
theorem xw_143 : Cond.fieldLink "ActorTrees$World" 96 "ActorTrees$Actor" "budget" "I" ∈ xtbl := xmem (List.mem_of_getElem? (i := 102) rfl) rfl
set_option maxRecDepth 100000 in
theorem xw_144 : Cond.fieldLink "ActorTrees$World" 99 "ActorTrees$Actor" "window" "I" ∈ xtbl := xmem (List.mem_of_getElem? (i := 105) rfl) rfl
set_option maxRecDepth 100000 in
theorem xw_145 : Cond.fieldLink "ActorTrees$World" 73 "ActorTrees$Actor" "parent" "I" ∈ xtbl := xmem (List.mem_of_getElem? (i := 94) rfl) rfl
set_option maxRecDepth 100000 in
theorem xw_146 : Cond.code yX0_copyFrom prog_2_method_4_code 2 (Option.none) ∈ xtbl := xmem (List.mem_of_getElem? (i := 481) rfl) rfl
set_option maxRecDepth 100000 in
theorem xw_147 : Cond.methodLink "ActorTrees$World" 47 yX0_copyFrom ∈ xtbl := xmem (List.mem_of_getElem? (i := 478) rfl) rfl
set_option maxRecDepth 100000 in
theorem xw_148 : Cond.instanceMethod yX0_copyFrom ∈ xtbl := xmem (List.mem_of_getElem? (i := 479) rfl) rfl
set_option maxRecDepth 100000 in
theorem xw_149 : Cond.selects "ActorTrees$Actor" yX0_copyFrom yX0_copyFrom ∈ xtbl := xmem (List.mem_of_getElem? (i := 480) rfl) rfl
set_option maxRecDepth 100000 in
theorem xw_150 : Cond.fieldLink "ActorTrees$World" 20 "ActorTrees$World" "timers" "LActorTrees$Timers;" ∈ xtbl := xmem (List.mem_of_getElem? (i := 154) rfl) rfl
set_option maxRecDepth 100000 in
theorem xw_151 : Cond.code yX5_copyFrom prog_7_method_10_code 2 (Option.none) ∈ xtbl := xmem (List.mem_of_getElem? (i := 499) rfl) rfl
set_option maxRecDepth 100000 in
theorem xw_152 : Cond.methodLink "ActorTrees$World" 51 yX5_copyFrom ∈ xtbl := xmem (List.mem_of_getElem? (i := 496) rfl) rfl
set_option maxRecDepth 100000 in
theorem xw_153 : Cond.instanceMethod yX5_copyFrom ∈ xtbl := xmem (List.mem_of_getElem? (i := 497) rfl) rfl
set_option maxRecDepth 100000 in
theorem xw_154 : Cond.selects "ActorTrees$Timers" yX5_copyFrom yX5_copyFrom ∈ xtbl := xmem (List.mem_of_getElem? (i := 498) rfl) rfl
set_option maxRecDepth 100000 in
theorem xw_155 : Cond.fieldLink "ActorTrees$World" 29 "ActorTrees$World" "dealt" "LActorTrees$Pairs;" ∈ xtbl := xmem (List.mem_of_getElem? (i := 156) rfl) rfl
set_option maxRecDepth 100000 in
theorem xw_156 : Cond.methodLink "ActorTrees$World" 54 yX3_copyFrom ∈ xtbl := xmem (List.mem_of_getElem? (i := 503) rfl) rfl
set_option maxRecDepth 100000 in
theorem xw_157 : Cond.fieldLink "ActorTrees$World" 33 "ActorTrees$World" "causes" "LActorTrees$Pairs;" ∈ xtbl := xmem (List.mem_of_getElem? (i := 158) rfl) rfl
set_option maxRecDepth 100000 in
theorem xw_158 : Cond.fieldLink "ActorTrees$World" 36 "ActorTrees$World" "latest" "I" ∈ xtbl := xmem (List.mem_of_getElem? (i := 162) rfl) rfl
set_option maxRecDepth 100000 in
theorem xw_159 : Cond.fieldLink "ActorTrees$World" 57 "ActorTrees$World" "time" "I" ∈ xtbl := xmem (List.mem_of_getElem? (i := 163) rfl) rfl
set_option maxRecDepth 100000 in
theorem xw_160 : Cond.fieldLink "ActorTrees$World" 60 "ActorTrees$World" "clock" "I" ∈ xtbl := xmem (List.mem_of_getElem? (i := 165) rfl) rfl
set_option maxRecDepth 100000 in
theorem xw_161 : Cond.fieldLink "ActorTrees$World" 63 "ActorTrees$World" "deadLetters" "I" ∈ xtbl := xmem (List.mem_of_getElem? (i := 167) rfl) rfl
set_option maxRecDepth 100000 in
theorem xw_162 : Cond.fieldLink "ActorTrees$World" 40 "ActorTrees$World" "seed" "I" ∈ xtbl := xmem (List.mem_of_getElem? (i := 169) rfl) rfl
set_option maxRecDepth 100000 in
theorem xw_163 : Cond.fieldLink "ActorTrees$World" 66 "ActorTrees$World" "ended" "I" ∈ xtbl := xmem (List.mem_of_getElem? (i := 171) rfl) rfl
set_option maxRecDepth 100000 in
theorem xw_164 : Cond.fieldLink "ActorTrees$World" 158 "ActorTrees$Actor" "stack" "LActorTrees$Numbers;" ∈ xtbl := xmem (List.mem_of_getElem? (i := 114) rfl) rfl
set_option maxRecDepth 100000 in
theorem xw_165 : Cond.fieldLink "ActorTrees$World" 162 "ActorTrees$Numbers" "size" "I" ∈ xtbl := xmem (List.mem_of_getElem? (i := 84) rfl) rfl
set_option maxRecDepth 100000 in
theorem xw_166 : Cond.methodLink "ActorTrees$World" 165 yX2_at ∈ xtbl := xmem (List.mem_of_getElem? (i := 381) rfl) rfl
set_option maxRecDepth 100000 in
theorem xw_167 : Cond.code yX6_dealLater prog_8_method_19_code 5 (Option.some FieldType.int) ∈ xtbl := xmem (List.mem_of_getElem? (i := 385) rfl) rfl
set_option maxRecDepth 100000 in
theorem xw_168 : Cond.methodLink "ActorTrees$World" 168 yX6_dealLater ∈ xtbl := xmem (List.mem_of_getElem? (i := 382) rfl) rfl
set_option maxRecDepth 100000 in
theorem xw_169 : Cond.instanceMethod yX6_dealLater ∈ xtbl := xmem (List.mem_of_getElem? (i := 384) rfl) rfl
theorem xw_170 : Cond.selects "ActorTrees$World" yX6_dealLater yX6_dealLater ∈ xtbl := List.mem_append_left _ (List.mem_of_getElem? (i := 4) rfl)
set_option maxRecDepth 100000 in
theorem xw_171 : Cond.code yX6_dealEarlier prog_8_method_18_code 6 (Option.some FieldType.int) ∈ xtbl := xmem (List.mem_of_getElem? (i := 434) rfl) rfl
set_option maxRecDepth 100000 in
theorem xw_172 : Cond.methodLink "ActorTrees$World" 171 yX6_dealEarlier ∈ xtbl := xmem (List.mem_of_getElem? (i := 431) rfl) rfl
set_option maxRecDepth 100000 in
theorem xw_173 : Cond.instanceMethod yX6_dealEarlier ∈ xtbl := xmem (List.mem_of_getElem? (i := 433) rfl) rfl
theorem xw_174 : Cond.selects "ActorTrees$World" yX6_dealEarlier yX6_dealEarlier ∈ xtbl := List.mem_append_left _ (List.mem_of_getElem? (i := 8) rfl)
set_option maxRecDepth 100000 in
theorem xw_175 : Cond.fieldLink "ActorTrees$World" 175 "ActorTrees$Actor" "count" "I" ∈ xtbl := xmem (List.mem_of_getElem? (i := 108) rfl) rfl
set_option maxRecDepth 100000 in
theorem xw_176 : Cond.code yX6_sendDown prog_8_method_20_code 6 (Option.none) ∈ xtbl := xmem (List.mem_of_getElem? (i := 393) rfl) rfl
set_option maxRecDepth 100000 in
theorem xw_177 : Cond.methodLink "ActorTrees$World" 178 yX6_sendDown ∈ xtbl := xmem (List.mem_of_getElem? (i := 390) rfl) rfl
set_option maxRecDepth 100000 in
theorem xw_178 : Cond.instanceMethod yX6_sendDown ∈ xtbl := xmem (List.mem_of_getElem? (i := 392) rfl) rfl
theorem xw_179 : Cond.selects "ActorTrees$World" yX6_sendDown yX6_sendDown ∈ xtbl := List.mem_append_left _ (List.mem_of_getElem? (i := 5) rfl)
set_option maxRecDepth 100000 in
theorem xw_180 : Cond.code yX6_send prog_8_method_10_code 5 (Option.some FieldType.boolean) ∈ xtbl := xmem (List.mem_of_getElem? (i := 351) rfl) rfl
set_option maxRecDepth 100000 in
theorem xw_181 : Cond.methodLink "ActorTrees$World" 154 yX6_send ∈ xtbl := xmem (List.mem_of_getElem? (i := 348) rfl) rfl
set_option maxRecDepth 100000 in
theorem xw_182 : Cond.instanceMethod yX6_send ∈ xtbl := xmem (List.mem_of_getElem? (i := 349) rfl) rfl
set_option maxRecDepth 100000 in
theorem xw_183 : Cond.selects "ActorTrees$World" yX6_send yX6_send ∈ xtbl := xmem (List.mem_of_getElem? (i := 350) rfl) rfl
set_option maxRecDepth 100000 in
theorem xw_184 : Cond.fieldLink "ActorTrees$World" 182 "ActorTrees$Actor" "stash" "LActorTrees$Pairs;" ∈ xtbl := xmem (List.mem_of_getElem? (i := 120) rfl) rfl
set_option maxRecDepth 100000 in
theorem xw_185 : Cond.methodLink "ActorTrees$World" 102 yX3_add ∈ xtbl := xmem (List.mem_of_getElem? (i := 352) rfl) rfl
set_option maxRecDepth 100000 in
theorem xw_186 : Cond.code yX6_unstash prog_8_method_21_code 2 (Option.none) ∈ xtbl := xmem (List.mem_of_getElem? (i := 438) rfl) rfl
set_option maxRecDepth 100000 in
theorem xw_187 : Cond.methodLink "ActorTrees$World" 185 yX6_unstash ∈ xtbl := xmem (List.mem_of_getElem? (i := 435) rfl) rfl
set_option maxRecDepth 100000 in
theorem xw_188 : Cond.instanceMethod yX6_unstash ∈ xtbl := xmem (List.mem_of_getElem? (i := 437) rfl) rfl
theorem xw_189 : Cond.selects "ActorTrees$World" yX6_unstash yX6_unstash ∈ xtbl := List.mem_append_left _ (List.mem_of_getElem? (i := 9) rfl)
set_option maxRecDepth 100000 in
theorem xw_190 : Cond.methodLink "ActorTrees$World" 188 yX2_add ∈ xtbl := xmem (List.mem_of_getElem? (i := 406) rfl) rfl
set_option maxRecDepth 100000 in
theorem xw_191 : Cond.code yX5_set prog_7_method_6_code 5 (Option.none) ∈ xtbl := xmem (List.mem_of_getElem? (i := 389) rfl) rfl
set_option maxRecDepth 100000 in
theorem xw_192 : Cond.methodLink "ActorTrees$World" 190 yX5_set ∈ xtbl := xmem (List.mem_of_getElem? (i := 386) rfl) rfl
set_option maxRecDepth 100000 in
theorem xw_193 : Cond.instanceMethod yX5_set ∈ xtbl := xmem (List.mem_of_getElem? (i := 387) rfl) rfl
set_option maxRecDepth 100000 in
theorem xw_194 : Cond.selects "ActorTrees$Timers" yX5_set yX5_set ∈ xtbl := xmem (List.mem_of_getElem? (i := 388) rfl) rfl
set_option maxRecDepth 100000 in
theorem xw_195 : Cond.code yX6_watch prog_8_method_22_code 4 (Option.none) ∈ xtbl := xmem (List.mem_of_getElem? (i := 401) rfl) rfl
set_option maxRecDepth 100000 in
theorem xw_196 : Cond.methodLink "ActorTrees$World" 193 yX6_watch ∈ xtbl := xmem (List.mem_of_getElem? (i := 398) rfl) rfl
set_option maxRecDepth 100000 in
theorem xw_197 : Cond.instanceMethod yX6_watch ∈ xtbl := xmem (List.mem_of_getElem? (i := 400) rfl) rfl
theorem xw_198 : Cond.selects "ActorTrees$World" yX6_watch yX6_watch ∈ xtbl := List.mem_append_left _ (List.mem_of_getElem? (i := 6) rfl)
set_option maxRecDepth 100000 in
theorem xw_199 : Cond.code yX6_halt prog_8_method_27_code 8 (Option.some FieldType.int) ∈ xtbl := xmem (List.mem_of_getElem? (i := 413) rfl) rfl
set_option maxRecDepth 100000 in
theorem xw_200 : Cond.methodLink "ActorTrees$World" 196 yX6_halt ∈ xtbl := xmem (List.mem_of_getElem? (i := 410) rfl) rfl
set_option maxRecDepth 100000 in
theorem xw_201 : Cond.instanceMethod yX6_halt ∈ xtbl := xmem (List.mem_of_getElem? (i := 411) rfl) rfl
set_option maxRecDepth 100000 in
theorem xw_202 : Cond.selects "ActorTrees$World" yX6_halt yX6_halt ∈ xtbl := xmem (List.mem_of_getElem? (i := 412) rfl) rfl
set_option maxRecDepth 100000 in
theorem xw_203 : Cond.fieldLink "ActorTrees$World" 212 "ActorTrees$World" "hasFailed" "Z" ∈ xtbl := xmem (List.mem_of_getElem? (i := 173) rfl) rfl
set_option maxRecDepth 100000 in
theorem xw_204 : Cond.fieldLink "ActorTrees$World" 79 "ActorTrees$Pairs" "size" "I" ∈ xtbl := xmem (List.mem_of_getElem? (i := 61) rfl) rfl
set_option maxRecDepth 100000 in
theorem xw_205 : Cond.code yX6_isOverBudgetAbove prog_8_method_24_code 3 (Option.some FieldType.boolean) ∈ xtbl := xmem (List.mem_of_getElem? (i := 453) rfl) rfl
set_option maxRecDepth 100000 in
theorem xw_206 : Cond.methodLink "ActorTrees$World" 215 yX6_isOverBudgetAbove ∈ xtbl := xmem (List.mem_of_getElem? (i := 450) rfl) rfl
set_option maxRecDepth 100000 in
theorem xw_207 : Cond.instanceMethod yX6_isOverBudgetAbove ∈ xtbl := xmem (List.mem_of_getElem? (i := 452) rfl) rfl
theorem xw_208 : Cond.selects "ActorTrees$World" yX6_isOverBudgetAbove yX6_isOverBudgetAbove ∈ xtbl := List.mem_append_left _ (List.mem_of_getElem? (i := 10) rfl)
set_option maxRecDepth 100000 in
theorem xw_209 : Cond.code yX6_isRestartedWith prog_8_method_25_code 4 (Option.some FieldType.boolean) ∈ xtbl := xmem (List.mem_of_getElem? (i := 461) rfl) rfl
set_option maxRecDepth 100000 in
theorem xw_210 : Cond.methodLink "ActorTrees$World" 218 yX6_isRestartedWith ∈ xtbl := xmem (List.mem_of_getElem? (i := 458) rfl) rfl
set_option maxRecDepth 100000 in
theorem xw_211 : Cond.instanceMethod yX6_isRestartedWith ∈ xtbl := xmem (List.mem_of_getElem? (i := 460) rfl) rfl
theorem xw_212 : Cond.selects "ActorTrees$World" yX6_isRestartedWith yX6_isRestartedWith ∈ xtbl := List.mem_append_left _ (List.mem_of_getElem? (i := 11) rfl)
set_option maxRecDepth 100000 in
theorem xw_213 : Cond.code yX6_restart prog_8_method_26_code 3 (Option.none) ∈ xtbl := xmem (List.mem_of_getElem? (i := 465) rfl) rfl
set_option maxRecDepth 100000 in
theorem xw_214 : Cond.methodLink "ActorTrees$World" 221 yX6_restart ∈ xtbl := xmem (List.mem_of_getElem? (i := 462) rfl) rfl
set_option maxRecDepth 100000 in
theorem xw_215 : Cond.instanceMethod yX6_restart ∈ xtbl := xmem (List.mem_of_getElem? (i := 464) rfl) rfl
theorem xw_216 : Cond.selects "ActorTrees$World" yX6_restart yX6_restart ∈ xtbl := List.mem_append_left _ (List.mem_of_getElem? (i := 12) rfl)
set_option maxRecDepth 100000 in
theorem xw_217 : Cond.fieldLink "ActorTrees$World" 117 "ActorTrees$Timers" "size" "I" ∈ xtbl := xmem (List.mem_of_getElem? (i := 39) rfl) rfl
set_option maxRecDepth 100000 in
theorem xw_218 : Cond.code yX5_ownerAt prog_7_method_2_code 2 (Option.some FieldType.int) ∈ xtbl := xmem (List.mem_of_getElem? (i := 331) rfl) rfl
set_option maxRecDepth 100000 in
theorem xw_219 : Cond.methodLink "ActorTrees$World" 144 yX5_ownerAt ∈ xtbl := xmem (List.mem_of_getElem? (i := 328) rfl) rfl
set_option maxRecDepth 100000 in
theorem xw_220 : Cond.instanceMethod yX5_ownerAt ∈ xtbl := xmem (List.mem_of_getElem? (i := 329) rfl) rfl
set_option maxRecDepth 100000 in
theorem xw_221 : Cond.selects "ActorTrees$Timers" yX5_ownerAt yX5_ownerAt ∈ xtbl := xmem (List.mem_of_getElem? (i := 330) rfl) rfl
set_option maxRecDepth 100000 in
theorem xw_222 : Cond.code yX5_numberAt prog_7_method_4_code 2 (Option.some FieldType.int) ∈ xtbl := xmem (List.mem_of_getElem? (i := 335) rfl) rfl
set_option maxRecDepth 100000 in
theorem xw_223 : Cond.methodLink "ActorTrees$World" 147 yX5_numberAt ∈ xtbl := xmem (List.mem_of_getElem? (i := 332) rfl) rfl
set_option maxRecDepth 100000 in
theorem xw_224 : Cond.instanceMethod yX5_numberAt ∈ xtbl := xmem (List.mem_of_getElem? (i := 333) rfl) rfl
set_option maxRecDepth 100000 in
theorem xw_225 : Cond.selects "ActorTrees$Timers" yX5_numberAt yX5_numberAt ∈ xtbl := xmem (List.mem_of_getElem? (i := 334) rfl) rfl
set_option maxRecDepth 100000 in
theorem xw_226 : Cond.code yX5_dueAt prog_7_method_3_code 2 (Option.some FieldType.int) ∈ xtbl := xmem (List.mem_of_getElem? (i := 339) rfl) rfl
set_option maxRecDepth 100000 in
theorem xw_227 : Cond.methodLink "ActorTrees$World" 150 yX5_dueAt ∈ xtbl := xmem (List.mem_of_getElem? (i := 336) rfl) rfl
set_option maxRecDepth 100000 in
theorem xw_228 : Cond.instanceMethod yX5_dueAt ∈ xtbl := xmem (List.mem_of_getElem? (i := 337) rfl) rfl
set_option maxRecDepth 100000 in
theorem xw_229 : Cond.selects "ActorTrees$Timers" yX5_dueAt yX5_dueAt ∈ xtbl := xmem (List.mem_of_getElem? (i := 338) rfl) rfl
set_option maxRecDepth 100000 in
theorem xw_230 : Cond.code yX5_removeFirst prog_7_method_8_code 2 (Option.none) ∈ xtbl := xmem (List.mem_of_getElem? (i := 343) rfl) rfl
set_option maxRecDepth 100000 in
theorem xw_231 : Cond.methodLink "ActorTrees$World" 153 yX5_removeFirst ∈ xtbl := xmem (List.mem_of_getElem? (i := 340) rfl) rfl
set_option maxRecDepth 100000 in
theorem xw_232 : Cond.instanceMethod yX5_removeFirst ∈ xtbl := xmem (List.mem_of_getElem? (i := 341) rfl) rfl
set_option maxRecDepth 100000 in
theorem xw_233 : Cond.selects "ActorTrees$Timers" yX5_removeFirst yX5_removeFirst ∈ xtbl := xmem (List.mem_of_getElem? (i := 342) rfl) rfl
set_option maxRecDepth 100000 in
theorem xw_234 : Cond.code yX6_isLiveChild prog_8_method_5_code 3 (Option.some FieldType.boolean) ∈ xtbl := xmem (List.mem_of_getElem? (i := 397) rfl) rfl
set_option maxRecDepth 100000 in
theorem xw_235 : Cond.methodLink "ActorTrees$World" 199 yX6_isLiveChild ∈ xtbl := xmem (List.mem_of_getElem? (i := 394) rfl) rfl
set_option maxRecDepth 100000 in
theorem xw_236 : Cond.instanceMethod yX6_isLiveChild ∈ xtbl := xmem (List.mem_of_getElem? (i := 395) rfl) rfl
set_option maxRecDepth 100000 in
theorem xw_237 : Cond.selects "ActorTrees$World" yX6_isLiveChild yX6_isLiveChild ∈ xtbl := xmem (List.mem_of_getElem? (i := 396) rfl) rfl
set_option maxRecDepth 100000 in
theorem xw_238 : Cond.code yX6_greatestLiveChild prog_8_method_28_code 3 (Option.some FieldType.int) ∈ xtbl := xmem (List.mem_of_getElem? (i := 417) rfl) rfl
set_option maxRecDepth 100000 in
theorem xw_239 : Cond.methodLink "ActorTrees$World" 239 yX6_greatestLiveChild ∈ xtbl := xmem (List.mem_of_getElem? (i := 414) rfl) rfl
set_option maxRecDepth 100000 in
theorem xw_240 : Cond.instanceMethod yX6_greatestLiveChild ∈ xtbl := xmem (List.mem_of_getElem? (i := 416) rfl) rfl
theorem xw_241 : Cond.selects "ActorTrees$World" yX6_greatestLiveChild yX6_greatestLiveChild ∈ xtbl := List.mem_append_left _ (List.mem_of_getElem? (i := 7) rfl)
set_option maxRecDepth 100000 in
theorem xw_242 : Cond.fieldLink "ActorTrees$World" 69 "ActorTrees$Actor" "live" "Z" ∈ xtbl := xmem (List.mem_of_getElem? (i := 110) rfl) rfl
set_option maxRecDepth 100000 in
theorem xw_243 : Cond.fieldLink "ActorTrees$World" 76 "ActorTrees$Actor" "mailbox" "LActorTrees$Pairs;" ∈ xtbl := xmem (List.mem_of_getElem? (i := 117) rfl) rfl
set_option maxRecDepth 100000 in
theorem xw_244 : Cond.methodLink "ActorTrees$World" 233 yX0_keepOwnOnly ∈ xtbl := xmem (List.mem_of_getElem? (i := 418) rfl) rfl
set_option maxRecDepth 100000 in
theorem xw_245 : Cond.code yX5_removeOf prog_7_method_7_code 4 (Option.none) ∈ xtbl := xmem (List.mem_of_getElem? (i := 426) rfl) rfl
set_option maxRecDepth 100000 in
theorem xw_246 : Cond.methodLink "ActorTrees$World" 236 yX5_removeOf ∈ xtbl := xmem (List.mem_of_getElem? (i := 423) rfl) rfl
set_option maxRecDepth 100000 in
theorem xw_247 : Cond.instanceMethod yX5_removeOf ∈ xtbl := xmem (List.mem_of_getElem? (i := 424) rfl) rfl
set_option maxRecDepth 100000 in
theorem xw_248 : Cond.selects "ActorTrees$Timers" yX5_removeOf yX5_removeOf ∈ xtbl := xmem (List.mem_of_getElem? (i := 425) rfl) rfl
set_option maxRecDepth 100000 in
theorem xw_249 : Cond.fieldLink "ActorTrees$World" 206 "ActorTrees$Actor" "watchers" "LActorTrees$Numbers;" ∈ xtbl := xmem (List.mem_of_getElem? (i := 123) rfl) rfl
set_option maxRecDepth 100000 in
theorem xw_250 : Cond.code yX2_remove prog_4_method_6_code 4 (Option.none) ∈ xtbl := xmem (List.mem_of_getElem? (i := 430) rfl) rfl
set_option maxRecDepth 100000 in
theorem xw_251 : Cond.methodLink "ActorTrees$World" 242 yX2_remove ∈ xtbl := xmem (List.mem_of_getElem? (i := 427) rfl) rfl
set_option maxRecDepth 100000 in
theorem xw_252 : Cond.instanceMethod yX2_remove ∈ xtbl := xmem (List.mem_of_getElem? (i := 428) rfl) rfl
set_option maxRecDepth 100000 in
theorem xw_253 : Cond.selects "ActorTrees$Numbers" yX2_remove yX2_remove ∈ xtbl := xmem (List.mem_of_getElem? (i := 429) rfl) rfl
set_option maxRecDepth 100000 in
theorem xw_254 : Cond.code yX6_nextDealer prog_8_method_14_code 3 (Option.some FieldType.int) ∈ xtbl := xmem (List.mem_of_getElem? (i := 318) rfl) rfl
set_option maxRecDepth 100000 in
theorem xw_255 : Cond.methodLink "ActorTrees$World" 118 yX6_nextDealer ∈ xtbl := xmem (List.mem_of_getElem? (i := 315) rfl) rfl
set_option maxRecDepth 100000 in
theorem xw_256 : Cond.instanceMethod yX6_nextDealer ∈ xtbl := xmem (List.mem_of_getElem? (i := 317) rfl) rfl
theorem xw_257 : Cond.selects "ActorTrees$World" yX6_nextDealer yX6_nextDealer ∈ xtbl := List.mem_append_left _ (List.mem_of_getElem? (i := 1) rfl)
set_option maxRecDepth 100000 in
theorem xw_258 : Cond.code yX6_hasStep prog_8_method_13_code 1 (Option.some FieldType.boolean) ∈ xtbl := xmem (List.mem_of_getElem? (i := 314) rfl) rfl
set_option maxRecDepth 100000 in
theorem xw_259 : Cond.methodLink "ActorTrees$World" 114 yX6_hasStep ∈ xtbl := xmem (List.mem_of_getElem? (i := 311) rfl) rfl
set_option maxRecDepth 100000 in
theorem xw_260 : Cond.instanceMethod yX6_hasStep ∈ xtbl := xmem (List.mem_of_getElem? (i := 312) rfl) rfl
set_option maxRecDepth 100000 in
theorem xw_261 : Cond.selects "ActorTrees$World" yX6_hasStep yX6_hasStep ∈ xtbl := xmem (List.mem_of_getElem? (i := 313) rfl) rfl
set_option maxRecDepth 100000 in
theorem xw_262 : Cond.methodLink "ActorTrees$World" 3 objectInit ∈ xtbl := xmem (List.mem_of_getElem? (i := 25) rfl) rfl
set_option maxRecDepth 100000 in
theorem xw_263 : Cond.classLink "ActorTrees$World" 9 "ActorTrees$Actor" ∈ xtbl := xmem (List.mem_of_getElem? (i := 26) rfl) rfl
set_option maxRecDepth 100000 in
theorem xw_264 : Cond.classLink "ActorTrees$World" 17 "ActorTrees$Timers" ∈ xtbl := xmem (List.mem_of_getElem? (i := 28) rfl) rfl
set_option maxRecDepth 100000 in
theorem xw_265 : Cond.instantiable "ActorTrees$Timers" 4 ∈ xtbl := xmem (List.mem_of_getElem? (i := 29) rfl) rfl
set_option maxRecDepth 100000 in
theorem xw_266 : Cond.code yX5_init prog_7_method_1_code 1 (Option.none) ∈ xtbl := xmem (List.mem_of_getElem? (i := 32) rfl) rfl
set_option maxRecDepth 100000 in
theorem xw_267 : Cond.instanceMethod yX5_init ∈ xtbl := xmem (List.mem_of_getElem? (i := 31) rfl) rfl
set_option maxRecDepth 100000 in
theorem xw_268 : Cond.classLink "ActorTrees$World" 24 "ActorTrees$Pairs" ∈ xtbl := xmem (List.mem_of_getElem? (i := 50) rfl) rfl
set_option maxRecDepth 100000 in
theorem xw_269 : Cond.methodLink "ActorTrees$World" 26 yX3_init ∈ xtbl := xmem (List.mem_of_getElem? (i := 52) rfl) rfl
set_option maxRecDepth 100000 in
theorem xw_270 : Cond.instantiable "ActorTrees$Actor" 12 ∈ xtbl := xmem (List.mem_of_getElem? (i := 69) rfl) rfl
set_option maxRecDepth 100000 in
theorem xw_271 : Cond.code yX0_init prog_2_method_1_code 1 (Option.none) ∈ xtbl := xmem (List.mem_of_getElem? (i := 72) rfl) rfl
set_option maxRecDepth 100000 in
theorem xw_272 : Cond.instanceMethod yX0_init ∈ xtbl := xmem (List.mem_of_getElem? (i := 71) rfl) rfl
set_option maxRecDepth 100000 in
theorem xw_273 : Cond.fieldLink "ActorTrees$World" 224 "ActorTrees$Actor" "notes" "LActorTrees$Numbers;" ∈ xtbl := xmem (List.mem_of_getElem? (i := 126) rfl) rfl
set_option maxRecDepth 100000 in
theorem xw_274 : Cond.code yX2_removeBelow prog_4_method_7_code 4 (Option.none) ∈ xtbl := xmem (List.mem_of_getElem? (i := 457) rfl) rfl
set_option maxRecDepth 100000 in
theorem xw_275 : Cond.methodLink "ActorTrees$World" 227 yX2_removeBelow ∈ xtbl := xmem (List.mem_of_getElem? (i := 454) rfl) rfl
set_option maxRecDepth 100000 in
theorem xw_276 : Cond.instanceMethod yX2_removeBelow ∈ xtbl := xmem (List.mem_of_getElem? (i := 455) rfl) rfl
set_option maxRecDepth 100000 in
theorem xw_277 : Cond.selects "ActorTrees$Numbers" yX2_removeBelow yX2_removeBelow ∈ xtbl := xmem (List.mem_of_getElem? (i := 456) rfl) rfl
set_option maxRecDepth 100000 in
theorem xw_278 : Cond.code yX6_howItStands prog_8_method_12_code 1 (Option.some FieldType.int) ∈ xtbl := xmem (List.mem_of_getElem? (i := 306) rfl) rfl
set_option maxRecDepth 100000 in
theorem xw_279 : Cond.methodLink "ActorTrees$World" 106 yX6_howItStands ∈ xtbl := xmem (List.mem_of_getElem? (i := 303) rfl) rfl
set_option maxRecDepth 100000 in
theorem xw_280 : Cond.instanceMethod yX6_howItStands ∈ xtbl := xmem (List.mem_of_getElem? (i := 305) rfl) rfl
theorem xw_281 : Cond.selects "ActorTrees$World" yX6_howItStands yX6_howItStands ∈ xtbl := List.mem_append_left _ (List.mem_of_getElem? (i := 0) rfl)
set_option maxRecDepth 100000 in
theorem xw_282 : Cond.code yX6_step prog_8_method_15_code 6 (Option.some FieldType.boolean) ∈ xtbl := xmem (List.mem_of_getElem? (i := 322) rfl) rfl
set_option maxRecDepth 100000 in
theorem xw_283 : Cond.methodLink "ActorTrees$World" 110 yX6_step ∈ xtbl := xmem (List.mem_of_getElem? (i := 319) rfl) rfl
set_option maxRecDepth 100000 in
theorem xw_284 : Cond.instanceMethod yX6_step ∈ xtbl := xmem (List.mem_of_getElem? (i := 320) rfl) rfl
set_option maxRecDepth 100000 in
theorem xw_285 : Cond.selects "ActorTrees$World" yX6_step yX6_step ∈ xtbl := xmem (List.mem_of_getElem? (i := 321) rfl) rfl
set_option maxRecDepth 100000 in
theorem xw_286 : Cond.fieldLink "ActorTrees$World" 230 "ActorTrees$World" "restarted" "I" ∈ xtbl := xmem (List.mem_of_getElem? (i := 174) rfl) rfl
set_option maxRecDepth 100000 in
theorem xw_287 : Cond.code yX6_fireTimer prog_8_method_16_code 3 (Option.some FieldType.boolean) ∈ xtbl := xmem (List.mem_of_getElem? (i := 327) rfl) rfl
set_option maxRecDepth 100000 in
theorem xw_288 : Cond.methodLink "ActorTrees$World" 121 yX6_fireTimer ∈ xtbl := xmem (List.mem_of_getElem? (i := 324) rfl) rfl
set_option maxRecDepth 100000 in
theorem xw_289 : Cond.instanceMethod yX6_fireTimer ∈ xtbl := xmem (List.mem_of_getElem? (i := 326) rfl) rfl
theorem xw_290 : Cond.selects "ActorTrees$World" yX6_fireTimer yX6_fireTimer ∈ xtbl := List.mem_append_left _ (List.mem_of_getElem? (i := 2) rfl)
set_option maxRecDepth 100000 in
theorem xw_291 : Cond.code yX3_firstAt prog_5_method_2_code 2 (Option.some FieldType.int) ∈ xtbl := xmem (List.mem_of_getElem? (i := 359) rfl) rfl
set_option maxRecDepth 100000 in
theorem xw_292 : Cond.methodLink "ActorTrees$World" 124 yX3_firstAt ∈ xtbl := xmem (List.mem_of_getElem? (i := 356) rfl) rfl
set_option maxRecDepth 100000 in
theorem xw_293 : Cond.instanceMethod yX3_firstAt ∈ xtbl := xmem (List.mem_of_getElem? (i := 357) rfl) rfl
set_option maxRecDepth 100000 in
theorem xw_294 : Cond.selects "ActorTrees$Pairs" yX3_firstAt yX3_firstAt ∈ xtbl := xmem (List.mem_of_getElem? (i := 358) rfl) rfl
set_option maxRecDepth 100000 in
theorem xw_295 : Cond.code yX3_secondAt prog_5_method_3_code 2 (Option.some FieldType.int) ∈ xtbl := xmem (List.mem_of_getElem? (i := 363) rfl) rfl
set_option maxRecDepth 100000 in
theorem xw_296 : Cond.methodLink "ActorTrees$World" 128 yX3_secondAt ∈ xtbl := xmem (List.mem_of_getElem? (i := 360) rfl) rfl
set_option maxRecDepth 100000 in
theorem xw_297 : Cond.instanceMethod yX3_secondAt ∈ xtbl := xmem (List.mem_of_getElem? (i := 361) rfl) rfl
set_option maxRecDepth 100000 in
theorem xw_298 : Cond.selects "ActorTrees$Pairs" yX3_secondAt yX3_secondAt ∈ xtbl := xmem (List.mem_of_getElem? (i := 362) rfl) rfl
set_option maxRecDepth 100000 in
theorem xw_299 : Cond.methodLink "ActorTrees$World" 131 yX3_removeFirst ∈ xtbl := xmem (List.mem_of_getElem? (i := 364) rfl) rfl
set_option maxRecDepth 100000 in
theorem xw_300 : Cond.code yX3_addDroppingOldest prog_5_method_5_code 3 (Option.none) ∈ xtbl := xmem (List.mem_of_getElem? (i := 374) rfl) rfl
set_option maxRecDepth 100000 in
theorem xw_301 : Cond.methodLink "ActorTrees$World" 134 yX3_addDroppingOldest ∈ xtbl := xmem (List.mem_of_getElem? (i := 371) rfl) rfl
set_option maxRecDepth 100000 in
theorem xw_302 : Cond.instanceMethod yX3_addDroppingOldest ∈ xtbl := xmem (List.mem_of_getElem? (i := 372) rfl) rfl
set_option maxRecDepth 100000 in
theorem xw_303 : Cond.selects "ActorTrees$Pairs" yX3_addDroppingOldest yX3_addDroppingOldest ∈ xtbl := xmem (List.mem_of_getElem? (i := 373) rfl) rfl
set_option maxRecDepth 100000 in
theorem xw_304 : Cond.code yX6_deal prog_8_method_17_code 6 (Option.some FieldType.int) ∈ xtbl := xmem (List.mem_of_getElem? (i := 380) rfl) rfl
set_option maxRecDepth 100000 in
theorem xw_305 : Cond.methodLink "ActorTrees$World" 137 yX6_deal ∈ xtbl := xmem (List.mem_of_getElem? (i := 377) rfl) rfl
set_option maxRecDepth 100000 in
theorem xw_306 : Cond.instanceMethod yX6_deal ∈ xtbl := xmem (List.mem_of_getElem? (i := 378) rfl) rfl
set_option maxRecDepth 100000 in
theorem xw_307 : Cond.selects "ActorTrees$World" yX6_deal yX6_deal ∈ xtbl := xmem (List.mem_of_getElem? (i := 379) rfl) rfl
set_option maxRecDepth 100000 in
theorem xw_308 : Cond.code yX6_fail prog_8_method_23_code 5 (Option.none) ∈ xtbl := xmem (List.mem_of_getElem? (i := 449) rfl) rfl
set_option maxRecDepth 100000 in
theorem xw_309 : Cond.methodLink "ActorTrees$World" 141 yX6_fail ∈ xtbl := xmem (List.mem_of_getElem? (i := 446) rfl) rfl
set_option maxRecDepth 100000 in
theorem xw_310 : Cond.instanceMethod yX6_fail ∈ xtbl := xmem (List.mem_of_getElem? (i := 447) rfl) rfl
set_option maxRecDepth 100000 in
theorem xw_311 : Cond.selects "ActorTrees$World" yX6_fail yX6_fail ∈ xtbl := xmem (List.mem_of_getElem? (i := 448) rfl) rfl
set_option maxRecDepth 100000 in
theorem xw_312 : Cond.code yX3_putAhead prog_5_method_7_code 3 (Option.some FieldType.int) ∈ xtbl := xmem (List.mem_of_getElem? (i := 442) rfl) rfl
set_option maxRecDepth 100000 in
theorem xw_313 : Cond.methodLink "ActorTrees$World" 202 yX3_putAhead ∈ xtbl := xmem (List.mem_of_getElem? (i := 439) rfl) rfl
set_option maxRecDepth 100000 in
theorem xw_314 : Cond.instanceMethod yX3_putAhead ∈ xtbl := xmem (List.mem_of_getElem? (i := 440) rfl) rfl
set_option maxRecDepth 100000 in
theorem xw_315 : Cond.selects "ActorTrees$Pairs" yX3_putAhead yX3_putAhead ∈ xtbl := xmem (List.mem_of_getElem? (i := 441) rfl) rfl
set_option maxRecDepth 100000 in
theorem xw_316 : Cond.code yX2_has prog_4_method_5_code 3 (Option.some FieldType.boolean) ∈ xtbl := xmem (List.mem_of_getElem? (i := 405) rfl) rfl
set_option maxRecDepth 100000 in
theorem xw_317 : Cond.methodLink "ActorTrees$World" 209 yX2_has ∈ xtbl := xmem (List.mem_of_getElem? (i := 402) rfl) rfl
set_option maxRecDepth 100000 in
theorem xw_318 : Cond.instanceMethod yX2_has ∈ xtbl := xmem (List.mem_of_getElem? (i := 403) rfl) rfl
set_option maxRecDepth 100000 in
theorem xw_319 : Cond.selects "ActorTrees$Numbers" yX2_has yX2_has ∈ xtbl := xmem (List.mem_of_getElem? (i := 404) rfl) rfl
set_option maxRecDepth 100000 in
theorem xw_320 : Cond.fieldLink "ActorTrees" 10 "ActorTrees" "now" "LActorTrees$World;" ∈ xtbl := xmem (List.mem_of_getElem? (i := 241) rfl) rfl
set_option maxRecDepth 100000 in
theorem xw_321 : Cond.code yX6_addActor prog_8_method_9_code 8 (Option.some FieldType.int) ∈ xtbl := xmem (List.mem_of_getElem? (i := 550) rfl) rfl
set_option maxRecDepth 100000 in
theorem xw_322 : Cond.methodLink "ActorTrees" 39 yX6_addActor ∈ xtbl := xmem (List.mem_of_getElem? (i := 547) rfl) rfl
set_option maxRecDepth 100000 in
theorem xw_323 : Cond.instanceMethod yX6_addActor ∈ xtbl := xmem (List.mem_of_getElem? (i := 548) rfl) rfl
set_option maxRecDepth 100000 in
theorem xw_324 : Cond.selects "ActorTrees$World" yX6_addActor yX6_addActor ∈ xtbl := xmem (List.mem_of_getElem? (i := 549) rfl) rfl
set_option maxRecDepth 100000 in
theorem xw_325 : Cond.fieldLink "ActorTrees" 244 "ActorTrees" "hasImage" "Z" ∈ xtbl := xmem (List.mem_of_getElem? (i := 247) rfl) rfl
set_option maxRecDepth 100000 in
theorem xw_326 : Cond.fieldLink "ActorTrees" 19 "ActorTrees" "kept" "LActorTrees$World;" ∈ xtbl := xmem (List.mem_of_getElem? (i := 243) rfl) rfl
set_option maxRecDepth 100000 in
theorem xw_327 : Cond.code yX6_copyFrom prog_8_method_2_code 3 (Option.none) ∈ xtbl := xmem (List.mem_of_getElem? (i := 477) rfl) rfl
set_option maxRecDepth 100000 in
theorem xw_328 : Cond.methodLink "ActorTrees" 172 yX6_copyFrom ∈ xtbl := xmem (List.mem_of_getElem? (i := 474) rfl) rfl
set_option maxRecDepth 100000 in
theorem xw_329 : Cond.instanceMethod yX6_copyFrom ∈ xtbl := xmem (List.mem_of_getElem? (i := 475) rfl) rfl
set_option maxRecDepth 100000 in
theorem xw_330 : Cond.selects "ActorTrees$World" yX6_copyFrom yX6_copyFrom ∈ xtbl := xmem (List.mem_of_getElem? (i := 476) rfl) rfl
set_option maxRecDepth 100000 in
theorem xw_331 : Cond.fieldLink "ActorTrees" 34 "ActorTrees" "handles" "[LActorTrees$Handle;" ∈ xtbl := xmem (List.mem_of_getElem? (i := 246) rfl) rfl
set_option maxRecDepth 100000 in
theorem xw_332 : Cond.fieldLink "ActorTrees" 235 "ActorTrees$Handle" "sort" "I" ∈ xtbl := xmem (List.mem_of_getElem? (i := 232) rfl) rfl
set_option maxRecDepth 100000 in
theorem xw_333 : Cond.fieldLink "ActorTrees" 247 "ActorTrees$Handle" "actor" "I" ∈ xtbl := xmem (List.mem_of_getElem? (i := 233) rfl) rfl
set_option maxRecDepth 100000 in
theorem xw_334 : Cond.methodLink "ActorTrees" 43 yX6_isActor ∈ xtbl := xmem (List.mem_of_getElem? (i := 267) rfl) rfl
set_option maxRecDepth 100000 in
theorem xw_335 : Cond.fieldLink "ActorTrees" 225 "ActorTrees$World" "came" "I" ∈ xtbl := xmem (List.mem_of_getElem? (i := 161) rfl) rfl
set_option maxRecDepth 100000 in
theorem xw_336 : Cond.methodLink "ActorTrees" 151 yX6_isLive ∈ xtbl := xmem (List.mem_of_getElem? (i := 573) rfl) rfl
set_option maxRecDepth 100000 in
theorem xw_337 : Cond.constant "ActorTrees" 130 (-2000000000) ∈ xtbl := xmem (List.mem_of_getElem? (i := 291) rfl) rfl
set_option maxRecDepth 100000 in
theorem xw_338 : Cond.fieldLink "ActorTrees" 16 "ActorTrees" "thought" "LActorTrees$World;" ∈ xtbl := xmem (List.mem_of_getElem? (i := 242) rfl) rfl
set_option maxRecDepth 100000 in
theorem xw_341 : Cond.code yX6_liveBits prog_8_method_7_code 3 (Option.some FieldType.int) ∈ xtbl := xmem (List.mem_of_getElem? (i := 507) rfl) rfl
set_option maxRecDepth 100000 in
theorem xw_342 : Cond.methodLink "ActorTrees" 176 yX6_liveBits ∈ xtbl := xmem (List.mem_of_getElem? (i := 504) rfl) rfl
set_option maxRecDepth 100000 in
theorem xw_343 : Cond.instanceMethod yX6_liveBits ∈ xtbl := xmem (List.mem_of_getElem? (i := 505) rfl) rfl
set_option maxRecDepth 100000 in
theorem xw_344 : Cond.selects "ActorTrees$World" yX6_liveBits yX6_liveBits ∈ xtbl := xmem (List.mem_of_getElem? (i := 506) rfl) rfl
set_option maxRecDepth 100000 in
theorem xw_345 : Cond.fieldLink "ActorTrees" 169 "ActorTrees$World" "causes" "LActorTrees$Pairs;" ∈ xtbl := xmem (List.mem_of_getElem? (i := 159) rfl) rfl
set_option maxRecDepth 100000 in
theorem xw_346 : Cond.fieldLink "ActorTrees" 64 "ActorTrees$Pairs" "size" "I" ∈ xtbl := xmem (List.mem_of_getElem? (i := 59) rfl) rfl
set_option maxRecDepth 100000 in
theorem xw_349 : Cond.code yJ6_bitCount_0f7a4 prog_11_method_49_code 1 (Option.some FieldType.int) ∈ xtbl := xmem (List.mem_of_getElem? (i := 528) rfl) rfl
set_option maxRecDepth 100000 in
theorem xw_350 : Cond.initialized "java/lang/Integer" ∈ xtbl := xmem (List.mem_of_getElem? (i := 9) rfl) rfl
set_option maxRecDepth 100000 in
theorem xw_351 : Cond.methodLink "ActorTrees" 258 yJ6_bitCount_0f7a4 ∈ xtbl := xmem (List.mem_of_getElem? (i := 526) rfl) rfl
set_option maxRecDepth 100000 in
theorem xw_352 : Cond.static yJ6_bitCount_0f7a4 ∈ xtbl := xmem (List.mem_of_getElem? (i := 527) rfl) rfl
set_option maxRecDepth 100000 in
theorem xw_353 : Cond.code yX6_mailed prog_8_method_8_code 3 (Option.some FieldType.int) ∈ xtbl := xmem (List.mem_of_getElem? (i := 535) rfl) rfl
set_option maxRecDepth 100000 in
theorem xw_354 : Cond.methodLink "ActorTrees" 263 yX6_mailed ∈ xtbl := xmem (List.mem_of_getElem? (i := 532) rfl) rfl
set_option maxRecDepth 100000 in
theorem xw_355 : Cond.instanceMethod yX6_mailed ∈ xtbl := xmem (List.mem_of_getElem? (i := 533) rfl) rfl
set_option maxRecDepth 100000 in
theorem xw_356 : Cond.selects "ActorTrees$World" yX6_mailed yX6_mailed ∈ xtbl := xmem (List.mem_of_getElem? (i := 534) rfl) rfl
set_option maxRecDepth 100000 in
theorem xw_357 : Cond.fieldLink "ActorTrees" 106 "ActorTrees$World" "timers" "LActorTrees$Timers;" ∈ xtbl := xmem (List.mem_of_getElem? (i := 155) rfl) rfl
set_option maxRecDepth 100000 in
theorem xw_358 : Cond.fieldLink "ActorTrees" 141 "ActorTrees$Timers" "size" "I" ∈ xtbl := xmem (List.mem_of_getElem? (i := 38) rfl) rfl
set_option maxRecDepth 100000 in
theorem xw_359 : Cond.fieldLink "ActorTrees" 180 "ActorTrees$World" "deadLetters" "I" ∈ xtbl := xmem (List.mem_of_getElem? (i := 168) rfl) rfl
set_option maxRecDepth 100000 in
theorem xw_360 : Cond.fieldLink "ActorTrees" 183 "ActorTrees$World" "clock" "I" ∈ xtbl := xmem (List.mem_of_getElem? (i := 166) rfl) rfl
set_option maxRecDepth 100000 in
theorem xw_361 : Cond.fieldLink "ActorTrees" 118 "ActorTrees$World" "time" "I" ∈ xtbl := xmem (List.mem_of_getElem? (i := 164) rfl) rfl
set_option maxRecDepth 100000 in
theorem xw_362 : Cond.fieldLink "ActorTrees" 166 "ActorTrees$World" "dealt" "LActorTrees$Pairs;" ∈ xtbl := xmem (List.mem_of_getElem? (i := 157) rfl) rfl
set_option maxRecDepth 100000 in
theorem xw_363 : Cond.fieldLink "ActorTrees" 28 "ActorTrees" "tape" "LActorTrees$Tape;" ∈ xtbl := xmem (List.mem_of_getElem? (i := 245) rfl) rfl
set_option maxRecDepth 100000 in
theorem xw_364 : Cond.fieldLink "ActorTrees" 207 "ActorTrees$Tape" "bytes" "LActorTrees$Numbers;" ∈ xtbl := xmem (List.mem_of_getElem? (i := 211) rfl) rfl
set_option maxRecDepth 100000 in
theorem xw_365 : Cond.fieldLink "ActorTrees" 93 "ActorTrees$Numbers" "size" "I" ∈ xtbl := xmem (List.mem_of_getElem? (i := 83) rfl) rfl
set_option maxRecDepth 100000 in
theorem xw_366 : Cond.fieldLink "ActorTrees" 54 "ActorTrees$World" "actors" "[LActorTrees$Actor;" ∈ xtbl := xmem (List.mem_of_getElem? (i := 153) rfl) rfl
set_option maxRecDepth 100000 in
theorem xw_367 : Cond.fieldLink "ActorTrees" 127 "ActorTrees$Actor" "count" "I" ∈ xtbl := xmem (List.mem_of_getElem? (i := 107) rfl) rfl
set_option maxRecDepth 100000 in
theorem xw_371 : Cond.methodLink "ActorTrees" 96 yX2_at ∈ xtbl := xmem (List.mem_of_getElem? (i := 271) rfl) rfl
set_option maxRecDepth 100000 in
theorem xw_373 : Cond.methodLink "ActorTrees" 50 yX6_send ∈ xtbl := xmem (List.mem_of_getElem? (i := 563) rfl) rfl
set_option maxRecDepth 100000 in
theorem xw_374 : Cond.fieldLink "ActorTrees" 228 "ActorTrees$World" "seed" "I" ∈ xtbl := xmem (List.mem_of_getElem? (i := 170) rfl) rfl
set_option maxRecDepth 100000 in
theorem xw_375 : Cond.constant "ActorTrees" 231 (1103515245) ∈ xtbl := xmem (List.mem_of_getElem? (i := 568) rfl) rfl
set_option maxRecDepth 100000 in
theorem xw_376 : Cond.code yX7_isSteps prog_1_method_35_code 1 (Option.some FieldType.boolean) ∈ xtbl := xmem (List.mem_of_getElem? (i := 298) rfl) rfl
set_option maxRecDepth 100000 in
theorem xw_377 : Cond.initialized "ActorTrees" ∈ xtbl := xmem (List.mem_of_getElem? (i := 1) rfl) rfl
set_option maxRecDepth 100000 in
theorem xw_378 : Cond.methodLink "ActorTrees" 157 yX7_isSteps ∈ xtbl := xmem (List.mem_of_getElem? (i := 296) rfl) rfl
set_option maxRecDepth 100000 in
theorem xw_379 : Cond.static yX7_isSteps ∈ xtbl := xmem (List.mem_of_getElem? (i := 297) rfl) rfl
set_option maxRecDepth 100000 in
theorem xw_380 : Cond.code yX6_makeSteps prog_8_method_11_code 3 (Option.some FieldType.int) ∈ xtbl := xmem (List.mem_of_getElem? (i := 302) rfl) rfl
set_option maxRecDepth 100000 in
theorem xw_381 : Cond.methodLink "ActorTrees" 160 yX6_makeSteps ∈ xtbl := xmem (List.mem_of_getElem? (i := 299) rfl) rfl
set_option maxRecDepth 100000 in
theorem xw_382 : Cond.instanceMethod yX6_makeSteps ∈ xtbl := xmem (List.mem_of_getElem? (i := 300) rfl) rfl
set_option maxRecDepth 100000 in
theorem xw_383 : Cond.selects "ActorTrees$World" yX6_makeSteps yX6_makeSteps ∈ xtbl := xmem (List.mem_of_getElem? (i := 301) rfl) rfl
set_option maxRecDepth 100000 in
theorem xw_384 : Cond.fieldLink "ActorTrees" 163 "ActorTrees$World" "ended" "I" ∈ xtbl := xmem (List.mem_of_getElem? (i := 172) rfl) rfl
set_option maxRecDepth 100000 in
theorem xw_387 : Cond.methodLink "ActorTrees" 189 yX6_step ∈ xtbl := xmem (List.mem_of_getElem? (i := 512) rfl) rfl
set_option maxRecDepth 100000 in
theorem xw_391 : Cond.methodLink "ActorTrees" 1 objectInit ∈ xtbl := xmem (List.mem_of_getElem? (i := 17) rfl) rfl
set_option maxRecDepth 100000 in
theorem xw_392 : Cond.classLink "ActorTrees" 7 "ActorTrees$World" ∈ xtbl := xmem (List.mem_of_getElem? (i := 20) rfl) rfl
set_option maxRecDepth 100000 in
theorem xw_393 : Cond.instantiable "ActorTrees$World" 13 ∈ xtbl := xmem (List.mem_of_getElem? (i := 21) rfl) rfl
set_option maxRecDepth 100000 in
theorem xw_394 : Cond.code yX6_init prog_8_method_1_code 2 (Option.none) ∈ xtbl := xmem (List.mem_of_getElem? (i := 24) rfl) rfl
set_option maxRecDepth 100000 in
theorem xw_395 : Cond.methodLink "ActorTrees" 9 yX6_init ∈ xtbl := xmem (List.mem_of_getElem? (i := 22) rfl) rfl
set_option maxRecDepth 100000 in
theorem xw_396 : Cond.instanceMethod yX6_init ∈ xtbl := xmem (List.mem_of_getElem? (i := 23) rfl) rfl
set_option maxRecDepth 100000 in
theorem xw_397 : Cond.fieldLink "ActorTrees" 22 "ActorTrees" "ahead" "LActorTrees$World;" ∈ xtbl := xmem (List.mem_of_getElem? (i := 244) rfl) rfl
set_option maxRecDepth 100000 in
theorem xw_398 : Cond.classLink "ActorTrees" 25 "ActorTrees$Tape" ∈ xtbl := xmem (List.mem_of_getElem? (i := 202) rfl) rfl
set_option maxRecDepth 100000 in
theorem xw_399 : Cond.instantiable "ActorTrees$Tape" 4 ∈ xtbl := xmem (List.mem_of_getElem? (i := 203) rfl) rfl
set_option maxRecDepth 100000 in
theorem xw_400 : Cond.code yX4_init prog_6_method_1_code 1 (Option.none) ∈ xtbl := xmem (List.mem_of_getElem? (i := 206) rfl) rfl
set_option maxRecDepth 100000 in
theorem xw_401 : Cond.instanceMethod yX4_init ∈ xtbl := xmem (List.mem_of_getElem? (i := 205) rfl) rfl
set_option maxRecDepth 100000 in
theorem xw_402 : Cond.classLink "ActorTrees" 32 "ActorTrees$Handle" ∈ xtbl := xmem (List.mem_of_getElem? (i := 222) rfl) rfl
set_option maxRecDepth 100000 in
theorem xw_403 : Cond.instantiable "ActorTrees$Handle" 3 ∈ xtbl := xmem (List.mem_of_getElem? (i := 224) rfl) rfl
set_option maxRecDepth 100000 in
theorem xw_404 : Cond.initialized "ActorTrees$Handle" ∈ xtbl := xmem (List.mem_of_getElem? (i := 8) rfl) rfl
set_option maxRecDepth 100000 in
theorem xw_405 : Cond.code yX1_init prog_3_method_1_code 1 (Option.none) ∈ xtbl := xmem (List.mem_of_getElem? (i := 227) rfl) rfl
set_option maxRecDepth 100000 in
theorem xw_406 : Cond.instanceMethod yX1_init ∈ xtbl := xmem (List.mem_of_getElem? (i := 226) rfl) rfl
set_option maxRecDepth 100000 in
theorem xw_407 : Cond.fieldLink "ActorTrees" 100 "ActorTrees$Actor" "stash" "LActorTrees$Pairs;" ∈ xtbl := xmem (List.mem_of_getElem? (i := 119) rfl) rfl
set_option maxRecDepth 100000 in
theorem xw_408 : Cond.fieldLink "ActorTrees" 58 "ActorTrees$Actor" "mailbox" "LActorTrees$Pairs;" ∈ xtbl := xmem (List.mem_of_getElem? (i := 116) rfl) rfl
set_option maxRecDepth 100000 in
theorem xw_409 : Cond.fieldLink "ActorTrees" 70 "ActorTrees$Actor" "parent" "I" ∈ xtbl := xmem (List.mem_of_getElem? (i := 93) rfl) rfl
set_option maxRecDepth 100000 in
theorem xw_410 : Cond.fieldLink "ActorTrees" 73 "ActorTrees$Actor" "own" "I" ∈ xtbl := xmem (List.mem_of_getElem? (i := 96) rfl) rfl
set_option maxRecDepth 100000 in
theorem xw_411 : Cond.fieldLink "ActorTrees" 76 "ActorTrees$Actor" "strategy" "I" ∈ xtbl := xmem (List.mem_of_getElem? (i := 98) rfl) rfl
set_option maxRecDepth 100000 in
theorem xw_412 : Cond.fieldLink "ActorTrees" 79 "ActorTrees$Actor" "budget" "I" ∈ xtbl := xmem (List.mem_of_getElem? (i := 101) rfl) rfl
set_option maxRecDepth 100000 in
theorem xw_413 : Cond.fieldLink "ActorTrees" 82 "ActorTrees$Actor" "window" "I" ∈ xtbl := xmem (List.mem_of_getElem? (i := 104) rfl) rfl
set_option maxRecDepth 100000 in
theorem xw_414 : Cond.fieldLink "ActorTrees" 85 "ActorTrees$Actor" "live" "Z" ∈ xtbl := xmem (List.mem_of_getElem? (i := 111) rfl) rfl
set_option maxRecDepth 100000 in
theorem xw_415 : Cond.fieldLink "ActorTrees" 89 "ActorTrees$Actor" "stack" "LActorTrees$Numbers;" ∈ xtbl := xmem (List.mem_of_getElem? (i := 113) rfl) rfl
set_option maxRecDepth 100000 in
theorem xw_416 : Cond.fieldLink "ActorTrees" 103 "ActorTrees$Actor" "watchers" "LActorTrees$Numbers;" ∈ xtbl := xmem (List.mem_of_getElem? (i := 122) rfl) rfl
set_option maxRecDepth 100000 in
theorem xw_417 : Cond.code yX5_countOf prog_7_method_5_code 4 (Option.some FieldType.int) ∈ xtbl := xmem (List.mem_of_getElem? (i := 278) rfl) rfl
set_option maxRecDepth 100000 in
theorem xw_418 : Cond.methodLink "ActorTrees" 110 yX5_countOf ∈ xtbl := xmem (List.mem_of_getElem? (i := 275) rfl) rfl
set_option maxRecDepth 100000 in
theorem xw_419 : Cond.instanceMethod yX5_countOf ∈ xtbl := xmem (List.mem_of_getElem? (i := 276) rfl) rfl
set_option maxRecDepth 100000 in
theorem xw_420 : Cond.selects "ActorTrees$Timers" yX5_countOf yX5_countOf ∈ xtbl := xmem (List.mem_of_getElem? (i := 277) rfl) rfl
set_option maxRecDepth 100000 in
theorem xw_421 : Cond.fieldLink "ActorTrees" 115 "ActorTrees$Actor" "notes" "LActorTrees$Numbers;" ∈ xtbl := xmem (List.mem_of_getElem? (i := 125) rfl) rfl
set_option maxRecDepth 100000 in
theorem xw_422 : Cond.code yX2_countFrom prog_4_method_8_code 4 (Option.some FieldType.int) ∈ xtbl := xmem (List.mem_of_getElem? (i := 282) rfl) rfl
set_option maxRecDepth 100000 in
theorem xw_423 : Cond.methodLink "ActorTrees" 121 yX2_countFrom ∈ xtbl := xmem (List.mem_of_getElem? (i := 279) rfl) rfl
set_option maxRecDepth 100000 in
theorem xw_424 : Cond.instanceMethod yX2_countFrom ∈ xtbl := xmem (List.mem_of_getElem? (i := 280) rfl) rfl
set_option maxRecDepth 100000 in
theorem xw_425 : Cond.selects "ActorTrees$Numbers" yX2_countFrom yX2_countFrom ∈ xtbl := xmem (List.mem_of_getElem? (i := 281) rfl) rfl
set_option maxRecDepth 100000 in
theorem xw_426 : Cond.code yX6_childBits prog_8_method_6_code 4 (Option.some FieldType.int) ∈ xtbl := xmem (List.mem_of_getElem? (i := 286) rfl) rfl
set_option maxRecDepth 100000 in
theorem xw_427 : Cond.methodLink "ActorTrees" 124 yX6_childBits ∈ xtbl := xmem (List.mem_of_getElem? (i := 283) rfl) rfl
set_option maxRecDepth 100000 in
theorem xw_428 : Cond.instanceMethod yX6_childBits ∈ xtbl := xmem (List.mem_of_getElem? (i := 284) rfl) rfl
set_option maxRecDepth 100000 in
theorem xw_429 : Cond.selects "ActorTrees$World" yX6_childBits yX6_childBits ∈ xtbl := xmem (List.mem_of_getElem? (i := 285) rfl) rfl
set_option maxRecDepth 100000 in
theorem xw_439 : Cond.methodLink "ActorTrees" 193 yX6_hasStep ∈ xtbl := xmem (List.mem_of_getElem? (i := 513) rfl) rfl
set_option maxRecDepth 100000 in
theorem xw_453 : Cond.code yX7_itemOf prog_1_method_37_code 2 (Option.some FieldType.int) ∈ xtbl := xmem (List.mem_of_getElem? (i := 588) rfl) rfl
set_option maxRecDepth 100000 in
theorem xw_454 : Cond.methodLink "ActorTrees" 137 yX7_itemOf ∈ xtbl := xmem (List.mem_of_getElem? (i := 586) rfl) rfl
set_option maxRecDepth 100000 in
theorem xw_455 : Cond.static yX7_itemOf ∈ xtbl := xmem (List.mem_of_getElem? (i := 587) rfl) rfl
set_option maxRecDepth 100000 in
theorem xw_456 : Cond.methodLink "ActorTrees" 154 yX6_halt ∈ xtbl := xmem (List.mem_of_getElem? (i := 574) rfl) rfl
set_option maxRecDepth 100000 in
theorem xw_457 : Cond.code yX7_isNumber prog_1_method_34_code 1 (Option.some FieldType.boolean) ∈ xtbl := xmem (List.mem_of_getElem? (i := 562) rfl) rfl
set_option maxRecDepth 100000 in
theorem xw_458 : Cond.methodLink "ActorTrees" 47 yX7_isNumber ∈ xtbl := xmem (List.mem_of_getElem? (i := 560) rfl) rfl
set_option maxRecDepth 100000 in
theorem xw_459 : Cond.static yX7_isNumber ∈ xtbl := xmem (List.mem_of_getElem? (i := 561) rfl) rfl
set_option maxRecDepth 100000 in
theorem xw_461 : Cond.methodLink "ActorTrees" 142 yX5_ownerAt ∈ xtbl := xmem (List.mem_of_getElem? (i := 593) rfl) rfl
set_option maxRecDepth 100000 in
theorem xw_462 : Cond.methodLink "ActorTrees" 145 yX5_dueAt ∈ xtbl := xmem (List.mem_of_getElem? (i := 594) rfl) rfl
set_option maxRecDepth 100000 in
theorem xw_463 : Cond.methodLink "ActorTrees" 148 yX5_numberAt ∈ xtbl := xmem (List.mem_of_getElem? (i := 595) rfl) rfl
set_option maxRecDepth 100000 in
theorem xw_691 : Cond.constant "java/lang/Integer" 265 (1431655765) ∈ xtbl := xmem (List.mem_of_getElem? (i := 529) rfl) rfl
set_option maxRecDepth 100000 in
theorem xw_692 : Cond.constant "java/lang/Integer" 266 (858993459) ∈ xtbl := xmem (List.mem_of_getElem? (i := 530) rfl) rfl
set_option maxRecDepth 100000 in
theorem xw_693 : Cond.constant "java/lang/Integer" 267 (252645135) ∈ xtbl := xmem (List.mem_of_getElem? (i := 531) rfl) rfl
set_option maxRecDepth 100000 in
theorem xw_695 : Cond.instantiable "ActorTrees" 7 ∈ xtbl := xmem (List.mem_of_getElem? (i := 13) rfl) rfl
set_option maxRecDepth 100000 in
theorem xw_696 : Cond.code yX7_init prog_1_method_1_code 2 (Option.none) ∈ xtbl := xmem (List.mem_of_getElem? (i := 16) rfl) rfl
set_option maxRecDepth 100000 in
theorem xw_698 : Cond.instanceMethod yX7_init ∈ xtbl := xmem (List.mem_of_getElem? (i := 15) rfl) rfl
set_option maxRecDepth 100000 in
theorem xw_704 : Cond.code yX7_actor prog_1_method_2_code 4 (Option.some FieldType.int) ∈ xtbl := xmem (List.mem_of_getElem? (i := 546) rfl) rfl
set_option maxRecDepth 100000 in
theorem xw_706 : Cond.instanceMethod yX7_actor ∈ xtbl := xmem (List.mem_of_getElem? (i := 544) rfl) rfl
set_option maxRecDepth 100000 in
theorem xw_707 : Cond.selects "ActorTrees" yX7_actor yX7_actor ∈ xtbl := xmem (List.mem_of_getElem? (i := 545) rfl) rfl
set_option maxRecDepth 100000 in
theorem xw_709 : Cond.code yX7_tell prog_1_method_3_code 4 (Option.some FieldType.int) ∈ xtbl := xmem (List.mem_of_getElem? (i := 559) rfl) rfl
set_option maxRecDepth 100000 in
theorem xw_711 : Cond.instanceMethod yX7_tell ∈ xtbl := xmem (List.mem_of_getElem? (i := 557) rfl) rfl
set_option maxRecDepth 100000 in
theorem xw_712 : Cond.selects "ActorTrees" yX7_tell yX7_tell ∈ xtbl := xmem (List.mem_of_getElem? (i := 558) rfl) rfl
set_option maxRecDepth 100000 in
theorem xw_717 : Cond.code yX7_of prog_1_method_4_code 4 (Option.some FieldType.int) ∈ xtbl := xmem (List.mem_of_getElem? (i := 266) rfl) rfl
set_option maxRecDepth 100000 in
theorem xw_719 : Cond.instanceMethod yX7_of ∈ xtbl := xmem (List.mem_of_getElem? (i := 264) rfl) rfl
set_option maxRecDepth 100000 in
theorem xw_720 : Cond.selects "ActorTrees" yX7_of yX7_of ∈ xtbl := xmem (List.mem_of_getElem? (i := 265) rfl) rfl
set_option maxRecDepth 100000 in
theorem xw_725 : Cond.code yX7_counted prog_1_method_5_code 2 (Option.some FieldType.int) ∈ xtbl := xmem (List.mem_of_getElem? (i := 290) rfl) rfl
set_option maxRecDepth 100000 in
theorem xw_727 : Cond.instanceMethod yX7_counted ∈ xtbl := xmem (List.mem_of_getElem? (i := 288) rfl) rfl
set_option maxRecDepth 100000 in
theorem xw_728 : Cond.selects "ActorTrees" yX7_counted yX7_counted ∈ xtbl := xmem (List.mem_of_getElem? (i := 289) rfl) rfl
set_option maxRecDepth 100000 in
theorem xw_757 : Cond.code yX7_watcher prog_1_method_9_code 3 (Option.some FieldType.int) ∈ xtbl := xmem (List.mem_of_getElem? (i := 585) rfl) rfl
set_option maxRecDepth 100000 in
theorem xw_759 : Cond.instanceMethod yX7_watcher ∈ xtbl := xmem (List.mem_of_getElem? (i := 583) rfl) rfl
set_option maxRecDepth 100000 in
theorem xw_760 : Cond.selects "ActorTrees" yX7_watcher yX7_watcher ∈ xtbl := xmem (List.mem_of_getElem? (i := 584) rfl) rfl
set_option maxRecDepth 100000 in
theorem xw_765 : Cond.code yX7_timer prog_1_method_10_code 4 (Option.some FieldType.int) ∈ xtbl := xmem (List.mem_of_getElem? (i := 592) rfl) rfl
set_option maxRecDepth 100000 in
theorem xw_767 : Cond.instanceMethod yX7_timer ∈ xtbl := xmem (List.mem_of_getElem? (i := 590) rfl) rfl
set_option maxRecDepth 100000 in
theorem xw_768 : Cond.selects "ActorTrees" yX7_timer yX7_timer ∈ xtbl := xmem (List.mem_of_getElem? (i := 591) rfl) rfl
set_option maxRecDepth 100000 in
theorem xw_773 : Cond.code yX7_stop prog_1_method_11_code 2 (Option.some FieldType.int) ∈ xtbl := xmem (List.mem_of_getElem? (i := 572) rfl) rfl
set_option maxRecDepth 100000 in
theorem xw_775 : Cond.instanceMethod yX7_stop ∈ xtbl := xmem (List.mem_of_getElem? (i := 570) rfl) rfl
set_option maxRecDepth 100000 in
theorem xw_776 : Cond.selects "ActorTrees" yX7_stop yX7_stop ∈ xtbl := xmem (List.mem_of_getElem? (i := 571) rfl) rfl
set_option maxRecDepth 100000 in
theorem xw_781 : Cond.code yX7_run prog_1_method_12_code 2 (Option.some FieldType.int) ∈ xtbl := xmem (List.mem_of_getElem? (i := 295) rfl) rfl
set_option maxRecDepth 100000 in
theorem xw_783 : Cond.instanceMethod yX7_run ∈ xtbl := xmem (List.mem_of_getElem? (i := 293) rfl) rfl
set_option maxRecDepth 100000 in
theorem xw_784 : Cond.selects "ActorTrees" yX7_run yX7_run ∈ xtbl := xmem (List.mem_of_getElem? (i := 294) rfl) rfl
set_option maxRecDepth 100000 in
theorem xw_786 : Cond.code yX7_ended prog_1_method_13_code 1 (Option.some FieldType.int) ∈ xtbl := xmem (List.mem_of_getElem? (i := 469) rfl) rfl
set_option maxRecDepth 100000 in
theorem xw_788 : Cond.instanceMethod yX7_ended ∈ xtbl := xmem (List.mem_of_getElem? (i := 467) rfl) rfl
set_option maxRecDepth 100000 in
theorem xw_789 : Cond.selects "ActorTrees" yX7_ended yX7_ended ∈ xtbl := xmem (List.mem_of_getElem? (i := 468) rfl) rfl
set_option maxRecDepth 100000 in
theorem xw_810 : Cond.code yX7_dry prog_1_method_16_code 5 (Option.some FieldType.int) ∈ xtbl := xmem (List.mem_of_getElem? (i := 473) rfl) rfl
set_option maxRecDepth 100000 in
theorem xw_812 : Cond.instanceMethod yX7_dry ∈ xtbl := xmem (List.mem_of_getElem? (i := 471) rfl) rfl
set_option maxRecDepth 100000 in
theorem xw_813 : Cond.selects "ActorTrees" yX7_dry yX7_dry ∈ xtbl := xmem (List.mem_of_getElem? (i := 472) rfl) rfl
set_option maxRecDepth 100000 in
theorem xw_826 : Cond.code yX7_quiet prog_1_method_18_code 2 (Option.some FieldType.int) ∈ xtbl := xmem (List.mem_of_getElem? (i := 511) rfl) rfl
set_option maxRecDepth 100000 in
theorem xw_828 : Cond.instanceMethod yX7_quiet ∈ xtbl := xmem (List.mem_of_getElem? (i := 509) rfl) rfl
set_option maxRecDepth 100000 in
theorem xw_829 : Cond.selects "ActorTrees" yX7_quiet yX7_quiet ∈ xtbl := xmem (List.mem_of_getElem? (i := 510) rfl) rfl
set_option maxRecDepth 100000 in
theorem xw_874 : Cond.code yX7_drawn prog_1_method_24_code 5 (Option.some FieldType.int) ∈ xtbl := xmem (List.mem_of_getElem? (i := 567) rfl) rfl
set_option maxRecDepth 100000 in
theorem xw_876 : Cond.instanceMethod yX7_drawn ∈ xtbl := xmem (List.mem_of_getElem? (i := 565) rfl) rfl
set_option maxRecDepth 100000 in
theorem xw_877 : Cond.selects "ActorTrees" yX7_drawn yX7_drawn ∈ xtbl := xmem (List.mem_of_getElem? (i := 566) rfl) rfl
set_option maxRecDepth 100000 in
theorem xw_882 : Cond.code yX7_seed prog_1_method_25_code 3 (Option.some FieldType.int) ∈ xtbl := xmem (List.mem_of_getElem? (i := 578) rfl) rfl
set_option maxRecDepth 100000 in
theorem xw_884 : Cond.instanceMethod yX7_seed ∈ xtbl := xmem (List.mem_of_getElem? (i := 576) rfl) rfl
set_option maxRecDepth 100000 in
theorem xw_885 : Cond.selects "ActorTrees" yX7_seed yX7_seed ∈ xtbl := xmem (List.mem_of_getElem? (i := 577) rfl) rfl
set_option maxRecDepth 100000 in
theorem xw_898 : Cond.code yX7_image prog_1_method_27_code 1 (Option.some FieldType.int) ∈ xtbl := xmem (List.mem_of_getElem? (i := 517) rfl) rfl
set_option maxRecDepth 100000 in
theorem xw_900 : Cond.instanceMethod yX7_image ∈ xtbl := xmem (List.mem_of_getElem? (i := 515) rfl) rfl
set_option maxRecDepth 100000 in
theorem xw_901 : Cond.selects "ActorTrees" yX7_image yX7_image ∈ xtbl := xmem (List.mem_of_getElem? (i := 516) rfl) rfl
set_option maxRecDepth 100000 in
theorem xw_906 : Cond.code yX7_back prog_1_method_28_code 2 (Option.some FieldType.int) ∈ xtbl := xmem (List.mem_of_getElem? (i := 521) rfl) rfl
set_option maxRecDepth 100000 in
theorem xw_908 : Cond.instanceMethod yX7_back ∈ xtbl := xmem (List.mem_of_getElem? (i := 519) rfl) rfl
set_option maxRecDepth 100000 in
theorem xw_909 : Cond.selects "ActorTrees" yX7_back yX7_back ∈ xtbl := xmem (List.mem_of_getElem? (i := 520) rfl) rfl
set_option maxRecDepth 100000 in
theorem xw_946 : Cond.code yX7_count prog_1_method_33_code 2 (Option.some FieldType.int) ∈ xtbl := xmem (List.mem_of_getElem? (i := 525) rfl) rfl
set_option maxRecDepth 100000 in
theorem xw_948 : Cond.instanceMethod yX7_count ∈ xtbl := xmem (List.mem_of_getElem? (i := 523) rfl) rfl
set_option maxRecDepth 100000 in
theorem xw_949 : Cond.selects "ActorTrees" yX7_count yX7_count ∈ xtbl := xmem (List.mem_of_getElem? (i := 524) rfl) rfl
set_option maxRecDepth 100000 in
theorem xw_2000 : Cond.constant "ActorTreesLaw" 7 (65535) ∈ xtbl := xmem (List.mem_of_getElem? (i := 542) rfl) rfl
set_option maxRecDepth 100000 in
theorem xw_2001 : Cond.methodLink "ActorTreesLaw" 8 yL_cell ∈ xtbl := xmem (List.mem_of_getElem? (i := 539) rfl) rfl
set_option maxRecDepth 100000 in
theorem xw_2002 : Cond.static yL_cell ∈ xtbl := xmem (List.mem_of_getElem? (i := 540) rfl) rfl
set_option maxRecDepth 100000 in
theorem xw_2003 : Cond.methodLink "ActorTreesLaw" 14 yX7_count ∈ xtbl := xmem (List.mem_of_getElem? (i := 522) rfl) rfl
set_option maxRecDepth 100000 in
theorem xw_2004 : Cond.methodLink "ActorTreesLaw" 20 yX7_actor ∈ xtbl := xmem (List.mem_of_getElem? (i := 543) rfl) rfl
set_option maxRecDepth 100000 in
theorem xw_2005 : Cond.methodLink "ActorTreesLaw" 24 yX7_tell ∈ xtbl := xmem (List.mem_of_getElem? (i := 556) rfl) rfl
set_option maxRecDepth 100000 in
theorem xw_2006 : Cond.methodLink "ActorTreesLaw" 27 yX7_drawn ∈ xtbl := xmem (List.mem_of_getElem? (i := 564) rfl) rfl
set_option maxRecDepth 100000 in
theorem xw_2007 : Cond.methodLink "ActorTreesLaw" 30 yX7_stop ∈ xtbl := xmem (List.mem_of_getElem? (i := 569) rfl) rfl
set_option maxRecDepth 100000 in
theorem xw_2008 : Cond.methodLink "ActorTreesLaw" 33 yX7_run ∈ xtbl := xmem (List.mem_of_getElem? (i := 292) rfl) rfl
set_option maxRecDepth 100000 in
theorem xw_2009 : Cond.methodLink "ActorTreesLaw" 36 yX7_image ∈ xtbl := xmem (List.mem_of_getElem? (i := 514) rfl) rfl
set_option maxRecDepth 100000 in
theorem xw_2010 : Cond.methodLink "ActorTreesLaw" 40 yX7_back ∈ xtbl := xmem (List.mem_of_getElem? (i := 518) rfl) rfl
set_option maxRecDepth 100000 in
theorem xw_2011 : Cond.methodLink "ActorTreesLaw" 43 yX7_seed ∈ xtbl := xmem (List.mem_of_getElem? (i := 575) rfl) rfl
set_option maxRecDepth 100000 in
theorem xw_2012 : Cond.methodLink "ActorTreesLaw" 46 yX7_of ∈ xtbl := xmem (List.mem_of_getElem? (i := 263) rfl) rfl
set_option maxRecDepth 100000 in
theorem xw_2013 : Cond.methodLink "ActorTreesLaw" 50 yX7_watcher ∈ xtbl := xmem (List.mem_of_getElem? (i := 582) rfl) rfl
set_option maxRecDepth 100000 in
theorem xw_2014 : Cond.methodLink "ActorTreesLaw" 53 yX7_timer ∈ xtbl := xmem (List.mem_of_getElem? (i := 589) rfl) rfl
set_option maxRecDepth 100000 in
theorem xw_2015 : Cond.classLink "ActorTreesLaw" 15 "ActorTrees" ∈ xtbl := xmem (List.mem_of_getElem? (i := 12) rfl) rfl
set_option maxRecDepth 100000 in
theorem xw_2016 : Cond.methodLink "ActorTreesLaw" 56 yX7_init ∈ xtbl := xmem (List.mem_of_getElem? (i := 14) rfl) rfl
set_option maxRecDepth 100000 in
theorem xw_2017 : Cond.methodLink "ActorTreesLaw" 57 yL_act ∈ xtbl := xmem (List.mem_of_getElem? (i := 536) rfl) rfl
set_option maxRecDepth 100000 in
theorem xw_2018 : Cond.static yL_act ∈ xtbl := xmem (List.mem_of_getElem? (i := 537) rfl) rfl
set_option maxRecDepth 100000 in
theorem xw_2019 : Cond.methodLink "ActorTreesLaw" 61 yL_isFair ∈ xtbl := xmem (List.mem_of_getElem? (i := 579) rfl) rfl
set_option maxRecDepth 100000 in
theorem xw_2020 : Cond.static yL_isFair ∈ xtbl := xmem (List.mem_of_getElem? (i := 580) rfl) rfl
set_option maxRecDepth 100000 in
theorem xw_2021 : Cond.methodLink "ActorTreesLaw" 65 yX7_dry ∈ xtbl := xmem (List.mem_of_getElem? (i := 470) rfl) rfl
set_option maxRecDepth 100000 in
theorem xw_2022 : Cond.methodLink "ActorTreesLaw" 68 yX7_quiet ∈ xtbl := xmem (List.mem_of_getElem? (i := 508) rfl) rfl
set_option maxRecDepth 100000 in
theorem xw_2023 : Cond.methodLink "ActorTreesLaw" 71 yX7_counted ∈ xtbl := xmem (List.mem_of_getElem? (i := 287) rfl) rfl
set_option maxRecDepth 100000 in
theorem xw_2024 : Cond.constant "ActorTreesLaw" 74 (-2000000000) ∈ xtbl := xmem (List.mem_of_getElem? (i := 596) rfl) rfl
set_option maxRecDepth 100000 in
theorem xw_2025 : Cond.methodLink "ActorTreesLaw" 75 yX7_ended ∈ xtbl := xmem (List.mem_of_getElem? (i := 466) rfl) rfl
set_option maxRecDepth 100000 in
theorem xw_2026 : Cond.code yL_cell method_2_code 2 (Option.some FieldType.int) ∈ xtbl := xmem (List.mem_of_getElem? (i := 541) rfl) rfl
set_option maxRecDepth 100000 in
theorem xw_2027 : Cond.initialized "ActorTreesLaw" ∈ xtbl := xmem (List.mem_of_getElem? (i := 0) rfl) rfl
set_option maxRecDepth 100000 in
theorem xw_2028 : Cond.code yL_act method_3_code 5 (Option.none) ∈ xtbl := xmem (List.mem_of_getElem? (i := 538) rfl) rfl
set_option maxRecDepth 100000 in
theorem xw_2029 : Cond.code yL_isFair method_4_code 8 (Option.some FieldType.boolean) ∈ xtbl := xmem (List.mem_of_getElem? (i := 581) rfl) rfl
theorem cal_3 : XCal xm 3 0 1 := ⟨by decide +kernel, by decide +kernel, by decide +kernel, by decide +kernel, xw_9, xw_10, ⟨by decide +kernel, by decide +kernel⟩, by decide +kernel⟩
theorem cal_8 : XCal xm 8 1 2 := ⟨by decide +kernel, by decide +kernel, by decide +kernel, by decide +kernel, xw_18, xw_19, ⟨by decide +kernel, by decide +kernel⟩, by decide +kernel⟩
theorem cal_17 : XCal xm 17 1 2 := ⟨by decide +kernel, by decide +kernel, by decide +kernel, by decide +kernel, xw_23, xw_24, ⟨by decide +kernel, by decide +kernel⟩, by decide +kernel⟩
theorem cal_12 : XCal xm 12 1 2 := ⟨by decide +kernel, by decide +kernel, by decide +kernel, by decide +kernel, xw_34, xw_19, ⟨by decide +kernel, by decide +kernel⟩, by decide +kernel⟩
theorem cal_19 : XCal xm 19 1 2 := ⟨by decide +kernel, by decide +kernel, by decide +kernel, by decide +kernel, xw_39, xw_24, ⟨by decide +kernel, by decide +kernel⟩, by decide +kernel⟩
theorem cal_5 : XCal xm 5 1 2 := ⟨by decide +kernel, by decide +kernel, by decide +kernel, by decide +kernel, xw_42, xw_19, ⟨by decide +kernel, by decide +kernel⟩, by decide +kernel⟩
theorem cal_21 : XCal xm 21 0 1 := ⟨by decide +kernel, by decide +kernel, by decide +kernel, by decide +kernel, xw_68, xw_24, ⟨by decide +kernel, by decide +kernel⟩, by decide +kernel⟩
theorem cal_15 : XCal xm 15 2 3 := ⟨by decide +kernel, by decide +kernel, by decide +kernel, by decide +kernel, xw_72, xw_24, ⟨by decide +kernel, by decide +kernel⟩, by decide +kernel⟩
theorem cal_6 : XCal xm 6 1 2 := ⟨by decide +kernel, by decide +kernel, by decide +kernel, by decide +kernel, xw_91, xw_19, ⟨by decide +kernel, by decide +kernel⟩, by decide +kernel⟩
theorem cal_34 : XCal xm 34 2 3 := ⟨by decide +kernel, by decide +kernel, by decide +kernel, by decide +kernel, xw_122, xw_123, ⟨by decide +kernel, by decide +kernel⟩, by decide +kernel⟩
theorem cal_53 : XCal xm 53 1 2 := ⟨by decide +kernel, by decide +kernel, by decide +kernel, by decide +kernel, xw_128, xw_129, ⟨by decide +kernel, by decide +kernel⟩, by decide +kernel⟩
theorem cal_54 : XCal xm 54 1 2 := ⟨by decide +kernel, by decide +kernel, by decide +kernel, by decide +kernel, xw_133, xw_129, ⟨by decide +kernel, by decide +kernel⟩, by decide +kernel⟩
theorem cal_0 : XCal xm 0 2 3 := ⟨by decide +kernel, by decide +kernel, by decide +kernel, by decide +kernel, xw_138, xw_10, ⟨by decide +kernel, by decide +kernel⟩, by decide +kernel⟩
theorem cal_1 : XCal xm 1 1 2 := ⟨by decide +kernel, by decide +kernel, by decide +kernel, by decide +kernel, xw_146, xw_10, ⟨by decide +kernel, by decide +kernel⟩, by decide +kernel⟩
theorem cal_30 : XCal xm 30 1 2 := ⟨by decide +kernel, by decide +kernel, by decide +kernel, by decide +kernel, xw_151, xw_123, ⟨by decide +kernel, by decide +kernel⟩, by decide +kernel⟩
theorem cal_45 : XCal xm 45 3 4 := ⟨by decide +kernel, by decide +kernel, by decide +kernel, by decide +kernel, xw_167, xw_129, ⟨by decide +kernel, by decide +kernel⟩, by decide +kernel⟩
theorem cal_44 : XCal xm 44 4 5 := ⟨by decide +kernel, by decide +kernel, by decide +kernel, by decide +kernel, xw_171, xw_129, ⟨by decide +kernel, by decide +kernel⟩, by decide +kernel⟩
theorem cal_64 : XCal xm 64 3 4 := ⟨by decide +kernel, by decide +kernel, by decide +kernel, by decide +kernel, xw_176, xw_129, ⟨by decide +kernel, by decide +kernel⟩, by decide +kernel⟩
theorem cal_63 : XCal xm 63 3 4 := ⟨by decide +kernel, by decide +kernel, by decide +kernel, by decide +kernel, xw_180, xw_129, ⟨by decide +kernel, by decide +kernel⟩, by decide +kernel⟩
theorem cal_66 : XCal xm 66 1 2 := ⟨by decide +kernel, by decide +kernel, by decide +kernel, by decide +kernel, xw_186, xw_129, ⟨by decide +kernel, by decide +kernel⟩, by decide +kernel⟩
theorem cal_39 : XCal xm 39 3 4 := ⟨by decide +kernel, by decide +kernel, by decide +kernel, by decide +kernel, xw_191, xw_123, ⟨by decide +kernel, by decide +kernel⟩, by decide +kernel⟩
theorem cal_67 : XCal xm 67 2 3 := ⟨by decide +kernel, by decide +kernel, by decide +kernel, by decide +kernel, xw_195, xw_129, ⟨by decide +kernel, by decide +kernel⟩, by decide +kernel⟩
theorem cal_49 : XCal xm 49 1 2 := ⟨by decide +kernel, by decide +kernel, by decide +kernel, by decide +kernel, xw_199, xw_129, ⟨by decide +kernel, by decide +kernel⟩, by decide +kernel⟩
theorem cal_56 : XCal xm 56 1 2 := ⟨by decide +kernel, by decide +kernel, by decide +kernel, by decide +kernel, xw_205, xw_129, ⟨by decide +kernel, by decide +kernel⟩, by decide +kernel⟩
theorem cal_57 : XCal xm 57 2 3 := ⟨by decide +kernel, by decide +kernel, by decide +kernel, by decide +kernel, xw_209, xw_129, ⟨by decide +kernel, by decide +kernel⟩, by decide +kernel⟩
theorem cal_62 : XCal xm 62 1 2 := ⟨by decide +kernel, by decide +kernel, by decide +kernel, by decide +kernel, xw_213, xw_129, ⟨by decide +kernel, by decide +kernel⟩, by decide +kernel⟩
theorem cal_36 : XCal xm 36 1 2 := ⟨by decide +kernel, by decide +kernel, by decide +kernel, by decide +kernel, xw_218, xw_123, ⟨by decide +kernel, by decide +kernel⟩, by decide +kernel⟩
theorem cal_35 : XCal xm 35 1 2 := ⟨by decide +kernel, by decide +kernel, by decide +kernel, by decide +kernel, xw_222, xw_123, ⟨by decide +kernel, by decide +kernel⟩, by decide +kernel⟩
theorem cal_32 : XCal xm 32 1 2 := ⟨by decide +kernel, by decide +kernel, by decide +kernel, by decide +kernel, xw_226, xw_123, ⟨by decide +kernel, by decide +kernel⟩, by decide +kernel⟩
theorem cal_37 : XCal xm 37 0 1 := ⟨by decide +kernel, by decide +kernel, by decide +kernel, by decide +kernel, xw_230, xw_123, ⟨by decide +kernel, by decide +kernel⟩, by decide +kernel⟩
theorem cal_55 : XCal xm 55 2 3 := ⟨by decide +kernel, by decide +kernel, by decide +kernel, by decide +kernel, xw_234, xw_129, ⟨by decide +kernel, by decide +kernel⟩, by decide +kernel⟩
theorem cal_48 : XCal xm 48 1 2 := ⟨by decide +kernel, by decide +kernel, by decide +kernel, by decide +kernel, xw_238, xw_129, ⟨by decide +kernel, by decide +kernel⟩, by decide +kernel⟩
theorem cal_38 : XCal xm 38 1 2 := ⟨by decide +kernel, by decide +kernel, by decide +kernel, by decide +kernel, xw_245, xw_123, ⟨by decide +kernel, by decide +kernel⟩, by decide +kernel⟩
theorem cal_13 : XCal xm 13 1 2 := ⟨by decide +kernel, by decide +kernel, by decide +kernel, by decide +kernel, xw_250, xw_19, ⟨by decide +kernel, by decide +kernel⟩, by decide +kernel⟩
theorem cal_61 : XCal xm 61 0 1 := ⟨by decide +kernel, by decide +kernel, by decide +kernel, by decide +kernel, xw_254, xw_129, ⟨by decide +kernel, by decide +kernel⟩, by decide +kernel⟩
theorem cal_50 : XCal xm 50 0 1 := ⟨by decide +kernel, by decide +kernel, by decide +kernel, by decide +kernel, xw_258, xw_129, ⟨by decide +kernel, by decide +kernel⟩, by decide +kernel⟩
theorem cal_33 : XCal xm 33 0 1 := ⟨by decide +kernel, by decide +kernel, by decide +kernel, by decide +kernel, xw_266, xw_123, ⟨by decide +kernel, by decide +kernel⟩, by decide +kernel⟩
theorem cal_2 : XCal xm 2 0 1 := ⟨by decide +kernel, by decide +kernel, by decide +kernel, by decide +kernel, xw_271, xw_10, ⟨by decide +kernel, by decide +kernel⟩, by decide +kernel⟩
theorem cal_14 : XCal xm 14 1 2 := ⟨by decide +kernel, by decide +kernel, by decide +kernel, by decide +kernel, xw_274, xw_19, ⟨by decide +kernel, by decide +kernel⟩, by decide +kernel⟩
theorem cal_51 : XCal xm 51 0 1 := ⟨by decide +kernel, by decide +kernel, by decide +kernel, by decide +kernel, xw_278, xw_129, ⟨by decide +kernel, by decide +kernel⟩, by decide +kernel⟩
theorem cal_65 : XCal xm 65 0 1 := ⟨by decide +kernel, by decide +kernel, by decide +kernel, by decide +kernel, xw_282, xw_129, ⟨by decide +kernel, by decide +kernel⟩, by decide +kernel⟩
theorem cal_47 : XCal xm 47 0 1 := ⟨by decide +kernel, by decide +kernel, by decide +kernel, by decide +kernel, xw_287, xw_129, ⟨by decide +kernel, by decide +kernel⟩, by decide +kernel⟩
theorem cal_18 : XCal xm 18 1 2 := ⟨by decide +kernel, by decide +kernel, by decide +kernel, by decide +kernel, xw_291, xw_24, ⟨by decide +kernel, by decide +kernel⟩, by decide +kernel⟩
theorem cal_22 : XCal xm 22 1 2 := ⟨by decide +kernel, by decide +kernel, by decide +kernel, by decide +kernel, xw_295, xw_24, ⟨by decide +kernel, by decide +kernel⟩, by decide +kernel⟩
theorem cal_16 : XCal xm 16 2 3 := ⟨by decide +kernel, by decide +kernel, by decide +kernel, by decide +kernel, xw_300, xw_24, ⟨by decide +kernel, by decide +kernel⟩, by decide +kernel⟩
theorem cal_43 : XCal xm 43 3 4 := ⟨by decide +kernel, by decide +kernel, by decide +kernel, by decide +kernel, xw_304, xw_129, ⟨by decide +kernel, by decide +kernel⟩, by decide +kernel⟩
theorem cal_46 : XCal xm 46 2 3 := ⟨by decide +kernel, by decide +kernel, by decide +kernel, by decide +kernel, xw_308, xw_129, ⟨by decide +kernel, by decide +kernel⟩, by decide +kernel⟩
theorem cal_20 : XCal xm 20 1 2 := ⟨by decide +kernel, by decide +kernel, by decide +kernel, by decide +kernel, xw_312, xw_24, ⟨by decide +kernel, by decide +kernel⟩, by decide +kernel⟩
theorem cal_11 : XCal xm 11 1 2 := ⟨by decide +kernel, by decide +kernel, by decide +kernel, by decide +kernel, xw_316, xw_19, ⟨by decide +kernel, by decide +kernel⟩, by decide +kernel⟩
theorem cal_40 : XCal xm 40 5 6 := ⟨by decide +kernel, by decide +kernel, by decide +kernel, by decide +kernel, xw_321, xw_129, ⟨by decide +kernel, by decide +kernel⟩, by decide +kernel⟩
theorem cal_42 : XCal xm 42 1 2 := ⟨by decide +kernel, by decide +kernel, by decide +kernel, by decide +kernel, xw_327, xw_129, ⟨by decide +kernel, by decide +kernel⟩, by decide +kernel⟩
theorem cal_58 : XCal xm 58 0 1 := ⟨by decide +kernel, by decide +kernel, by decide +kernel, by decide +kernel, xw_341, xw_129, ⟨by decide +kernel, by decide +kernel⟩, by decide +kernel⟩
theorem cal_189 : XCal xm 189 1 1 := ⟨by decide +kernel, by decide +kernel, by decide +kernel, by decide +kernel, xw_349, xw_350, ⟨by decide +kernel, by decide +kernel⟩, by decide +kernel⟩
theorem cal_59 : XCal xm 59 0 1 := ⟨by decide +kernel, by decide +kernel, by decide +kernel, by decide +kernel, xw_353, xw_129, ⟨by decide +kernel, by decide +kernel⟩, by decide +kernel⟩
theorem cal_86 : XCal xm 86 1 1 := ⟨by decide +kernel, by decide +kernel, by decide +kernel, by decide +kernel, xw_376, xw_377, ⟨by decide +kernel, by decide +kernel⟩, by decide +kernel⟩
theorem cal_60 : XCal xm 60 1 2 := ⟨by decide +kernel, by decide +kernel, by decide +kernel, by decide +kernel, xw_380, xw_129, ⟨by decide +kernel, by decide +kernel⟩, by decide +kernel⟩
theorem cal_52 : XCal xm 52 0 1 := ⟨by decide +kernel, by decide +kernel, by decide +kernel, by decide +kernel, xw_394, xw_129, ⟨by decide +kernel, by decide +kernel⟩, by decide +kernel⟩
theorem cal_24 : XCal xm 24 0 1 := ⟨by decide +kernel, by decide +kernel, by decide +kernel, by decide +kernel, xw_400, xw_82, ⟨by decide +kernel, by decide +kernel⟩, by decide +kernel⟩
theorem cal_4 : XCal xm 4 0 1 := ⟨by decide +kernel, by decide +kernel, by decide +kernel, by decide +kernel, xw_405, xw_404, ⟨by decide +kernel, by decide +kernel⟩, by decide +kernel⟩
theorem cal_31 : XCal xm 31 1 2 := ⟨by decide +kernel, by decide +kernel, by decide +kernel, by decide +kernel, xw_417, xw_123, ⟨by decide +kernel, by decide +kernel⟩, by decide +kernel⟩
theorem cal_9 : XCal xm 9 1 2 := ⟨by decide +kernel, by decide +kernel, by decide +kernel, by decide +kernel, xw_422, xw_19, ⟨by decide +kernel, by decide +kernel⟩, by decide +kernel⟩
theorem cal_41 : XCal xm 41 1 2 := ⟨by decide +kernel, by decide +kernel, by decide +kernel, by decide +kernel, xw_426, xw_129, ⟨by decide +kernel, by decide +kernel⟩, by decide +kernel⟩
theorem cal_87 : XCal xm 87 2 2 := ⟨by decide +kernel, by decide +kernel, by decide +kernel, by decide +kernel, xw_453, xw_377, ⟨by decide +kernel, by decide +kernel⟩, by decide +kernel⟩
theorem cal_85 : XCal xm 85 1 1 := ⟨by decide +kernel, by decide +kernel, by decide +kernel, by decide +kernel, xw_457, xw_377, ⟨by decide +kernel, by decide +kernel⟩, by decide +kernel⟩
theorem cal_83 : XCal xm 83 0 1 := ⟨by decide +kernel, by decide +kernel, by decide +kernel, by decide +kernel, xw_696, xw_377, ⟨by decide +kernel, by decide +kernel⟩, by decide +kernel⟩
theorem cal_68 : XCal xm 68 3 4 := ⟨by decide +kernel, by decide +kernel, by decide +kernel, by decide +kernel, xw_704, xw_377, ⟨by decide +kernel, by decide +kernel⟩, by decide +kernel⟩
theorem cal_102 : XCal xm 102 3 4 := ⟨by decide +kernel, by decide +kernel, by decide +kernel, by decide +kernel, xw_709, xw_377, ⟨by decide +kernel, by decide +kernel⟩, by decide +kernel⟩
theorem cal_90 : XCal xm 90 2 3 := ⟨by decide +kernel, by decide +kernel, by decide +kernel, by decide +kernel, xw_717, xw_377, ⟨by decide +kernel, by decide +kernel⟩, by decide +kernel⟩
theorem cal_73 : XCal xm 73 1 2 := ⟨by decide +kernel, by decide +kernel, by decide +kernel, by decide +kernel, xw_725, xw_377, ⟨by decide +kernel, by decide +kernel⟩, by decide +kernel⟩
theorem cal_105 : XCal xm 105 2 3 := ⟨by decide +kernel, by decide +kernel, by decide +kernel, by decide +kernel, xw_757, xw_377, ⟨by decide +kernel, by decide +kernel⟩, by decide +kernel⟩
theorem cal_104 : XCal xm 104 2 3 := ⟨by decide +kernel, by decide +kernel, by decide +kernel, by decide +kernel, xw_765, xw_377, ⟨by decide +kernel, by decide +kernel⟩, by decide +kernel⟩
theorem cal_101 : XCal xm 101 1 2 := ⟨by decide +kernel, by decide +kernel, by decide +kernel, by decide +kernel, xw_773, xw_377, ⟨by decide +kernel, by decide +kernel⟩, by decide +kernel⟩
theorem cal_96 : XCal xm 96 1 2 := ⟨by decide +kernel, by decide +kernel, by decide +kernel, by decide +kernel, xw_781, xw_377, ⟨by decide +kernel, by decide +kernel⟩, by decide +kernel⟩
theorem cal_77 : XCal xm 77 0 1 := ⟨by decide +kernel, by decide +kernel, by decide +kernel, by decide +kernel, xw_786, xw_377, ⟨by decide +kernel, by decide +kernel⟩, by decide +kernel⟩
theorem cal_76 : XCal xm 76 2 3 := ⟨by decide +kernel, by decide +kernel, by decide +kernel, by decide +kernel, xw_810, xw_377, ⟨by decide +kernel, by decide +kernel⟩, by decide +kernel⟩
theorem cal_93 : XCal xm 93 0 1 := ⟨by decide +kernel, by decide +kernel, by decide +kernel, by decide +kernel, xw_826, xw_377, ⟨by decide +kernel, by decide +kernel⟩, by decide +kernel⟩
theorem cal_75 : XCal xm 75 1 2 := ⟨by decide +kernel, by decide +kernel, by decide +kernel, by decide +kernel, xw_874, xw_377, ⟨by decide +kernel, by decide +kernel⟩, by decide +kernel⟩
theorem cal_98 : XCal xm 98 1 2 := ⟨by decide +kernel, by decide +kernel, by decide +kernel, by decide +kernel, xw_882, xw_377, ⟨by decide +kernel, by decide +kernel⟩, by decide +kernel⟩
theorem cal_82 : XCal xm 82 0 1 := ⟨by decide +kernel, by decide +kernel, by decide +kernel, by decide +kernel, xw_898, xw_377, ⟨by decide +kernel, by decide +kernel⟩, by decide +kernel⟩
theorem cal_69 : XCal xm 69 0 1 := ⟨by decide +kernel, by decide +kernel, by decide +kernel, by decide +kernel, xw_906, xw_377, ⟨by decide +kernel, by decide +kernel⟩, by decide +kernel⟩
theorem cal_72 : XCal xm 72 1 2 := ⟨by decide +kernel, by decide +kernel, by decide +kernel, by decide +kernel, xw_946, xw_377, ⟨by decide +kernel, by decide +kernel⟩, by decide +kernel⟩
theorem cal_191 : XCal xm 191 2 2 := ⟨by decide +kernel, by decide +kernel, by decide +kernel, by decide +kernel, xw_2026, xw_2027, ⟨by decide +kernel, by decide +kernel⟩, by decide +kernel⟩
theorem cal_192 : XCal xm 192 3 3 := ⟨by decide +kernel, by decide +kernel, by decide +kernel, by decide +kernel, xw_2028, xw_2027, ⟨by decide +kernel, by decide +kernel⟩, by decide +kernel⟩
theorem cal_193 : XCal xm 193 1 1 := ⟨by decide +kernel, by decide +kernel, by decide +kernel, by decide +kernel, xw_2029, xw_2027, ⟨by decide +kernel, by decide +kernel⟩, by decide +kernel⟩
