/-! 16: the law on at most four ints; the claim -/
theorem k_end (xs : Nat → Int32) (S : Mem) : fl_law_18 (4, xs) 2999 (0 + 4) S = some (1, S) := by
  show fl_law_18b (4, xs) (fl_law_18 (4, xs) 2998) (0 + 4) S = _
  unfold fl_law_18b
  exact if_pos (by decide : (Int32.ofNat 4 - 4 : Int32) < 0 + 4)
theorem s_0 (xs : Nat → Int32) : sld (4, xs) 0 = some (xs 0) := if_neg (by decide : ¬ ((0 : Int32) < 0 ∨ 4 ≤ (0 : Int32).toNatClampNeg))
theorem s_1 (xs : Nat → Int32) : sld (4, xs) (0 + 1) = some (xs 1) := if_neg (by decide : ¬ ((0 + 1 : Int32) < 0 ∨ 4 ≤ (0 + 1 : Int32).toNatClampNeg))
theorem s_2 (xs : Nat → Int32) : sld (4, xs) (0 + 2) = some (xs 2) := if_neg (by decide : ¬ ((0 + 2 : Int32) < 0 ∨ 4 ≤ (0 + 2 : Int32).toNatClampNeg))
theorem s_3 (xs : Nat → Int32) : sld (4, xs) (0 + 3) = some (xs 3) := if_neg (by decide : ¬ ((0 + 3 : Int32) < 0 ∨ 4 ≤ (0 + 3 : Int32).toNatClampNeg))
set_option maxHeartbeats 4000000 in
theorem law_4 (xs : Nat → Int32) : ∃ S1, fl_law_18 (4, xs) LF 0 I0 = some (1, S1) := by
  show ∃ S1, fl_law_18b (4, xs) (fl_law_18 (4, xs) 2999) 0 I0 = some (1, S1)
  unfold fl_law_18b
  rw [if_neg (show ¬ (Int32.ofNat (4, xs).1 - 4 < 0) from (by decide : ¬ ((Int32.ofNat 4 - 4 : Int32) < 0))), s_0, obs, s_1, s_2, s_3]
  simp only [obs]
  by_cases h0 : xs 0 &&& 31 = 0
  · rw [if_pos h0]
    obtain ⟨r, S1, S2, g1, g2⟩ := e_actor (xs 1) (xs 2) (xs 3)
    rw [g1, bd_some, g2, bd_some, if_pos rfl, k_end]
    exact ⟨_, rfl⟩
  rw [if_neg h0]
  by_cases h1 : xs 0 &&& 31 = 1
  · rw [if_pos h1]
    rw [(e_tell (xs 1) (xs 2) (xs 3)).1, bd_some, (e_tell (xs 1) (xs 2) (xs 3)).2, bd_some, if_pos rfl, k_end]
    exact ⟨_, rfl⟩
  rw [if_neg h1]
  by_cases h2 : xs 0 &&& 31 = 2
  · rw [if_pos h2]
    rw [(e_of (xs 1) (xs 2)).1, obs, (e_of (xs 1) (xs 2)).2, bd_some, if_pos rfl, k_end]
    exact ⟨_, rfl⟩
  rw [if_neg h2]
  by_cases h3 : xs 0 &&& 31 = 3
  · rw [if_pos h3]
    rw [(e_counted (xs 1)).1, obs, (e_counted (xs 1)).2, obs, if_pos rfl, k_end]
    exact ⟨_, rfl⟩
  rw [if_neg h3]
  by_cases h4 : xs 0 &&& 31 = 4
  · rw [if_pos h4]
    by_cases z : xs 3 = 0
    · rw [if_pos z, (e_message _ _ 0).1, obs, if_pos z, (e_message _ _ 0).2, obs, if_pos rfl, k_end]
      exact ⟨_, rfl⟩
    · rw [if_neg z, (e_message _ _ 1).1, obs, if_neg z, (e_message _ _ 1).2, obs, if_pos rfl, k_end]
      exact ⟨_, rfl⟩
  rw [if_neg h4]
  by_cases h5 : xs 0 &&& 31 = 5
  · rw [if_pos h5]
    by_cases z : xs 3 = 0
    · rw [if_pos z, (e_sender _ _ 0).1, obs, if_pos z, (e_sender _ _ 0).2, obs, if_pos rfl, k_end]
      exact ⟨_, rfl⟩
    · rw [if_neg z, (e_sender _ _ 1).1, obs, if_neg z, (e_sender _ _ 1).2, obs, if_pos rfl, k_end]
      exact ⟨_, rfl⟩
  rw [if_neg h5]
  by_cases h6 : xs 0 &&& 31 = 6
  · rw [if_pos h6]
    rw [(e_stack (xs 1) (xs 2)).1, obs, (e_stack (xs 1) (xs 2)).2, obs, if_pos rfl, k_end]
    exact ⟨_, rfl⟩
  rw [if_neg h6]
  by_cases h7 : xs 0 &&& 31 = 7
  · rw [if_pos h7]
    rw [(e_watcher (xs 1) (xs 2)).1, obs, (e_watcher (xs 1) (xs 2)).2, obs, if_pos rfl, k_end]
    exact ⟨_, rfl⟩
  rw [if_neg h7]
  by_cases h8 : xs 0 &&& 31 = 8
  · rw [if_pos h8]
    obtain ⟨r, g1, g2⟩ := e_timer (xs 1) (xs 2)
    rw [g1, obs, g2, obs, if_pos rfl, k_end]
    exact ⟨_, rfl⟩
  rw [if_neg h8]
  by_cases h9 : xs 0 &&& 31 = 9
  · rw [if_pos h9]
    rw [(e_stop (xs 1)).1, bd_some, (e_stop (xs 1)).2, bd_some, if_pos rfl, k_end]
    exact ⟨_, rfl⟩
  rw [if_neg h9]
  by_cases h10 : xs 0 &&& 31 = 10
  · rw [if_pos h10]
    obtain ⟨r, S1, S2, g1, g2⟩ := e_run (xs 1)
    rw [g1, bd_some, g2, bd_some, if_pos rfl, k_end]
    exact ⟨_, rfl⟩
  rw [if_neg h10]
  by_cases h11 : xs 0 &&& 31 = 11
  · rw [if_pos h11]
    rw [e_ended.1, obs, e_ended.2, obs, if_pos rfl, k_end]
    exact ⟨_, rfl⟩
  rw [if_neg h11]
  by_cases h12 : xs 0 &&& 31 = 12
  · rw [if_pos h12]
    obtain ⟨r, g1, g2⟩ := e_log (xs 1)
    rw [g1, obs, g2, obs, if_pos rfl, k_end]
    exact ⟨_, rfl⟩
  rw [if_neg h12]
  by_cases h13 : xs 0 &&& 31 = 13
  · rw [if_pos h13]
    obtain ⟨r, g1, g2⟩ := e_cause (xs 1) (xs 2)
    rw [g1, obs, g2, obs, if_pos rfl, k_end]
    exact ⟨_, rfl⟩
  rw [if_neg h13]
  by_cases h14 : xs 0 &&& 31 = 14
  · rw [if_pos h14]
    obtain ⟨r, S1, S2, g1, g2⟩ := e_dry (xs 1) (xs 2)
    rw [g1, bd_some, g2, bd_some, if_pos rfl, k_end]
    exact ⟨_, rfl⟩
  rw [if_neg h14]
  by_cases h15 : xs 0 &&& 31 = 15
  · rw [if_pos h15]
    obtain ⟨r, S1, S2, g1, g2⟩ := e_first 
    rw [g1, bd_some, g2, bd_some, if_pos rfl, k_end]
    exact ⟨_, rfl⟩
  rw [if_neg h15]
  by_cases h16 : xs 0 &&& 31 = 16
  · rw [if_pos h16]
    obtain ⟨r, S1, S2, g1, g2⟩ := e_quiet 
    rw [g1, bd_some, g2, bd_some, if_pos rfl, k_end]
    exact ⟨_, rfl⟩
  rw [if_neg h16]
  by_cases h17 : xs 0 &&& 31 = 17
  · rw [if_pos h17]
    rw [(e_would (xs 1) (xs 2) (xs 3)).1, bd_some, (e_would (xs 1) (xs 2) (xs 3)).2, bd_some, if_pos rfl, k_end]
    exact ⟨_, rfl⟩
  rw [if_neg h17]
  by_cases h18 : xs 0 &&& 31 = 18
  · rw [if_pos h18]
    rw [(e_brings (xs 1) (xs 2)).1, bd_some, (e_brings (xs 1) (xs 2)).2, bd_some, if_pos rfl, k_end]
    exact ⟨_, rfl⟩
  rw [if_neg h18]
  by_cases h19 : xs 0 &&& 31 = 19
  · rw [if_pos h19]
    rw [(e_reach (xs 1) (xs 2)).1, obs, (e_reach (xs 1) (xs 2)).2, bd_some, if_pos rfl, k_end]
    exact ⟨_, rfl⟩
  rw [if_neg h19]
  by_cases h20 : xs 0 &&& 31 = 20
  · rw [if_pos h20]
    obtain ⟨r, S1, S2, g1, g2⟩ := e_feed (xs 1)
    rw [g1, bd_some, g2, bd_some, if_pos rfl, k_end]
    exact ⟨_, rfl⟩
  rw [if_neg h20]
  by_cases h21 : xs 0 &&& 31 = 21
  · rw [if_pos h21]
    obtain ⟨r, S1, S2, g1, g2⟩ := e_script 
    rw [g1, bd_some, g2, bd_some, if_pos rfl, k_end]
    exact ⟨_, rfl⟩
  rw [if_neg h21]
  by_cases h22 : xs 0 &&& 31 = 22
  · rw [if_pos h22]
    obtain ⟨r, S1, S2, g1, g2⟩ := e_drawn (xs 1)
    rw [g1, bd_some, g2, bd_some, if_pos rfl, k_end]
    exact ⟨_, rfl⟩
  rw [if_neg h22]
  by_cases h23 : xs 0 &&& 31 = 23
  · rw [if_pos h23]
    obtain ⟨r, S1, S2, g1, g2⟩ := e_seed (xs 1)
    rw [g1, bd_some, g2, bd_some, if_pos rfl, k_end]
    exact ⟨_, rfl⟩
  rw [if_neg h23]
  by_cases h24 : xs 0 &&& 31 = 24
  · rw [if_pos h24]
    obtain ⟨r, S1, S2, g1, g2⟩ := e_order (xs 1) (xs 2)
    rw [g1, bd_some, g2, bd_some, if_pos rfl, k_end]
    exact ⟨_, rfl⟩
  rw [if_neg h24]
  by_cases h25 : xs 0 &&& 31 = 25
  · rw [if_pos h25]
    obtain ⟨r, S1, S2, g1, g2⟩ := e_image 
    rw [g1, bd_some, g2, bd_some, if_pos rfl, k_end]
    exact ⟨_, rfl⟩
  rw [if_neg h25]
  by_cases h26 : xs 0 &&& 31 = 26
  · rw [if_pos h26]
    obtain ⟨r, S1, S2, g1, g2⟩ := e_back 
    rw [g1, bd_some, g2, bd_some, if_pos rfl, k_end]
    exact ⟨_, rfl⟩
  rw [if_neg h26]
  by_cases h27 : xs 0 &&& 31 = 27
  · rw [if_pos h27]
    obtain ⟨r, S1, S2, g1, g2⟩ := e_hold (xs 1) (xs 2)
    rw [g1, bd_some, g2, bd_some, if_pos rfl, k_end]
    exact ⟨_, rfl⟩
  rw [if_neg h27]
  by_cases h28 : xs 0 &&& 31 = 28
  · rw [if_pos h28]
    obtain ⟨r, S1, S2, g1, g2⟩ := e_row (xs 1) (xs 2)
    rw [g1, bd_some, g2, bd_some, if_pos rfl, k_end]
    exact ⟨_, rfl⟩
  rw [if_neg h28]
  by_cases h29 : xs 0 &&& 31 = 29
  · rw [if_pos h29]
    obtain ⟨r, S1, S2, g1, g2⟩ := e_put (xs 1) (xs 2) (xs 3)
    rw [g1, bd_some, g2, bd_some, if_pos rfl, k_end]
    exact ⟨_, rfl⟩
  rw [if_neg h29]
  by_cases h30 : xs 0 &&& 31 = 30
  · rw [if_pos h30]
    obtain ⟨r, g1, g2⟩ := e_tells (xs 1) (xs 2)
    rw [g1, obs, g2, obs, if_pos rfl, k_end]
    exact ⟨_, rfl⟩
  rw [if_neg h30]
  by_cases h31 : xs 0 &&& 31 = 31
  · rw [if_pos h31]
    obtain ⟨r, g1, g2⟩ := e_count (xs 1)
    rw [g1, obs, g2, obs, if_pos rfl, k_end]
    exact ⟨_, rfl⟩
  rw [if_neg h31]
  exact ⟨_, k_end xs I0⟩
theorem law_fresh {L : Nat} (xs : Nat → Int32) (hL : L ≤ 4) : ∃ S1, fl_law_18 (L, xs) LF 0 I0 = some (1, S1) := by
  have : L = 0 ∨ L = 1 ∨ L = 2 ∨ L = 3 ∨ L = 4 := by omega
  rcases this with rfl | rfl | rfl | rfl | rfl
  · refine ⟨I0, ?_⟩
    show fl_law_18b (0, xs) (fl_law_18 (0, xs) 2999) 0 I0 = _
    unfold fl_law_18b
    exact if_pos (by decide : (Int32.ofNat 0 - 4 : Int32) < 0)
  · refine ⟨I0, ?_⟩
    show fl_law_18b (1, xs) (fl_law_18 (1, xs) 2999) 0 I0 = _
    unfold fl_law_18b
    exact if_pos (by decide : (Int32.ofNat 1 - 4 : Int32) < 0)
  · refine ⟨I0, ?_⟩
    show fl_law_18b (2, xs) (fl_law_18 (2, xs) 2999) 0 I0 = _
    unfold fl_law_18b
    exact if_pos (by decide : (Int32.ofNat 2 - 4 : Int32) < 0)
  · refine ⟨I0, ?_⟩
    show fl_law_18b (3, xs) (fl_law_18 (3, xs) 2999) 0 I0 = _
    unfold fl_law_18b
    exact if_pos (by decide : (Int32.ofNat 3 - 4 : Int32) < 0)
  · exact law_4 xs
theorem whole_start {p : Program} {e : Env} {s : State} {m : MethodId} {below : List Frame} {meth : Method} {c : Code} (l : Launch) (hflags : l.flags = flags0) {b L : Nat} {xs : Nat → Int32} (hL : L ≤ 4) (C0 : lw_At p s m meth c b L xs) : W p l e room_1 s m #[Value.ref b] below meth c s.heap [] 0 0 (lw_Z below #[Value.ref b] s) (entryFrame m ([Value.ref b] : List Value).toArray 4) := by
  obtain ⟨S1, h⟩ := law_fresh xs hL
  exact law_of l C0 h
set_option maxHeartbeats 4000000 in
theorem lw_walk (l : Launch) (hflags : l.flags = flags0) (b : Addr) (xs : List Int32) : MetFree l x (headSpec (Jvm.Cond.code x code maxLocals ret :: tables_1) room_1) (lw_P b xs) (fun _ _ _ _ _ => True) lw_Q := by
  refine MetFree.of_bodyS (code := code) (maxLocals := maxLocals) (ret := ret) (by decide) ?_ ?_
  · intro args s m h hn
    obtain ⟨meth, c, h1, h2, h3, h4, h5, h6, -, -⟩ := Cond.code_spec hn (atoms_spec (ws := Jvm.Cond.code x code maxLocals ret :: tables_1) h _ List.mem_cons_self)
    exact ⟨meth, c, h1, h2, h3, h4, h5, h6⟩
  · intro p e s m args below meth c s₁ B hml0 hP _
    obtain ⟨rfl, hx, hbd, hgv⟩ := hP
    obtain ⟨scr, harrAt, hlist, hof, hsmall⟩ := hx
    obtain ⟨hcb, hkn, -, -⟩ := State.arrayAt?_spec harrAt
    have hown : s.vm.findClass R_law = some m.cls := findClass_of_methodNamed B.named
    have hts0 : ∀ c ∈ (Jvm.Cond.code x code maxLocals ret :: tables_1), c.before #[Value.ref b] s = true := atoms_spec (ws := Jvm.Cond.code x code maxLocals ret :: tables_1) B.pre
    have hts : ∀ w ∈ lw_tbl, w.before #[Value.ref b] s = true := k2_hts_sels lw_privs (fun w hw => hts0 w (List.mem_cons_of_mem _ hw)) lw_privs_ok
    have hml : c.maxLocals = 4 := B.maxLocals_eq (hts0 _ List.mem_cons_self)
    have X₀ : Stand p l e room_1 s m #[Value.ref b] below meth c s₁ [] 0 0 := Stand.of_body B
    have hh0 : s₁.heap = s.heap := by rw [B.state]; rfl
    have hsz : scr.slots.size = xs.length := by rw [← Array.length_toList, hlist, List.length_map]
    have hval : ∀ j : Nat, j < xs.length → scr.slots[j]? = some (.int (xs.getD j 0)) := fun j hj => by
      rw [← Array.getElem?_toList, hlist]
      simp [hj]
    have hbl : b < s.heap.size := (Array.getElem?_eq_some_iff.mp hcb).1
    have hX : va_X b xs.length (fun j => xs.getD j 0) s s.heap := ⟨scr, hcb, hof, hkn, hsz, hval⟩
    have K : W p l e room_1 s m #[Value.ref b] below meth c s₁.heap [] 0 0 (lw_Z below #[Value.ref b] s) (entryFrame m ([Value.ref b] : List Value).toArray 4) := by
      rw [hh0]
      exact whole_start l hflags hbd ⟨B.exec, B.bytes, B.returns, hml, hown, hts, hX, hbl, B.notSynchronized, hgv⟩
    obtain ⟨t, a1, o, b1, b2, b3⟩ := K s₁ rfl X₀
    exact ⟨t, o, a1, b1, b2, b3⟩
theorem lw_pre_spec {args : Array Value} {s : State} (h : (Jvm.Cond.and given_1 narrow_1).before args s = true) (hr : rest_1_c.before args s = true) : ∃ (b : Addr) (xs : List Int32), lw_P b xs args s := by
  have hs := flat_of_before _ h
  have hq := flat_of_before _ hr
  have hc : (Cond.count 1).before args s = true := hs _ (by decide +kernel)
  have harr : (Cond.arrayOf (.arg 0) .int).before args s = true := hs _ (by decide +kernel)
  have hle : (Cond.le (.length (.arg 0)) (.int 4)).before args s = true := hs _ (by decide +kernel)
  have hlen : (Cond.isInt (.length (.arg 0))).before args s = true := hq _ (by decide +kernel)
  have hall : (Cond.all (.arg 0) (.isInt (.elem (.arg 0) (.index 0)))).before args s = true := hq _ (by decide +kernel)
  obtain ⟨b, xs, hb, hx⟩ := State.ints_of_pre rfl harr hlen hall
  have hsm : xs.length < 2 ^ 31 := hx.choose_spec.2.2.2
  have hev : (Term.length (.arg 0)).eval args s none [] s = some (.int xs.length.toInt32) := hx.length_eval hb
  have hv := Cond.le_ints hev (show (Term.int 4).eval args s none [] s = some (.int 4) from rfl)
  have hd : xs.length.toInt32 ≤ 4 := by
    simpa [Cond.before, Cond.holds, hv] using hle
  have hN : xs.length ≤ 4 := (Int32.ofNat_le_ofNat hsm (by decide)).mp (show Int32.ofNat xs.length ≤ Int32.ofNat 4 from hd)
  exact ⟨b, xs, Cond.one_arg hc (show args[0]? = some (.ref b) from hb), hx, hN, h⟩
theorem lw_comes (l : Launch) (hflags : l.flags = flags0) : Comes l x (Jvm.Cond.code x code maxLocals ret :: tables_1) room_1 (fun tb e args s => Calls_1 tb e args s ∧ rest_1 tb e args s ∧ Pre_1 tb e args s)
    (fun _ _ args s o t => lw_Q args s o t) := by
  intro p e ha hc hk s m args below hf hfit hheap happ hpre
  obtain ⟨b, xs, hP⟩ := lw_pre_spec hpre.2.2 hpre.2.1
  obtain ⟨k, o, h1, h2, h3, hQ⟩ := lw_walk l hflags b xs p e ha hc hk s m args below hf ((Spec.applies_iff_loose hf).mp happ).1 hP trivial
  exact ⟨k, o, h1, h2, h3, hQ⟩
theorem lw_frame {s t : State} {o : Outcome} {args : Array Value} (h : Framed s o t [] 600000 7302250) :
    Framed s o t (fieldLocs frame_1_writes args s ++ arrayLocs frame_1_arrays args s ++ staticLocs frame_1_statics s) 600000 7302250 := h
theorem lw_limb (L : Cond) (hL : ∀ (args : Array Value) (s t : State), L.after args s (.returned (some (.int 1))) t = true) :
    ArmFor flags0 classFile x code maxLocals ret World_1 tables_1 room_1 Calls_1 rest_1 Pre_1
      (fun tb e a s o t => postC L tb e a s o t ∧ Framed s o t (fieldLocs frame_1_writes a s ++ arrayLocs frame_1_arrays a s ++ staticLocs frame_1_statics s) 600000 7302250) := by
  intro l hflags _ _ p e ha hc hk s m args below hf hfit hheap happ hpre
  obtain ⟨k, o, h1, h2, h3, rfl, hF⟩ := lw_comes l hflags p e ha hc hk s m args below hf hfit hheap happ hpre
  exact ⟨k, _, h1, h2, h3, hL args s _, lw_frame hF⟩
theorem i_vc : Claimed_1_1 ∧ Claimed_1_2 := ⟨lw_limb limb_1_1 (fun args s t => by simp [limb_1_1, Cond.after, Cond.holds, Cond.value]), lw_limb limb_1_2 (fun args s t => Cond.after_iff.mpr (by
  first | (rw [show limb_1_2 = Cond.eq .result (.int 1) from rfl, Cond.eq_ints (x := 1) (y := 1) rfl rfl]; simp; done) | (simp [limb_1_2, Cond.value, Term.eval]; done)))⟩
