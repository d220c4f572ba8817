/-! THE CLAIM OUT OF ONE WALK OF THE LAW'S BODY. Your part is whole_start (and what it stands on); all else here is the same for every law, but numbers. -/
def R_law : String := "ActorTreesLaw"
def lw_P (b : Addr) (xs : List Int32) (args : Array Value) (s : State) : Prop := args = #[.ref b] ∧ s.IntsAt b xs ∧ xs.length ≤ 2048 ∧ (Jvm.Cond.and given_1 narrow_1).before args s = true
def lw_Q (_ : Array Value) (s : State) (o : Outcome) (t : State) : Prop := o = .returned (some (.int 1)) ∧ Framed s o t [] 600000 7302249
def lw_Z (below : List Frame) (a : Array Value) (s : State) : State → Prop := fun t => ∃ o, t.status = .running ∧ Ended t below o ∧ lw_Q a s o t
/-- the law's own end, with 1 on the stack, nothing written that was there before, its room as the claim has it -/
theorem lw_ret {p : Program} {l : Launch} {e : Env} {s : State} {m : MethodId} {below : List Frame} {meth : Method} {c : Code} {b : Nat} (hx : p.tables.exec = Jvm.exec) (hb : c.code = code) (hr : meth.sig.returnType = ret) (hlocks : meth.locks = false) {pc : Nat} {H : Heap} {ls : Array Slot} (hdg : decode code pc = .ok (.ireturn, 1)) : W p l e room_1 s m #[Value.ref b] below meth c H [] 600000 7302249 (lw_Z below #[Value.ref b] s) (F0 m pc ls [.int 1]) := by
  intro T hT X
  obtain ⟨fs, hret, hrun, hended, hW, hframe⟩ := X.leave (v := some (.int 1)) (hlocks := hlocks) (fun h => by rw [hr] at h; cases h)
  have hmeth' : T.vm.method? m = some meth := X.method'
  refine ⟨T.setFrames fs, ?_, .returned (some (.int 1)), hrun, hended, rfl, ⟨_, rfl⟩, hW, hframe⟩
  jvm_step X.here [X.here.top, hx, hb, hdg, hmeth', hr, ret, narrow_b1]
  (try refine ⟨rfl, ?_⟩); (try refine ⟨rfl, ?_⟩)
  first | (intro acts; rw [hret _ acts rfl rfl rfl]) | rw [hret _ _ rfl rfl rfl]
  exact Steps.refl _
/-- what holds at the law's entry: the machine, the code, the tables' words (any of lw_tbl by 'hts w (by decide +kernel)'), the script of L ints xs at the cell b, what the Statement gives of the start (any of its parts by flat_of_before) -/
def lw_At (p : Program) (s : State) (m : MethodId) (meth : Method) (c : Code) (b L : Nat) (xs : Nat → Int32) : Prop :=
  p.tables.exec = Jvm.exec ∧ c.code = code ∧ meth.sig.returnType = ret ∧ c.maxLocals = 4 ∧ s.vm.findClass R_law = some m.cls ∧ (∀ w ∈ lw_tbl, w.before #[Value.ref b] s = true) ∧ va_X b L xs s s.heap ∧ b < s.heap.size ∧ meth.locks = false ∧ (Jvm.Cond.and given_1 narrow_1).before #[Value.ref b] s = true
/-! 11: runs of the abstract machine, step by step, with cells forgotten on the way -/
def XOK (scr : Nat × (Nat → Int32)) (d mid pc : Nat) (L : XL) (st : List XV) (h : XH) (r : Option XV) (h' : XH) : Prop :=
  xM h ≤ xM h' ∧ xZ h ≤ xZ h' ∧ ∀ (l : Launch) (p : Program) (e : Env) (R : Room) (s : State) (m : MethodId) (args : Array Value) (below : List Frame) (meth : Method) (c : Code) (β : XA) (D : va_G) (cA : Nat → ClassId) (m0 z0 : Nat) (Q : State → Prop), XC scr p R s m args meth c (xm mid) β D cA d → m0 ≤ xM h → z0 ≤ xZ h → xM h' - m0 ≤ R.cells → xZ h' - z0 ≤ R.slots →
      (∀ (pc : Nat) (L : XL) (st : List XV), XRx (xm mid) pc st r → XWk p l e R s m args below meth c (xm mid) β D cA m0 z0 Q pc L st h') → XWk p l e R s m args below meth c (xm mid) β D cA m0 z0 Q pc L st h
theorem xmono {xm : Nat → XY} {scr : Nat × (Nat → Int32)} {code : Nat → Nat → XI} (hcode : ∀ mid pc, XSnd xm scr (xm mid) pc (code mid pc)) : ∀ (f d mid pc : Nat) (L : XL) (st : List XV) (h : XH) (r : Option XV) (h' : XH), xrun code f d mid pc L st h = some (r, h') → xM h ≤ xM h' ∧ xZ h ≤ xZ h'
  | 0, _, _, _, _, _, _, _, _, e => by cases e
  | f + 1, d, mid, pc, L, st, h, r, h', e => by
    rw [xrun_S] at e
    split at e
    · rename_i pc1 L1 st1 h1 hs
      obtain ⟨a1, a2, -⟩ := (hcode mid pc L st h).1 _ _ _ _ hs
      obtain ⟨b1, b2⟩ := xmono hcode f _ _ _ _ _ _ _ _ e
      exact ⟨Nat.le_trans a1 b1, Nat.le_trans a2 b2⟩
    · split at e
      · cases e
      · split at e
        · cases e
        · rename_i hcall
          obtain ⟨a1, a2⟩ := xmono hcode f _ _ _ _ _ _ _ _ hcall
          obtain ⟨b1, b2⟩ := xmono hcode f _ _ _ _ _ _ _ _ e
          exact ⟨Nat.le_trans a1 b1, Nat.le_trans a2 b2⟩
    · cases e
    · cases e
      exact ⟨Nat.le_refl _, Nat.le_refl _⟩
theorem XOK_run {scr : Nat × (Nat → Int32)} {f d mid pc : Nat} {L : XL} {st : List XV} {h h' : XH} {r : Option XV} (hr : xrun (xcode scr) f d mid pc L st h = some (r, h')) : XOK scr d mid pc L st h r h' :=
  ⟨(xmono (xcode_ok scr) f d mid pc L st h r h' hr).1, (xmono (xcode_ok scr) f d mid pc L st h r h' hr).2, fun l => (xsound (xcode_ok scr) l f d mid pc L st h r h' hr).2.2⟩
theorem XOK_step {scr : Nat × (Nat → Int32)} {d mid pc pc1 : Nat} {L L1 : XL} {st st1 : List XV} {h h1 h' : XH} {r : Option XV} (hs : xcode scr mid pc L st h = .inl (pc1, L1, st1, h1)) (k : XOK scr d mid pc1 L1 st1 h1 r h') : XOK scr d mid pc L st h r h' := by
  obtain ⟨a1, a2, a3⟩ := (xcode_ok scr mid pc L st h).1 _ _ _ _ hs
  obtain ⟨b1, b2, b3⟩ := k
  refine ⟨Nat.le_trans a1 b1, Nat.le_trans a2 b2, fun l p e R s m args below meth c β D cA m0 z0 Q X hm0 hz0 hmR hzR K => ?_⟩
  exact a3 p l e R s m args below meth c β D cA d m0 z0 Q X hm0 hz0 (by omega) (by omega) (b3 l p e R s m args below meth c β D cA m0 z0 Q X (by omega) (by omega) hmR hzR K)
theorem XOK_call {scr : Nat × (Nat → Int32)} {d mid pc mid1 pc1 : Nat} {as : List XV} {L : XL} {st st1 : List XV} {h h1 h' : XH} {r r1 : Option XV} (hs : xcode scr mid pc L st h = .inr (.inl (mid1, as, pc1, st1))) (hc : XOK scr d mid1 0 (xargs as) [] h r1 h1) (k : XOK scr (d + 1) mid pc1 L (r1.toList ++ st1) h1 r h') : XOK scr (d + 1) mid pc L st h r h' := by
  obtain ⟨c1, c2, c3, c4⟩ := (xcode_ok scr mid pc L st h).2.1 _ _ _ _ hs
  obtain ⟨a1, a2, a3⟩ := hc
  obtain ⟨b1, b2, b3⟩ := k
  refine ⟨Nat.le_trans a1 b1, Nat.le_trans a2 b2, fun l p e R s m args below meth c β D cA m0 z0 Q X hm0 hz0 hmR hzR K => ?_⟩
  exact c4 p l e R s m args below meth c β D cA d m0 z0 Q r1 h1 X hm0 hz0 a1 a2 (by omega) (by omega) (xmet_of c1 c2 c3 fun p e R s m args below meth c m0 z0 Q X q1 q2 q3 q4 K => a3 l p e R s m args below meth c β D cA m0 z0 Q X q1 q2 q3 q4 K) (b3 l p e R s m args below meth c β D cA m0 z0 Q X (by omega) (by omega) hmR hzR K)
theorem XOK_ret {scr : Nat × (Nat → Int32)} {d mid pc : Nat} {L : XL} {st : List XV} {h : XH} {r : Option XV} (hs : xcode scr mid pc L st h = .inr (.inr (some r))) : XOK scr d mid pc L st h r h :=
  ⟨Nat.le_refl _, Nat.le_refl _, fun l p e R s m args below meth c β D cA m0 z0 Q X hm0 hz0 hmR hzR K => K pc L st ((xcode_ok scr mid pc L st h).2.2 _ hs)⟩
/-- fewer cells known -/
def XLe (h2 h : XH) : Prop := xM h2 = xM h ∧ xZ h2 = xZ h ∧ ∀ (β : XA) (D : va_G) (cA : Nat → ClassId) (H : Heap), XP β D cA h H → XP β D cA h2 H
theorem XOK_weak {scr : Nat × (Nat → Int32)} {d mid pc : Nat} {L : XL} {st : List XV} {h h2 h' : XH} {r : Option XV} (hle : XLe h2 h) (k : XOK scr d mid pc L st h2 r h') : XOK scr d mid pc L st h r h' := by
  obtain ⟨e1, e2, e3⟩ := hle
  obtain ⟨b1, b2, b3⟩ := k
  rw [e1] at b1
  rw [e2] at b2
  refine ⟨b1, b2, fun l p e R s m args below meth c β D cA m0 z0 Q X hm0 hz0 hmR hzR K H locs ls hP hF hl => ?_⟩
  have := b3 l p e R s m args below meth c β D cA m0 z0 Q X (by rw [e1]; exact hm0) (by rw [e2]; exact hz0) hmR hzR K H locs ls (e3 _ _ _ _ hP) hF hl
  rw [e1, e2] at this
  exact this
theorem XOK_post {scr : Nat × (Nat → Int32)} {d mid pc : Nat} {L : XL} {st : List XV} {h h' h2 : XH} {r : Option XV} (hle : XLe h2 h') (k : XOK scr d mid pc L st h r h') : XOK scr d mid pc L st h r h2 := by
  obtain ⟨e1, e2, e3⟩ := hle
  obtain ⟨b1, b2, b3⟩ := k
  refine ⟨by rw [e1]; exact b1, by rw [e2]; exact b2, fun l p e R s m args below meth c β D cA m0 z0 Q X hm0 hz0 hmR hzR K => ?_⟩
  rw [e1] at hmR
  rw [e2] at hzR
  refine b3 l p e R s m args below meth c β D cA m0 z0 Q X hm0 hz0 hmR hzR fun pc L st hx H locs ls hP hF hl => ?_
  have := K pc L st hx H locs ls (e3 _ _ _ _ hP) hF hl
  rw [e1, e2] at this
  exact this
def xagrC (h2 h : XH) (i : Nat) (k : XK) : Bool := match k with
  | .inl ci => (List.range (xnf ci)).all fun k => if xisR (xty ci k) = true then decide (xR h i k = xR h2 i k) else decide (xS h i k = xS h2 i k)
  | .inr (0, n) => (List.range n).all fun k => decide (xS h i k = xS h2 i k)
  | .inr (_ + 1, n) => (List.range n).all fun k => decide (xR h i k = xR h2 i k)
def xagr (h2 h : XH) : Bool := decide (xM h2 = xM h) && (decide (xZ h2 = xZ h) && (List.range (xM h)).all fun i => !(xal (xK h2 i)) || (decide (xK h i = xK h2 i) && xagrC h2 h i (xK h2 i)))
theorem xarr_eq {c : ClassId} {n : Nat} {f g : Nat → Value} (h : ∀ j, j < n → f j = g j) : arrV c n f = arrV c n g := by
  unfold arrV
  congr 1
  apply Array.ext
  · simp
  · intro i h1 h2
    simp only [Array.getElem_ofFn]
    exact h i (by simpa using h1)
theorem xagr_le {h2 h : XH} (ha : xagr h2 h = true) : XLe h2 h := by
  simp only [xagr, Bool.and_eq_true, decide_eq_true_eq] at ha
  obtain ⟨e1, e2, e3⟩ := ha
  refine ⟨e1, e2, fun β D cA H hP => ⟨by rw [e1]; exact hP.1, fun i hi hal => ?_⟩⟩
  rw [e1] at hi
  have h3 := List.all_eq_true.mp e3 i (List.mem_range.mpr hi)
  rw [hal] at h3
  simp only [Bool.not_true, Bool.false_or, Bool.and_eq_true, decide_eq_true_eq] at h3
  obtain ⟨hk, hc⟩ := h3
  have hat := hP.2 i hi (by rw [hk]; exact hal)
  rcases hkk : xK h2 i with ci | ⟨t, n⟩
  · rw [hkk] at hc hk
    rw [xe_obj hkk]
    rw [xe_obj hk] at hat
    obtain ⟨r, h1, h4⟩ := hat
    have hN : r.2.2 = xnf ci := by
      rcases (show ci = 0 ∨ ci = 1 ∨ ci = 2 ∨ ci = 3 ∨ ci = 4 ∨ ci = 5 ∨ ci = 6 ∨ ci = 7 ∨ ci = 8 ∨ 9 ≤ ci by omega) with rfl | rfl | rfl | rfl | rfl | rfl | rfl | rfl | rfl | h9
      all_goals first | (cases h1; rfl) | skip
      have : (xcl[ci]? : Option vw_C) = none := List.getElem?_eq_none (by show 9 ≤ ci; exact h9)
      rw [this] at h1
      cases h1
    refine ⟨r, h1, h4.to fun j hj => ?_⟩
    rw [hN] at hj
    rw [xfs_V _ _ _ _ hj, xfs_V _ _ _ _ hj]
    have h5 := List.all_eq_true.mp hc j (List.mem_range.mpr hj)
    split at h5
    · rename_i hr
      rw [if_pos hr, if_pos hr, of_decide_eq_true h5]
    · rename_i hr
      rw [if_neg hr, if_neg hr, of_decide_eq_true h5]
  · rw [hkk] at hc hk
    rcases t with _ | t
    · rw [xe_int hkk]
      rw [xe_int hk] at hat
      have hat2 : H[β.1 + i]? = some (vp_cell (cA 0) (n, .inl (xS h i))) := hat
      show H[β.1 + i]? = some (vp_cell (cA 0) (n, .inl (xS h2 i)))
      rw [hat2, vp_cell_i, vp_cell_i]
      congr 1
      refine xarr_eq fun j hj => ?_
      have h5 := List.all_eq_true.mp hc j (List.mem_range.mpr hj)
      rw [of_decide_eq_true h5]
    · rw [xe_ref hkk]
      rw [xe_ref hk] at hat
      have hat2 : H[β.1 + i]? = some (vp_cell (cA (t + 1)) (n, .inr (.inr (.inr (.inr (fun j => (xR h i j).map (fun q => β.1 + q))))))) := hat
      show H[β.1 + i]? = some (vp_cell (cA (t + 1)) (n, .inr (.inr (.inr (.inr (fun j => (xR h2 i j).map (fun q => β.1 + q)))))))
      rw [hat2, vp_cell_q, vp_cell_q]
      congr 1
      refine xarr_eq fun j hj => ?_
      have h5 := List.all_eq_true.mp hc j (List.mem_range.mpr hj)
      rw [of_decide_eq_true h5]
/-- n instructions of one frame, its calls whole -/
def xgo (code : Nat → Nat → XI) (F : Nat) : Nat → Nat → Nat → Nat → XL → List XV → XH → Option (Nat × XL × List XV × XH) := fun n => Nat.rec (fun _ _ pc L st h => some (pc, L, st, h))
  (fun _ ih d mid pc L st h => match code mid pc L st h with
    | .inl (pc', L', st', h') => ih d mid pc' L' st' h'
    | .inr (.inl (mid', as, pc', st')) => match d with
      | 0 => none
      | d' + 1 => match xrun code F d' mid' 0 (xargs as) [] h with
        | none => none
        | some (r, h2) => ih d mid pc' L (r.toList ++ st') h2
    | .inr (.inr _) => none) n
theorem xgo_S (code : Nat → Nat → XI) (F n d mid pc : Nat) (L : XL) (st : List XV) (h : XH) : xgo code F (n + 1) d mid pc L st h = match code mid pc L st h with
    | .inl (pc', L', st', h') => xgo code F n d mid pc' L' st' h'
    | .inr (.inl (mid', as, pc', st')) => match d with
      | 0 => none
      | d' + 1 => match xrun code F d' mid' 0 (xargs as) [] h with
        | none => none
        | some (r, h2) => xgo code F n d mid pc' L (r.toList ++ st') h2
    | .inr (.inr _) => none := rfl
theorem XOK_go {scr : Nat × (Nat → Int32)} {F : Nat} : ∀ (n d mid pc pc1 : Nat) (L L1 : XL) (st st1 : List XV) (h h1 h' : XH) (r : Option XV), xgo (xcode scr) F n d mid pc L st h = some (pc1, L1, st1, h1) → XOK scr d mid pc1 L1 st1 h1 r h' → XOK scr d mid pc L st h r h'
  | 0, _, _, _, _, _, _, _, _, _, _, _, _, e, k => by cases e; exact k
  | n + 1, d, mid, pc, pc1, L, L1, st, st1, h, h1, h', r, e, k => by
    rw [xgo_S] at e
    split at e
    · rename_i hs
      exact XOK_step hs (XOK_go n _ _ _ _ _ _ _ _ _ _ _ _ e k)
    · rename_i hs
      split at e
      · cases e
      · split at e
        · cases e
        · rename_i hc
          exact XOK_call hs (XOK_run hc) (XOK_go n _ _ _ _ _ _ _ _ _ _ _ _ e k)
    · cases e
/-- a call whose cells are seen afterwards as h2 -/
def xsee (code : Nat → Nat → XI) (f d mid : Nat) (as : List XV) (h : XH) (r : Option XV) (h2 : XH) : Bool := match xrun code f d mid 0 (xargs as) [] h with
  | some (r', h') => decide (r' = r) && xagr h2 h'
  | none => false
theorem XOK_see {scr : Nat × (Nat → Int32)} {f d mid : Nat} {as : List XV} {h h2 : XH} {r : Option XV} (hs : xsee (xcode scr) f d mid as h r h2 = true) : XOK scr d mid 0 (xargs as) [] h r h2 := by
  unfold xsee at hs
  split at hs
  · rename_i r' h' hr
    simp only [Bool.and_eq_true, decide_eq_true_eq] at hs
    obtain ⟨rfl, ha⟩ := hs
    exact XOK_post (xagr_le ha) (XOK_run hr)
  · cases hs
def x0 : XH := (0, 0, fun _ => .inl 0, fun _ _ => none, fun _ _ => 0)
set_option maxRecDepth 100000 in
set_option maxHeartbeats 1000000 in
/-- what the tables say at the law's entry -/
theorem xknown {b : Addr} {s : State} (hts : ∀ w ∈ lw_tbl, w.before #[Value.ref b] s = true) : ∃ (D : va_G) (cA : Nat → ClassId), XKn D cA s := by
  obtain ⟨c0, iS0, hKn0⟩ := u_known (C := RX0) (T := TX0) (N := 12) (n := 12) hts (fun w hw => xtbl_in (xC0.2.1 w hw)) (hts (.instantiable RX0 12) (List.mem_append_right _ (List.mem_of_getElem? (i := 70) rfl)))
  obtain ⟨c1, iS1, hKn1⟩ := u_known (C := RX1) (T := TX1) (N := 3) (n := 3) hts (fun w hw => xtbl_in (xC1.2.1 w hw)) (hts (.instantiable RX1 3) (List.mem_append_right _ (List.mem_of_getElem? (i := 233) rfl)))
  obtain ⟨c2, iS2, hKn2⟩ := u_known (C := RX2) (T := TX2) (N := 2) (n := 2) hts (fun w hw => xtbl_in (xC2.2.1 w hw)) (hts (.instantiable RX2 2) (List.mem_append_right _ (List.mem_of_getElem? (i := 76) rfl)))
  obtain ⟨c3, iS3, hKn3⟩ := u_known (C := RX3) (T := TX3) (N := 3) (n := 3) hts (fun w hw => xtbl_in (xC3.2.1 w hw)) (hts (.instantiable RX3 3) (List.mem_append_right _ (List.mem_of_getElem? (i := 52) rfl)))
  obtain ⟨c4, iS4, hKn4⟩ := u_known (C := RX4) (T := TX4) (N := 4) (n := 4) hts (fun w hw => xtbl_in (xC4.2.1 w hw)) (hts (.instantiable RX4 4) (List.mem_append_right _ (List.mem_of_getElem? (i := 207) rfl)))
  obtain ⟨c5, iS5, hKn5⟩ := u_known (C := RX5) (T := TX5) (N := 4) (n := 4) hts (fun w hw => xtbl_in (xC5.2.1 w hw)) (hts (.instantiable RX5 4) (List.mem_append_right _ (List.mem_of_getElem? (i := 30) rfl)))
  obtain ⟨c6, iS6, hKn6⟩ := u_known (C := RX6) (T := TX6) (N := 13) (n := 13) hts (fun w hw => xtbl_in (xC6.2.1 w hw)) (hts (.instantiable RX6 13) (List.mem_append_right _ (List.mem_of_getElem? (i := 22) rfl)))
  obtain ⟨c7, iS7, hKn7⟩ := u_known (C := RX7) (T := TX7) (N := 7) (n := 7) hts (fun w hw => xtbl_in (xC7.2.1 w hw)) (hts (.instantiable RX7 7) (List.mem_append_right _ (List.mem_of_getElem? (i := 14) rfl)))
  obtain ⟨c8, iS8, hKn8⟩ := u_known (C := RX8) (T := TX8) (N := 22) (n := 22) hts (fun w hw => xtbl_in (xC8.2.1 w hw)) (hts (.instantiable RX8 22) (List.mem_append_right _ (List.mem_of_getElem? (i := 714) rfl)))
  obtain ⟨a0, k0, p0, f0, g0, q0⟩ := Cond.arrayClass_spec (hts (.arrayClass .int) (List.mem_append_right _ (List.mem_of_getElem? (i := 50) rfl)))
  have ho1 := hts (.arrayOver (.object "ActorTrees$Actor")) (List.mem_append_right _ (List.mem_of_getElem? (i := 28) rfl))
  have ho2 := hts (.arrayOver (.object "ActorTrees$Handle")) (List.mem_append_right _ (List.mem_of_getElem? (i := 232) rfl))
  have ho3 := hts (.arrayOver (.array .int)) (List.mem_append_right _ (List.mem_of_getElem? (i := 720) rfl))
  obtain ⟨p1, a1, k1, e1, -, f1, g1, q1⟩ := Cond.arrayOver_spec ho1
  obtain ⟨p2, a2, k2, e2, -, f2, g2, q2⟩ := Cond.arrayOver_spec ho2
  obtain ⟨p3, a3, k3, e3, -, f3, g3, q3⟩ := arrayOverA_spec ho3
  refine ⟨(fun k => if k = 0 then c0 else if k = 1 then c1 else if k = 2 then c2 else if k = 3 then c3 else if k = 4 then c4 else if k = 5 then c5 else if k = 6 then c6 else if k = 7 then c7 else c8, fun k => if k = 0 then iS0 else if k = 1 then iS1 else if k = 2 then iS2 else if k = 3 then iS3 else if k = 4 then iS4 else if k = 5 then iS5 else if k = 6 then iS6 else if k = 7 then iS7 else iS8), fun k => if k = 0 then a0 else if k = 1 then a1 else if k = 2 then a2 else a3, ⟨?_, ?_⟩, ?_⟩
  · intro k q hq
    match k, hq with
    | 0, hq => cases hq; exact hKn0
    | 1, hq => cases hq; exact hKn1
    | 2, hq => cases hq; exact hKn2
    | 3, hq => cases hq; exact hKn3
    | 4, hq => cases hq; exact hKn4
    | 5, hq => cases hq; exact hKn5
    | 6, hq => cases hq; exact hKn6
    | 7, hq => cases hq; exact hKn7
    | 8, hq => cases hq; exact hKn8
    | k + 9, hq => simp [xcl] at hq
  · intro k q hq
    match k, hq with
    | 0, hq => cases hq; exact ⟨fun N z => ⟨(fun q hq => by cases hq), k0, g0, p0, q0⟩, f0⟩
    | 1, hq => cases hq; exact ⟨fun N z => ⟨(fun q hq => by cases hq), k1, f1, p1, g1⟩, k1, p1, f1, g1, e1, q1⟩
    | 2, hq => cases hq; exact ⟨fun N z => ⟨(fun q hq => by cases hq), k2, f2, p2, g2⟩, k2, p2, f2, g2, e2, q2⟩
    | 3, hq => cases hq; exact ⟨fun N z => ⟨(fun q hq => by cases hq), k3, f3, p3, g3⟩, q3⟩
    | k + 4, hq => simp [xtys] at hq
  · intro w hw
    simp only [xnest, List.mem_cons, List.not_mem_nil, or_false] at hw
    rcases hw with rfl | rfl | rfl | rfl | rfl | rfl | rfl
    · exact hts _ (List.mem_append_right _ (List.mem_of_getElem? (i := 31) rfl))
    · exact hts _ (List.mem_append_right _ (List.mem_of_getElem? (i := 71) rfl))
    · exact hts _ (List.mem_append_right _ (List.mem_of_getElem? (i := 208) rfl))
    · exact hts _ (List.mem_append_right _ (List.mem_of_getElem? (i := 234) rfl))
    · exact ho1
    · exact ho2
    · exact ho3
/-- the claim out of a run of the abstract machine -/
theorem xstart {p : Program} {e : Env} {s : State} {m : MethodId} {below : List Frame} {meth : Method} {c : Code} (l : Launch) {b L : Nat} {xs : Nat → Int32} (C0 : lw_At p s m meth c b L xs) {h' : XH} (hrun : XOK (L, xs) 600 190 0 [(0, .inr (some none))] [] x0 (some (.inl 1)) h') (hm : xM h' ≤ 600000) (hz : xZ h' ≤ 7302249) : W p l e room_1 s m #[Value.ref b] below meth c s.heap [] 0 0 (lw_Z below #[Value.ref b] s) (entryFrame m ([Value.ref b] : List Value).toArray 4) := by
  obtain ⟨hx, hb, hr, hml, hown, hts, hX, hbl, hlocks, hgv⟩ := id C0
  obtain ⟨D, cA, hK⟩ := xknown hts
  have hXC : XC (L, xs) p room_1 s m #[Value.ref b] meth c (xm 190) (s.heap.size, b) D cA 600 :=
    ⟨hx, hb, hml, hown, fun w hw => hts w (xtbl_in hw), hK, fun q => absurd q (by decide +kernel), Nat.le_refl _, Nat.le_of_ble_eq_true rfl, Nat.le_of_ble_eq_true rfl, fun _ => ⟨hX, hbl⟩⟩
  have hl := lv_entry ([.ref b]) (n := 4) (Nat.le_of_ble_eq_true rfl)
  rw [lg_entry_eq]
  refine hrun.2.2 l p e room_1 s m _ below meth c (s.heap.size, b) D cA 0 0 _ hXC (Nat.zero_le _) (Nat.zero_le _) hm hz ?_ s.heap [] _ ⟨rfl, fun i hi => absurd hi (Nat.not_lt_zero _)⟩ ⟨fun _ _ => rfl, fun _ h => by cases h⟩ hl
  intro pc L st hx9 H locs ls hP hF hl9
  rcases hx9 with ⟨h1, -⟩ | ⟨v, ty, h1, rfl, hd, -, -⟩
  · cases h1
  · cases h1
    refine va_forget hF.2 ?_
    refine W.widen (k := 600000) (n := 7302249) (by omega) (by omega) ?_
    exact lw_ret hx hb hr hlocks hd
