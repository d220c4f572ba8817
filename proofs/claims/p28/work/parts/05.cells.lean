/-! 05: the instructions on cells -/
def x_getI (ci f n : Nat) : XI := xiN fun L st h => match st with
  | .inr (some (some i)) :: st => if i < xM h ∧ xK h i = .inl ci then some (n, L, .inl (xS h i f) :: st, h) else none
  | _ => none
theorem s_getI {xm : Nat → XY} {scr : Nat × (Nat → Int32)} {Y : XY} {pc : Nat} {ci f : Nat} {C : String} {T : u_T} (hC : XCl ci C T) (hk : f < xnf ci) {idx : Nat} (hw : Cond.fieldLink Y.1.cls idx (T f).1 (T f).2.1 (T f).2.2.1 ∈ xtbl) (hr : xisR (xty ci f) = false) (hd : decode Y.2.1 pc = .ok (.getfield idx, 3)) : XSnd xm scr Y pc (x_getI ci f (pc + 3)) := by
  refine XSnd_P fun L st h pc1 L1 st1 h1 ee => ?_
  split at ee
  · split at ee
    · rename_i i st0 hc
      cases ee
      refine ⟨rfl, fun p l e R s m args below meth c β D cA d m0 z0 Q X hm0 hz0 hmR hzR k H locs ls hP hF hl => ?_⟩
      obtain ⟨hx, hb, hml, hown, hts, hK, hnm, hbs, -⟩ := X
      refine va_get (ci := ci) (a := β.1 + i) hx hb hts hC.2.1 hown hK.1 (XP_one hP hc.1 (by rw [hc.2]; rfl) (xe_obj hc.2)) 0 rfl hC.1 f hk (hts _ hw) (fun _ g => g) ?_ hd (k H locs ls hP hF hl)
      exact (xfs_at β h i ci hk).trans (by rw [hr]; rfl)
    · cases ee
  · cases ee
def x_getR (ci f n : Nat) : XI := xiN fun L st h => match st with
  | .inr (some (some i)) :: st => if i < xM h ∧ xK h i = .inl ci then match xR h i f with
    | some j => some (n, L, .inr (some (some j)) :: st, h)
    | none => none
    else none
  | _ => none
theorem s_getR {xm : Nat → XY} {scr : Nat × (Nat → Int32)} {Y : XY} {pc : Nat} {ci f : Nat} {C : String} {T : u_T} (hC : XCl ci C T) (hk : f < xnf ci) {idx : Nat} (hw : Cond.fieldLink Y.1.cls idx (T f).1 (T f).2.1 (T f).2.2.1 ∈ xtbl) (hr : xisR (xty ci f) = true) (hd : decode Y.2.1 pc = .ok (.getfield idx, 3)) : XSnd xm scr Y pc (x_getR ci f (pc + 3)) := by
  refine XSnd_P fun L st h pc1 L1 st1 h1 ee => ?_
  split at ee
  · split at ee
    · split at ee
      · rename_i i st0 hc _ j hj
        cases ee
        refine ⟨rfl, fun p l e R s m args below meth c β D cA d m0 z0 Q X hm0 hz0 hmR hzR k H locs ls hP hF hl => ?_⟩
        obtain ⟨hx, hb, hml, hown, hts, hK, hnm, hbs, -⟩ := X
        refine va_get (v := .ref (β.1 + j)) (ci := ci) (a := β.1 + i) hx hb hts hC.2.1 hown hK.1 (XP_one hP hc.1 (by rw [hc.2]; rfl) (xe_obj hc.2)) 0 rfl hC.1 f hk (hts _ hw) (fun _ g => g) ?_ hd (k H locs ls hP hF hl)
        exact (xfs_at β h i ci hk).trans (by rw [hr, hj]; rfl)
      · cases ee
    · cases ee
  · cases ee
/-- a field of a cell is written -/
theorem x_put_cell {β : XA} {D : va_G} {cA : Nat → ClassId} {h h' : XH} {H H1 : Heap} {s : State} {args : Array Value} {tys : List (ClassId × FieldType)} {own : String} {ci f i : Nat} {C : String} {T : u_T} {v : Value} {cell : Cell} (hC : XCl ci C T) (hts : ∀ w ∈ xtbl, w.before args s = true) (hK : va_K D xcl tys s) (hk : f < xnf ci) (hP : XP β D cA h H)
    (q2 : cell.cls = D.1 ci) (q3 : cell.vm = .none) (q4 : ∀ j, j < xnf ci → cell.slots[D.2 ci j]? = some (vp_V (xfs β h i ci) j)) (e1 : H1[β.1 + i]? = some (cell.setSlot (D.2 ci f) v)) (e2 : H1.size = H.size) (e3 : ∀ q : Nat, q ≠ β.1 + i → H1[q]? = H[q]?)
    (hm : xM h' = xM h) (hj : ∀ j, j ≠ i → xK h' j = xK h j ∧ xR h' j = xR h j ∧ xS h' j = xS h j) (hki : xK h' i = .inl ci) (hV : ∀ j, j < xnf ci → updV (vp_V (xfs β h i ci)) f v j = vp_V (xfs β h' i ci) j) : XP β D cA h' H1 := by
  have hap := va_apart (own := own) hts hC.2.1 (xty ci) hC.2.2.1 hC.2.2.2 hK hC.1
  refine XP_upd hP hm e2 e3 hj ?_
  rw [xe_obj hki]
  exact ⟨_, hC.1, t_OB.to (V := updV (vp_V (xfs β h i ci)) f v) ⟨_, e1, q2, q3, t_set q4 hap hk v⟩ hV⟩
theorem x_put {scr : Nat × (Nat → Int32)} {p : Program} {l : Launch} {e : Env} {R : Room} {s : State} {m : MethodId} {args : Array Value} {below : List Frame} {meth : Method} {c : Code} {Y : XY} {β : XA} {D : va_G} {cA : Nat → ClassId} {d cells slots pc idx i ci f : Nat} {Q : State → Prop} {h h' : XH} {H : Heap} {locs : List Loc} {ls : Array Slot} {rest : List Value} {C : String} {T : u_T} {v : Value}
    (X : XC scr p R s m args meth c Y β D cA d) (hC : XCl ci C T) (hk : f < xnf ci) (hw : Cond.fieldLink Y.1.cls idx (T f).1 (T f).2.1 (T f).2.2.1 ∈ xtbl) (hfin : (T f).2.2.2 = false ∨ ((T f).2.2.2 = true ∧ Y.1.name = "<init>" ∧ (T f).1 = Y.1.cls)) (hd : decode Y.2.1 pc = .ok (.putfield idx, 3))
    (hn : narrow (xty ci f) v = v) (hfit : fits (xty ci f) v = true) (hi : i < xM h) (hki : xK h i = .inl ci) (hP : XP β D cA h H) (hF : XF β s H locs)
    (hm : xM h' = xM h) (hj : ∀ j, j ≠ i → xK h' j = xK h j ∧ xR h' j = xR h j ∧ xS h' j = xS h j) (hki' : xK h' i = .inl ci) (hV : ∀ j, j < xnf ci → updV (vp_V (xfs β h i ci)) f v j = vp_V (xfs β h' i ci) j)
    (kk : ∀ H1 locs1, XP β D cA h' H1 → XF β s H1 locs1 → W p l e R s m args below meth c H1 locs1 cells slots Q (F0 m (pc + 3) ls rest)) : W p l e R s m args below meth c H locs cells slots Q (F0 m pc ls (v :: .ref (β.1 + i) :: rest)) := by
  obtain ⟨hx, hb, hml, hown, hts, hK, hnm, hbs, -⟩ := X
  have hat := hP.2 i hi (by rw [hki]; rfl)
  rw [xe_obj hki] at hat
  obtain ⟨r, h1, cell, q1, q2, q3, q4⟩ := hat
  have hr : r = (C, T, xnf ci) := Option.some.inj (h1.symm.trans hC.1)
  subst hr
  obtain ⟨hS, hfc, kC, hkC, hkind⟩ := hK.1.1 ci _ hC.1
  obtain ⟨cf, kf, fi, fd, hfi, hsl⟩ := hS f hk
  have hlay := hts _ (hC.2.1 _ (u_in_lay hk))
  have hst := (u_facts hfc hkC (u_lays hts hC.2.1 hk) hfi).1
  have hty := hC.2.2.1 f hk
  rcases hfin with hfin | ⟨hfin, hini, hdecl⟩
  · unfold u_lay at hlay
    rw [if_neg (by rw [hfin]; decide)] at hlay
    have h6 := u_store hfc hkC hkind hlay hfi hty hn hfit
    refine W.putK hx hb (f := fd) ⟨hown, hts _ hw, ⟨_, _, _, hfi⟩, hst⟩ (by rw [q2]; exact h6) q1 q3 (by rw [hsl]; exact k2_hasslot (q4 f hk)) rfl rfl hd fun H' e1 e2 e3 => ?_
    rw [hsl] at e1 ⊢
    exact kk H' _ (x_put_cell (own := Y.1.cls) hC hts hK.1 hk hP q2 q3 q4 e1 e2 e3 hm hj hki' hV) (XF_put hF e3)
  · unfold u_lay at hlay
    rw [if_pos hfin] at hlay
    have hcf : m.cls = cf := by
      obtain ⟨_, _, c', _, _, _, -, -, hf', -, -, -, hown2, -⟩ := Cond.laysFinal_spec hlay
      have e1 : c' = cf := by have := hfi.symm.trans hf'; simp at this; exact this.1.symm
      rw [hdecl] at hown2
      rw [← e1]; exact Option.some.inj (hown.symm.trans hown2)
    have h6 := u_fits hfc hkC hkind (Or.inr hlay) hfi hty hn hfit
    refine W.putFinK hx hb hown (hts _ hw) hfi hst hcf (hnm hini) (by rw [q2]; exact h6) q1 q3 (by rw [hsl]; exact k2_hasslot (q4 f hk)) rfl rfl hd fun H' e1 e2 e3 => ?_
    rw [hsl] at e1 ⊢
    exact kk H' _ (x_put_cell (own := Y.1.cls) hC hts hK.1 hk hP q2 q3 q4 e1 e2 e3 hm hj hki' hV) (XF_put hF e3)
theorem xsetS_V {β : XA} {h : XH} {i ci f : Nat} {v : Int32} (hk : f < xnf ci) (hr : xisR (xty ci f) = false) : ∀ j, j < xnf ci → updV (vp_V (xfs β h i ci)) f (.int v) j = vp_V (xfs β (xsetS h i (upd (xS h i) f v)) i ci) j := by
  intro j hj
  rw [xfs_V _ _ _ _ hj]
  have e1 : xS (xsetS h i (upd (xS h i) f v)) i j = upd (xS h i) f v j := congrFun (if_pos rfl) j
  have e2 : xR (xsetS h i (upd (xS h i) f v)) i j = xR h i j := rfl
  rw [e1, e2]
  unfold updV upd
  by_cases g : j = f
  · subst g
    rw [if_pos rfl, if_pos rfl, hr]
    rfl
  · rw [if_neg g, if_neg g, xfs_V _ _ _ _ hj]
theorem xsetR_V {β : XA} {h : XH} {i ci f j0 : Nat} (hk : f < xnf ci) (hr : xisR (xty ci f) = true) : ∀ j, j < xnf ci → updV (vp_V (xfs β h i ci)) f (.ref (β.1 + j0)) j = vp_V (xfs β (xsetR h i (xup (xR h i) f (some j0))) i ci) j := by
  intro j hj
  rw [xfs_V _ _ _ _ hj]
  have e1 : xR (xsetR h i (xup (xR h i) f (some j0))) i j = xup (xR h i) f (some j0) j := congrFun (if_pos rfl) j
  have e2 : xS (xsetR h i (xup (xR h i) f (some j0))) i j = xS h i j := rfl
  rw [e1, e2]
  unfold updV xup
  by_cases g : j = f
  · subst g
    rw [if_pos rfl, if_pos rfl, hr]
    rfl
  · rw [if_neg g, if_neg g, xfs_V _ _ _ _ hj]
theorem xsetS_off {h : XH} {i : Nat} {g : Nat → Int32} : ∀ j, j ≠ i → xK (xsetS h i g) j = xK h j ∧ xR (xsetS h i g) j = xR h j ∧ xS (xsetS h i g) j = xS h j := fun _ hj => ⟨rfl, rfl, if_neg hj⟩
theorem xsetR_off {h : XH} {i : Nat} {g : Nat → Option Nat} : ∀ j, j ≠ i → xK (xsetR h i g) j = xK h j ∧ xR (xsetR h i g) j = xR h j ∧ xS (xsetR h i g) j = xS h j := fun _ hj => ⟨rfl, if_neg hj, rfl⟩
def x_putI (ci f n : Nat) : XI := xiN fun L st h => match st with
  | .inl v :: .inr (some (some i)) :: st => if i < xM h ∧ xK h i = .inl ci then some (n, L, st, xsetS h i (upd (xS h i) f v)) else none
  | _ => none
def x_putZ (ci f n : Nat) : XI := xiN fun L st h => match st with
  | .inl v :: .inr (some (some i)) :: st => if (i < xM h ∧ xK h i = .inl ci) ∧ (v = 0 ∨ v = 1) then some (n, L, st, xsetS h i (upd (xS h i) f v)) else none
  | _ => none
def x_putR (ci f n : Nat) : XI := xiN fun L st h => match st with
  | .inr (some (some j)) :: .inr (some (some i)) :: st => if i < xM h ∧ xK h i = .inl ci then some (n, L, st, xsetR h i (xup (xR h i) f (some j))) else none
  | _ => none
theorem s_putI {xm : Nat → XY} {scr : Nat × (Nat → Int32)} {Y : XY} {pc : Nat} {ci f : Nat} {C : String} {T : u_T} (hC : XCl ci C T) (hk : f < xnf ci) {idx : Nat} (hw : Cond.fieldLink Y.1.cls idx (T f).1 (T f).2.1 (T f).2.2.1 ∈ xtbl) (hty : xty ci f = .int) (hfin : (T f).2.2.2 = false ∨ ((T f).2.2.2 = true ∧ Y.1.name = "<init>" ∧ (T f).1 = Y.1.cls)) (hd : decode Y.2.1 pc = .ok (.putfield idx, 3)) : XSnd xm scr Y pc (x_putI ci f (pc + 3)) := by
  refine XSnd_N fun L st h pc1 L1 st1 h1 ee => ?_
  split at ee
  · split at ee
    · rename_i v i st0 hc
      cases ee
      refine ⟨Nat.le_refl _, Nat.le_refl _, fun p l e R s m args below meth c β D cA d m0 z0 Q X hm0 hz0 hmR hzR k H locs ls hP hF hl => ?_⟩
      exact x_put (h' := xsetS h i (upd (xS h i) f v)) X hC hk hw hfin hd (by rw [hty]; rfl) (by rw [hty]; rfl) hc.1 hc.2 hP hF rfl xsetS_off hc.2 (xsetS_V hk (by rw [hty]; rfl)) (fun H1 locs1 g1 g2 => k H1 locs1 ls g1 g2 hl)
    · cases ee
  · cases ee
theorem s_putZ {xm : Nat → XY} {scr : Nat × (Nat → Int32)} {Y : XY} {pc : Nat} {ci f : Nat} {C : String} {T : u_T} (hC : XCl ci C T) (hk : f < xnf ci) {idx : Nat} (hw : Cond.fieldLink Y.1.cls idx (T f).1 (T f).2.1 (T f).2.2.1 ∈ xtbl) (hty : xty ci f = .boolean) (hfin : (T f).2.2.2 = false ∨ ((T f).2.2.2 = true ∧ Y.1.name = "<init>" ∧ (T f).1 = Y.1.cls)) (hd : decode Y.2.1 pc = .ok (.putfield idx, 3)) : XSnd xm scr Y pc (x_putZ ci f (pc + 3)) := by
  refine XSnd_N fun L st h pc1 L1 st1 h1 ee => ?_
  split at ee
  · split at ee
    · rename_i v i st0 hc
      cases ee
      refine ⟨Nat.le_refl _, Nat.le_refl _, fun p l e R s m args below meth c β D cA d m0 z0 Q X hm0 hz0 hmR hzR k H locs ls hP hF hl => ?_⟩
      exact x_put (h' := xsetS h i (upd (xS h i) f v)) X hC hk hw hfin hd (by rw [hty]; exact xnarZ hc.2) (by rw [hty]; rcases hc.2 with rfl | rfl <;> rfl) hc.1.1 hc.1.2 hP hF rfl xsetS_off hc.1.2 (xsetS_V hk (by rw [hty]; rfl)) (fun H1 locs1 g1 g2 => k H1 locs1 ls g1 g2 hl)
    · cases ee
  · cases ee
theorem xnarR {t : FieldType} {a : Nat} (h : xisR t = true) : narrow t (.ref a) = .ref a ∧ fits t (.ref a) = true := by
  cases t <;> first | exact ⟨rfl, rfl⟩ | cases h
theorem s_putR {xm : Nat → XY} {scr : Nat × (Nat → Int32)} {Y : XY} {pc : Nat} {ci f : Nat} {C : String} {T : u_T} (hC : XCl ci C T) (hk : f < xnf ci) {idx : Nat} (hw : Cond.fieldLink Y.1.cls idx (T f).1 (T f).2.1 (T f).2.2.1 ∈ xtbl) (hr : xisR (xty ci f) = true) (hfin : (T f).2.2.2 = false ∨ ((T f).2.2.2 = true ∧ Y.1.name = "<init>" ∧ (T f).1 = Y.1.cls)) (hd : decode Y.2.1 pc = .ok (.putfield idx, 3)) : XSnd xm scr Y pc (x_putR ci f (pc + 3)) := by
  refine XSnd_N fun L st h pc1 L1 st1 h1 ee => ?_
  split at ee
  · split at ee
    · rename_i j i st0 hc
      cases ee
      refine ⟨Nat.le_refl _, Nat.le_refl _, fun p l e R s m args below meth c β D cA d m0 z0 Q X hm0 hz0 hmR hzR k H locs ls hP hF hl => ?_⟩
      exact x_put (h' := xsetR h i (xup (xR h i) f (some j))) X hC hk hw hfin hd (xnarR hr).1 (xnarR hr).2 hc.1 hc.2 hP hF rfl xsetR_off hc.2 (xsetR_V hk hr) (fun H1 locs1 g1 g2 => k H1 locs1 ls g1 g2 hl)
    · cases ee
  · cases ee
def x_new (ci n : Nat) : XI := xiN fun L st h => some (n, L, .inr (some (some (xM h))) :: st, xnew h (.inl ci) (xnf ci))
theorem s_new {xm : Nat → XY} {scr : Nat × (Nat → Int32)} {Y : XY} {pc : Nat} {ci : Nat} {C : String} {T : u_T} (hC : XCl ci C T) {idx : Nat} (hw : Cond.classLink Y.1.cls idx C ∈ xtbl) (hi1 : Cond.instantiable C (xnf ci) ∈ xtbl) (hi2 : Cond.initialized C ∈ xtbl) (hdf : ∀ j, j < xnf ci → defaultValue (xty ci j) = if xisR (xty ci j) = true then .null else .int 0) (hd : decode Y.2.1 pc = .ok (.new idx, 3)) : XSnd xm scr Y pc (x_new ci (pc + 3)) := by
  refine XSnd_N fun L st h pc1 L1 st1 h1 ee => ?_
  cases ee
  refine ⟨Nat.le_add_right _ _, Nat.le_add_right _ _, fun p l e R s m args below meth c β D cA d m0 z0 Q X hm0 hz0 hmR hzR k H locs ls hP hF hl => ?_⟩
  obtain ⟨hx, hb, hml, hown, hts, hK, hnm, hbs, -⟩ := X
  have hKn := hK.1.1 ci _ hC.1
  have hm1 : xM h - m0 + 1 = xM (xnew h (.inl ci) (xnf ci)) - m0 := by show _ = xM h + 1 - m0; omega
  have hz1 : xZ h - z0 + xnf ci = xZ (xnew h (.inl ci) (xnf ci)) - z0 := by show _ = xZ h + xnf ci - z0; omega
  refine W.newcK hx hb hown (hts _ hw) (hts _ hi1) (hts _ hi2) rfl hd (by rw [hm1]; exact hmR) (by rw [hz1]; exact hzR) hKn.2.1 hP.1 fun H1 kC hkC e1 z1 o1 => ?_
  rw [hm1, hz1]
  have hsz : β.1 + xM h = H.size := hP.1.symm
  refine k H1 locs ls (XP_push hP (by rw [z1, hsz]) (fun q hq => o1 q (by rw [hsz]; exact hq)) ?_) (XF_push hF (by omega) (fun q hq => o1 q (by rw [hsz]; exact hq))) hl
  have hk0 : xK (xnew h (.inl ci) (xnf ci)) (xM h) = .inl ci := if_pos rfl
  rw [xe_obj hk0]
  refine ⟨_, hC.1, (u_born (xty ci) hts hC.2.1 hKn hkC e1 hC.2.2.1).to fun j hj => ?_⟩
  rw [xfs_V _ _ _ _ hj]
  have e2 : xR (xnew h (.inl ci) (xnf ci)) (xM h) j = none := congrFun (if_pos rfl) j
  have e3 : xS (xnew h (.inl ci) (xnf ci)) (xM h) j = 0 := congrFun (if_pos rfl) j
  rw [e2, e3]
  exact hdf j hj
def x_newI (n : Nat) : XI := xiN fun L st h => match st with
  | .inl z :: st => if z < 0 ∨ 100000 < z.toNatClampNeg then none else some (n, L, .inr (some (some (xM h))) :: st, xnew h (.inr (0, z.toNatClampNeg)) z.toNatClampNeg)
  | _ => none
theorem s_newI {xm : Nat → XY} {scr : Nat × (Nat → Int32)} {Y : XY} {pc : Nat} (hw : Cond.arrayClass .int ∈ xtbl) (hd : decode Y.2.1 pc = .ok (.newarray .int, 2)) : XSnd xm scr Y pc (x_newI (pc + 2)) := by
  refine XSnd_N fun L st h pc1 L1 st1 h1 ee => ?_
  split at ee
  · split at ee
    · cases ee
    rename_i z st0 hc
    cases ee
    generalize hN : z.toNatClampNeg = N at hc
    refine ⟨Nat.le_add_right _ _, Nat.le_add_right _ _, fun p l e R s m args below meth c β D cA d m0 z0 Q X hm0 hz0 hmR hzR k H locs ls hP hF hl => ?_⟩
    obtain ⟨hx, hb, hml, hown, hts, hK, hnm, hbs, -⟩ := X
    have hm1 : xM h - m0 + 1 = xM (xnew h (.inr (0, N)) N) - m0 := by show _ = xM h + 1 - m0; omega
    have hz1 : xZ h - z0 + N = xZ (xnew h (.inr (0, N)) N) - z0 := by show _ = xZ h + N - z0; omega
    have hc1 : ¬ z < 0 := fun q => hc (Or.inl q)
    have hc2 : N ≤ 100000 := Nat.not_lt.mp fun q => hc (Or.inr q)
    refine va_newaK (atype := .int) hx hb (hts _ hw) rfl hd rfl hc1 hN (by show N * 4 ≤ 536870912; omega) (by rw [hm1]; exact hmR) (by rw [hz1]; exact hzR) hP.1 fun H1 cN e1 z1 o1 hAr hNm => ?_
    rw [hm1, hz1]
    have hsz : β.1 + xM h = H.size := hP.1.symm
    refine k H1 locs ls (XP_push hP (by rw [z1, hsz]) (fun q hq => o1 q (by rw [hsz]; exact hq)) ?_) (XF_push hF (by omega) (fun q hq => o1 q (by rw [hsz]; exact hq))) hl
    have hk0 : xK (xnew h (.inr (0, N)) N) (xM h) = .inr (0, N) := if_pos rfl
    rw [xe_int hk0]
    have e3 : xS (xnew h (.inr (0, N)) N) (xM h) = fun _ => 0 := if_pos rfl
    rw [e3]
    have hcA : cN = cA 0 := Option.some.inj (hNm.symm.trans (hK.1.2 0 (cA 0, xaT 0) rfl).2)
    show H1[_]? = some (vp_cell _ _)
    rw [← hcA, e1]
    rfl
  · cases ee
def x_newA (t n : Nat) : XI := xiN fun L st h => match st with
  | .inl z :: st => if z < 0 ∨ 100000 < z.toNatClampNeg then none else some (n, L, .inr (some (some (xM h))) :: st, xnew h (.inr (t + 1, z.toNatClampNeg)) z.toNatClampNeg)
  | _ => none
theorem s_newA {xm : Nat → XY} {scr : Nat × (Nat → Int32)} {Y : XY} {pc : Nat} {t idx : Nat} {C : String} (hC : xaT (t + 1) = .object C) (ht : t < 2) (hw : Cond.classLink Y.1.cls idx C ∈ xtbl) (hd : decode Y.2.1 pc = .ok (.anewarray idx, 3)) : XSnd xm scr Y pc (x_newA t (pc + 3)) := by
  refine XSnd_N fun L st h pc1 L1 st1 h1 ee => ?_
  split at ee
  · split at ee
    · cases ee
    rename_i z st0 hc
    cases ee
    generalize hN : z.toNatClampNeg = N at hc
    refine ⟨Nat.le_add_right _ _, Nat.le_add_right _ _, fun p l e R s m args below meth c β D cA d m0 z0 Q X hm0 hz0 hmR hzR k H locs ls hP hF hl => ?_⟩
    obtain ⟨hx, hb, hml, hown, hts, hK, hnm, hbs, -⟩ := X
    have hm1 : xM h - m0 + 1 = xM (xnew h (.inr (t + 1, N)) N) - m0 := by show _ = xM h + 1 - m0; omega
    have hz1 : xZ h - z0 + N = xZ (xnew h (.inr (t + 1, N)) N) - z0 := by show _ = xZ h + N - z0; omega
    have hc1 : ¬ z < 0 := fun q => hc (Or.inl q)
    have hc2 : N ≤ 100000 := Nat.not_lt.mp fun q => hc (Or.inr q)
    have hov : (Cond.arrayOver (.object C)).before args s = true := by
      have h9 : Cond.arrayOver (xaT (t + 1)) ∈ xnest := by
        rcases (show t = 0 ∨ t = 1 by omega) with rfl | rfl
        · exact List.mem_of_getElem? (i := 4) rfl
        · exact List.mem_of_getElem? (i := 5) rfl
      have h8 := hK.2 _ h9
      rw [hC] at h8
      exact va_AO.use h8
    have htys : (xtys cA)[t + 1]? = some (cA (t + 1), .object C) := by
      rw [← hC]
      rcases (show t = 0 ∨ t = 1 by omega) with rfl | rfl <;> rfl
    refine W.anew hx hb hown (hts _ hw) hov rfl hd rfl hc1 (by rw [hN]; omega) (by rw [hm1]; exact hmR) (by rw [hN, hz1]; exact hzR) fun cN kA comp f1 f2 f3 f4 => ?_
    rw [hN, hm1, hz1]
    generalize hH1 : H.push ({ cls := cN, slots := Array.replicate N .null, vm := .none } : Cell) = H1
    have z1 : H1.size = H.size + 1 := by rw [← hH1, Array.size_push]
    have e1 : H1[H.size]? = some (arrV cN N (fun _ => .null)) := by rw [← hH1, Array.getElem?_push_size, ← arrV_new]
    have o1 : ∀ q : Nat, q < H.size → H1[q]? = H[q]? := fun q hq => by rw [← hH1, Array.getElem?_push, if_neg (Nat.ne_of_lt hq)]
    have hsz : H.size = β.1 + xM h := hP.1
    rw [hsz]
    refine k H1 locs ls (XP_push hP z1 o1 ?_) (XF_push hF (by omega) o1) hl
    have hk0 : xK (xnew h (.inr (t + 1, N)) N) (xM h) = .inr (t + 1, N) := if_pos rfl
    rw [xe_ref hk0]
    have e3 : xR (xnew h (.inr (t + 1, N)) N) (xM h) = fun _ => none := if_pos rfl
    rw [e3]
    have hra : s.vm.findClass ("[" ++ (FieldType.object C).toString) = some (cA (t + 1)) := by
      obtain ⟨_, _, _, _, _, h9⟩ := (hK.1.2 (t + 1) _ htys).2
      exact h9
    have hcA : cN = cA (t + 1) := Option.some.inj (f1.symm.trans hra)
    show H1[_]? = some (vp_cell _ _)
    rw [← hcA, ← hsz, e1, vp_cell_q]
    rfl
  · cases ee
