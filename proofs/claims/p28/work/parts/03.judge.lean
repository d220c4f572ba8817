/-! 03: what an instruction of the abstract machine owes to the machine -/
def XRM (d mc ms : Nat) : Room := { frames := d + 1, cells := mc, slots := ms, locals := 128 * (d + 1) }
def XWs (Y : XY) : List Cond := Cond.code Y.1 Y.2.1 Y.2.2.1 Y.2.2.2 :: xtbl
def XPre (β : XA) (D : va_G) (cA : Nat → ClassId) (h : XH) : State → Prop := fun U => XP β D cA h U.heap ∧ XKn D cA U
def XQ (β : XA) (D : va_G) (cA : Nat → ClassId) (r : Option XV) (h' : XH) : Array Value → State → Outcome → State → Prop := fun _ st oc t => oc = .returned (r.map (xv β)) ∧ XP β D cA h' t.heap ∧ ∀ q : Nat, q < β.1 → t.heap[q]? = st.heap[q]?
def XMet (l : Launch) (Y : XY) (d : Nat) (β : XA) (D : va_G) (cA : Nat → ClassId) (as : List XV) (h : XH) (r : Option XV) (h' : XH) : Prop := Met l Y.1 (XWs Y) (XRM d (xM h' - xM h) (xZ h' - xZ h)) (va_Pc (xst β as) (XPre β D cA h)) (XQ β D cA r h') (xM h' - xM h) (xZ h' - xZ h) (fun q => β.1 ≤ q)
def XC (scr : Nat × (Nat → Int32)) (p : Program) (R : Room) (s : State) (m : MethodId) (args : Array Value) (meth : Method) (c : Code) (Y : XY) (β : XA) (D : va_G) (cA : Nat → ClassId) (d : Nat) : Prop :=
  p.tables.exec = Jvm.exec ∧ c.code = Y.2.1 ∧ c.maxLocals = Y.2.2.1 ∧ s.vm.findClass Y.1.cls = some m.cls ∧ (∀ w ∈ xtbl, w.before args s = true) ∧ XKn D cA s ∧ (Y.1.name = "<init>" → meth.name = "<init>") ∧ β.1 ≤ s.heap.size ∧ d + 1 ≤ R.frames ∧ 128 * (d + 1) ≤ R.locals ∧ (Y.1.name = "law" → va_X β.2 scr.1 scr.2 s s.heap ∧ β.2 < β.1)
/-- where a walk stands -/
def XWk (p : Program) (l : Launch) (e : Env) (R : Room) (s : State) (m : MethodId) (args : Array Value) (below : List Frame) (meth : Method) (c : Code) (Y : XY) (β : XA) (D : va_G) (cA : Nat → ClassId) (m0 z0 : Nat) (Q : State → Prop) (pc : Nat) (L : XL) (st : List XV) (h : XH) : Prop :=
  ∀ (H : Heap) (locs : List Loc) (ls : Array Slot), XP β D cA h H → XF β s H locs → lv_has ls Y.2.2.1 (xls β L) → W p l e R s m args below meth c H locs (xM h - m0) (xZ h - z0) Q (F0 m pc ls (xst β st))
def XNx (scr : Nat × (Nat → Int32)) (Y : XY) (pc : Nat) (L : XL) (st : List XV) (h : XH) (pc' : Nat) (L' : XL) (st' : List XV) (h' : XH) : Prop :=
  ∀ (p : Program) (l : Launch) (e : Env) (R : Room) (s : State) (m : MethodId) (args : Array Value) (below : List Frame) (meth : Method) (c : Code) (β : XA) (D : va_G) (cA : Nat → ClassId) (d m0 z0 : Nat) (Q : State → Prop), XC scr p R s m args meth c Y β D cA d → m0 ≤ xM h → z0 ≤ xZ h → xM h' - m0 ≤ R.cells → xZ h' - z0 ≤ R.slots →
    XWk p l e R s m args below meth c Y β D cA m0 z0 Q pc' L' st' h' → XWk p l e R s m args below meth c Y β D cA m0 z0 Q pc L st h
def XCx (xm : Nat → XY) (scr : Nat × (Nat → Int32)) (Y : XY) (pc : Nat) (L : XL) (st : List XV) (h : XH) (mid : Nat) (as : List XV) (pc' : Nat) (st' : List XV) : Prop :=
  as.length ≤ (xm mid).2.2.1 ∧ plainName (xm mid).1.cls = true ∧ (xm mid).1.name ≠ "law" ∧ ∀ (p : Program) (l : Launch) (e : Env) (R : Room) (s : State) (m : MethodId) (args : Array Value) (below : List Frame) (meth : Method) (c : Code) (β : XA) (D : va_G) (cA : Nat → ClassId) (d m0 z0 : Nat) (Q : State → Prop) (r : Option XV) (h2 : XH), XC scr p R s m args meth c Y β D cA (d + 1) → m0 ≤ xM h → z0 ≤ xZ h → xM h ≤ xM h2 → xZ h ≤ xZ h2 → xM h2 - m0 ≤ R.cells → xZ h2 - z0 ≤ R.slots →
    XMet l (xm mid) d β D cA as h r h2 → XWk p l e R s m args below meth c Y β D cA m0 z0 Q pc' L (r.toList ++ st') h2 → XWk p l e R s m args below meth c Y β D cA m0 z0 Q pc L st h
def XRx (Y : XY) (pc : Nat) (st : List XV) (r : Option XV) : Prop :=
  (r = none ∧ st = [] ∧ decode Y.2.1 pc = .ok (.return_, 1) ∧ Y.2.2.2 = none) ∨ (∃ (v : Int32) (ty : FieldType), r = some (.inl v) ∧ st = [.inl v] ∧ decode Y.2.1 pc = .ok (.ireturn, 1) ∧ Y.2.2.2 = some ty ∧ narrow ty (.int v) = .int v)
def XSnd (xm : Nat → XY) (scr : Nat × (Nat → Int32)) (Y : XY) (pc : Nat) (sem : XI) : Prop := ∀ (L : XL) (st : List XV) (h : XH),
  (∀ pc' L' st' h', sem L st h = .inl (pc', L', st', h') → xM h ≤ xM h' ∧ xZ h ≤ xZ h' ∧ XNx scr Y pc L st h pc' L' st' h') ∧
  (∀ mid as pc' st', sem L st h = .inr (.inl (mid, as, pc', st')) → XCx xm scr Y pc L st h mid as pc' st') ∧
  (∀ r, sem L st h = .inr (.inr (some r)) → XRx Y pc st r)
def xbad : XO := .inr (.inr none)
theorem XSnd_bad {xm : Nat → XY} {scr : Nat × (Nat → Int32)} {Y : XY} {pc : Nat} : XSnd xm scr Y pc (fun _ _ _ => xbad) := fun L st h => ⟨fun _ _ _ _ e => (by cases e), fun _ _ _ _ e => (by cases e), fun _ e => (by cases e)⟩
/-! small laws -/
theorem xls_mem {β : XA} {L : XL} {ls : Array Slot} {n i : Nat} {v : XV} (hl : lv_has ls n (xls β L)) (h : (i, v) ∈ L) : ls[i]? = some (.val (xv β v)) := hl.2.2 (i, xv β v) (List.mem_map.mpr ⟨(i, v), h, rfl⟩)
def xget : XL → Nat → Option XV
  | [], _ => none
  | (k, v) :: L, i => if k = i then some v else xget L i
theorem xget_mem : ∀ {L : XL} {i : Nat} {v : XV}, xget L i = some v → (i, v) ∈ L
  | [], _, _, h => by cases h
  | (k, w) :: L, i, v, h => by
    unfold xget at h
    split at h
    · rename_i hk
      cases h
      rw [hk]
      exact List.mem_cons_self
    · exact List.mem_cons_of_mem _ (xget_mem h)
theorem xv_cat (β : XA) (v : XV) : (xv β v).category = 1 := by
  rcases v with x | _ | _ | i <;> rfl
def xput (L : XL) (i : Nat) (v : XV) : XL := (i, v) :: L.filter fun q => !(q.1 == i)
theorem xls_put (β : XA) (L : XL) (i : Nat) (v : XV) : (i, xv β v) :: (xls β L).filter (fun q => !(q.1 == i) && !(q.1 + 1 == i && q.2.category == 2)) = xls β (xput L i v) := by
  unfold xls xput
  rw [List.map_cons, List.filter_map]
  congr 2
  apply List.filter_congr
  intro q hq
  simp [Function.comp, xv_cat]
theorem xst_cons (β : XA) (v : XV) (st : List XV) : xst β (v :: st) = xv β v :: xst β st := rfl
theorem xst_sum (β : XA) (st : List XV) : ((xst β st).map fun v => v.category).sum = st.length := by
  induction st with
  | nil => rfl
  | cons v st ih =>
    show (xv β v).category + ((xst β st).map fun v => v.category).sum = _
    rw [xv_cat, ih, List.length_cons]
    omega
theorem XF_S {β : XA} {s : State} {H : Heap} {locs : List Loc} (h : XF β s H locs) (hb : β.1 ≤ s.heap.size) (hs : s.heap.size ≤ H.size) : va_S (fun q => β.1 ≤ q) s.heap H locs := ⟨hs, fun q h1 h2 => h.1 q (Nat.not_le.mp h2), h.2⟩
theorem xe_eq {β : XA} {cA : Nat → ClassId} {h h' : XH} {j : Nat} (h1 : xK h' j = xK h j) (h2 : xR h' j = xR h j) (h3 : xS h' j = xS h j) : xe β cA h' j = xe β cA h j := by
  unfold xe xfs
  rw [h1, h2, h3]
theorem XP_upd {β : XA} {D : va_G} {cA : Nat → ClassId} {h h' : XH} {H H' : Heap} {i : Nat} (hP : XP β D cA h H) (hm : xM h' = xM h) (hs : H'.size = H.size) (hne : ∀ q : Nat, q ≠ β.1 + i → H'[q]? = H[q]?) (hj : ∀ j, j ≠ i → xK h' j = xK h j ∧ xR h' j = xR h j ∧ xS h' j = xS h j) (hi : va_at D xcl (β.1 + i, xe β cA h' i) H') : XP β D cA h' H' := by
  refine ⟨by rw [hs, hm]; exact hP.1, fun j hjm ha => ?_⟩
  by_cases e : j = i
  · subst e
    exact hi
  · obtain ⟨h1, h2, h3⟩ := hj j e
    rw [xe_eq h1 h2 h3]
    exact (hP.2 j (by rw [← hm]; exact hjm) (by rw [← h1]; exact ha)).kept (hne _ (by show β.1 + j ≠ β.1 + i; omega))
theorem XF_put {β : XA} {s : State} {H H' : Heap} {locs : List Loc} {i k : Nat} (h : XF β s H locs) (hne : ∀ q : Nat, q ≠ β.1 + i → H'[q]? = H[q]?) : XF β s H' (locs ++ [⟨β.1 + i, k⟩]) := by
  refine ⟨fun q hq => (hne q (by omega)).trans (h.1 q hq), fun q hq => ?_⟩
  rcases List.mem_append.mp hq with g | g
  · exact h.2 q g
  · rw [List.mem_singleton.mp g]
    exact Nat.le_add_right _ _
theorem XP_push {β : XA} {D : va_G} {cA : Nat → ClassId} {h : XH} {H H' : Heap} {k : XK} {sz : Nat} (hP : XP β D cA h H) (hs : H'.size = H.size + 1) (hne : ∀ q : Nat, q < H.size → H'[q]? = H[q]?) (hi : va_at D xcl (β.1 + xM h, xe β cA (xnew h k sz) (xM h)) H') : XP β D cA (xnew h k sz) H' := by
  refine ⟨by rw [hs, hP.1]; show _ = β.1 + (xM h + 1); omega, fun j hjm ha => ?_⟩
  by_cases e : j = xM h
  · subst e
    exact hi
  · have hjm' : j < xM h := by have : j < xM h + 1 := hjm; omega
    have h1 : xK (xnew h k sz) j = xK h j := if_neg e
    have h2 : xR (xnew h k sz) j = xR h j := if_neg e
    have h3 : xS (xnew h k sz) j = xS h j := if_neg e
    rw [xe_eq h1 h2 h3]
    exact (hP.2 j hjm' (by rw [← h1]; exact ha)).kept (hne _ (by show β.1 + j < H.size; rw [hP.1]; omega))
theorem XF_push {β : XA} {s : State} {H H' : Heap} {locs : List Loc} (h : XF β s H locs) (hs : β.1 ≤ H.size) (hne : ∀ q : Nat, q < H.size → H'[q]? = H[q]?) : XF β s H' locs := ⟨fun q hq => (hne q (by omega)).trans (h.1 q hq), h.2⟩
/-- a cell alone -/
theorem XP_one {β : XA} {D : va_G} {cA : Nat → ClassId} {h : XH} {H : Heap} {i : Nat} {e : va_E} (hP : XP β D cA h H) (hi : i < xM h) (ha : xal (xK h i) = true) (he : xe β cA h i = e) : va_P D xcl [(β.1 + i, e)] H := by
  intro k q hk
  have hz : k < 1 := (List.getElem?_eq_some_iff.mp hk).1
  rw [show k = 0 by omega] at hk
  cases hk
  rw [← he]
  exact hP.2 i hi ha
theorem xe_obj {β : XA} {cA : Nat → ClassId} {h : XH} {i ci : Nat} (hk : xK h i = .inl ci) : xe β cA h i = .inr (ci, xfs β h i ci) := by unfold xe; rw [hk]
theorem xe_int {β : XA} {cA : Nat → ClassId} {h : XH} {i n : Nat} (hk : xK h i = .inr (0, n)) : xe β cA h i = .inl (cA 0, n, .inl (xS h i)) := by unfold xe; rw [hk]
theorem xe_ref {β : XA} {cA : Nat → ClassId} {h : XH} {i t n : Nat} (hk : xK h i = .inr (t + 1, n)) : xe β cA h i = .inl (cA (t + 1), n, .inr (.inr (.inr (.inr (fun j => (xR h i j).map (fun q => β.1 + q)))))) := by unfold xe; rw [hk]
theorem xfs_at (β : XA) (h : XH) (i ci : Nat) {k : Nat} (hk : k < xnf ci) : (xfs β h i ci)[k]? = some (if xisR (xty ci k) = true then va_rf ((xR h i k).map (fun q => β.1 + q)) else .int (xS h i k)) := by
  unfold xfs
  rw [List.getElem?_map, List.getElem?_range hk]
  rfl
theorem xfs_V (β : XA) (h : XH) (i ci : Nat) {k : Nat} (hk : k < xnf ci) : vp_V (xfs β h i ci) k = (if xisR (xty ci k) = true then va_rf ((xR h i k).map (fun q => β.1 + q)) else .int (xS h i k)) := by
  unfold vp_V
  rw [List.getD_eq_getElem?_getD, xfs_at β h i ci hk]
  rfl
theorem xfs_len (β : XA) (h : XH) (i ci : Nat) : (xfs β h i ci).length = xnf ci := by simp [xfs]
def xiN (f : XL → List XV → XH → Option (Nat × XL × List XV × XH)) : XI := fun L st h => match f L st h with
  | some o => .inl o
  | none => xbad
theorem XSnd_N {xm : Nat → XY} {scr : Nat × (Nat → Int32)} {Y : XY} {pc : Nat} {f : XL → List XV → XH → Option (Nat × XL × List XV × XH)} (hf : ∀ L st h pc' L' st' h', f L st h = some (pc', L', st', h') → xM h ≤ xM h' ∧ xZ h ≤ xZ h' ∧ XNx scr Y pc L st h pc' L' st' h') : XSnd xm scr Y pc (xiN f) := by
  intro L st h
  refine ⟨fun pc' L' st' h' e => hf L st h pc' L' st' h' ?_, fun _ _ _ _ e => ?_, fun _ e => ?_⟩
  · unfold xiN at e
    split at e
    · rename_i o ho
      cases e
      exact ho
    · cases e
  · unfold xiN at e
    split at e <;> cases e
  · unfold xiN at e
    split at e <;> cases e
/-- an instruction that leaves the cells -/
theorem XSnd_P {xm : Nat → XY} {scr : Nat × (Nat → Int32)} {Y : XY} {pc : Nat} {f : XL → List XV → XH → Option (Nat × XL × List XV × XH)} (hf : ∀ L st h pc' L' st' h', f L st h = some (pc', L', st', h') → h' = h ∧ XNx scr Y pc L st h pc' L' st' h) : XSnd xm scr Y pc (xiN f) :=
  XSnd_N fun L st h pc' L' st' h' e => by
    obtain ⟨rfl, hx⟩ := hf L st h pc' L' st' h' e
    exact ⟨Nat.le_refl _, Nat.le_refl _, hx⟩
