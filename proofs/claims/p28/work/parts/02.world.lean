/-! the tables' words that stay; the abstract machine: cells by numbers, whole numbers, references by numbers -/
def xgd (w : Cond) : Bool := match w with
  | .privateMethod .. => false
  | .methodLinkNest .. => false
  | .arrayOver .. => false
  | _ => true
def xtbl : List Cond := k2_sels lw_privs ++ tables_1.filter xgd
set_option maxRecDepth 100000 in
theorem xtbl_good : xtbl.all goodWord = true := by decide +kernel
theorem xtbl_in {w : Cond} (h : w ∈ xtbl) : w ∈ lw_tbl := (List.mem_append.mp h).elim (fun h => List.mem_append_left _ h) (fun h => List.mem_append_right _ (List.mem_filter.mp h).1)
def xnf (ci : Nat) : Nat := match ci with
  | 0 => 12
  | 1 => 3
  | 2 => 2
  | 3 => 3
  | 4 => 4
  | 5 => 4
  | 6 => 13
  | 7 => 7
  | 8 => 22
  | _ => 0
def xty (ci : Nat) : Nat → FieldType := match ci with
  | 0 => tyX0
  | 1 => tyX1
  | 2 => tyX2
  | 3 => tyX3
  | 4 => tyX4
  | 5 => tyX5
  | 6 => tyX6
  | 7 => tyX7
  | 8 => tyX8
  | _ => fun _ => .int
def xisR (t : FieldType) : Bool := match t with
  | .object _ => true
  | .array _ => true
  | _ => false
def XCl (ci : Nat) (C : String) (T : u_T) : Prop := xcl[ci]? = some (C, T, xnf ci) ∧ (∀ w ∈ u_ws C T (xnf ci), w ∈ xtbl) ∧ (∀ k, k < xnf ci → parseFieldDescriptor (T k).2.2.1 = some (xty ci k)) ∧ (∀ a, a < xnf ci → ∀ b, b < xnf ci → a ≠ b → (T a).2.1 ≠ (T b).2.1)
theorem xin_of {ws : List Cond} (ps : List Nat) (h : ws = ps.filterMap (fun i => xtbl[i]?)) : ∀ w ∈ ws, w ∈ xtbl := by
  intro w hw
  rw [h] at hw
  obtain ⟨i, -, hi⟩ := List.mem_filterMap.mp hw
  exact List.mem_of_getElem? hi
theorem xC0 : XCl 0 RX0 TX0 := ⟨rfl, xin_of [187, 189, 191, 193, 195, 197, 199, 201, 203, 205, 207, 209] (by decide +kernel), tyX0_ok, nmX0⟩
theorem xC1 : XCl 1 RX1 TX1 := ⟨rfl, xin_of [299, 301, 303] (by decide +kernel), tyX1_ok, nmX1⟩
theorem xC2 : XCl 2 RX2 TX2 := ⟨rfl, xin_of [145, 147] (by decide +kernel), tyX2_ok, nmX2⟩
theorem xC3 : XCl 3 RX3 TX3 := ⟨rfl, xin_of [122, 124, 126] (by decide +kernel), tyX3_ok, nmX3⟩
theorem xC4 : XCl 4 RX4 TX4 := ⟨rfl, xin_of [279, 281, 283, 285] (by decide +kernel), tyX4_ok, nmX4⟩
theorem xC5 : XCl 5 RX5 TX5 := ⟨rfl, xin_of [100, 102, 104, 106] (by decide +kernel), tyX5_ok, nmX5⟩
theorem xC6 : XCl 6 RX6 TX6 := ⟨rfl, xin_of [237, 239, 241, 243, 245, 247, 249, 251, 253, 255, 257, 259, 261] (by decide +kernel), tyX6_ok, nmX6⟩
theorem xC7 : XCl 7 RX7 TX7 := ⟨rfl, xin_of [313, 315, 317, 319, 321, 323, 325] (by decide +kernel), tyX7_ok, nmX7⟩
theorem xC8 : XCl 8 RX8 TX8 := ⟨rfl, xin_of [779, 781, 783, 785, 787, 789, 791, 793, 795, 797, 799, 801, 803, 805, 807, 809, 811, 813, 815, 817, 819, 821] (by decide +kernel), tyX8_ok, nmX8⟩
/-! what isn't a word that stays -/
abbrev XV : Type := Int32 ⊕ Option (Option Nat)
abbrev XL : Type := List (Nat × XV)
abbrev XK : Type := Nat ⊕ (Nat × Nat)
abbrev XH : Type := Nat × Nat × (Nat → XK) × (Nat → Nat → Option Nat) × (Nat → Nat → Int32)
abbrev XA : Type := Nat × Nat
abbrev XO : Type := (Nat × XL × List XV × XH) ⊕ ((Nat × List XV × Nat × List XV) ⊕ Option (Option XV))
abbrev XI : Type := XL → List XV → XH → XO
abbrev XY : Type := MethodName × ByteArray × Nat × Option FieldType
def xM (h : XH) : Nat := h.1
def xZ (h : XH) : Nat := h.2.1
def xK (h : XH) : Nat → XK := h.2.2.1
def xR (h : XH) : Nat → Nat → Option Nat := h.2.2.2.1
def xS (h : XH) : Nat → Nat → Int32 := h.2.2.2.2
def xup {α : Type} (f : Nat → α) (i : Nat) (v : α) : Nat → α := fun a => if a = i then v else f a
def xsetS (h : XH) (i : Nat) (f : Nat → Int32) : XH := (h.1, h.2.1, h.2.2.1, h.2.2.2.1, xup h.2.2.2.2 i f)
def xsetR (h : XH) (i : Nat) (f : Nat → Option Nat) : XH := (h.1, h.2.1, h.2.2.1, xup h.2.2.2.1 i f, h.2.2.2.2)
def xnew (h : XH) (k : XK) (sz : Nat) : XH := (h.1 + 1, h.2.1 + sz, xup h.2.2.1 h.1 k, xup h.2.2.2.1 h.1 (fun _ => none), xup h.2.2.2.2 h.1 (fun _ => 0))
def xv (β : XA) (v : XV) : Value := match v with
  | .inl x => .int x
  | .inr none => .null
  | .inr (some none) => .ref β.2
  | .inr (some (some i)) => .ref (β.1 + i)
def xls (β : XA) (L : XL) : List (Nat × Value) := L.map fun q => (q.1, xv β q.2)
def xst (β : XA) (st : List XV) : List Value := st.map (xv β)
def xfs (β : XA) (h : XH) (i ci : Nat) : List Value := (List.range (xnf ci)).map fun k => if xisR (xty ci k) = true then va_rf ((xR h i k).map (fun q => β.1 + q)) else .int (xS h i k)
def xe (β : XA) (cA : Nat → ClassId) (h : XH) (i : Nat) : va_E := match xK h i with
  | .inl ci => .inr (ci, xfs β h i ci)
  | .inr (0, n) => .inl (cA 0, n, .inl (xS h i))
  | .inr (t + 1, n) => .inl (cA (t + 1), n, .inr (.inr (.inr (.inr (fun j => (xR h i j).map (fun q => β.1 + q))))))
def xal (k : XK) : Bool := match k with
  | .inl _ => true
  | .inr (t, _) => Nat.blt t 4
def XP (β : XA) (D : va_G) (cA : Nat → ClassId) (h : XH) (H : Heap) : Prop := H.size = β.1 + xM h ∧ ∀ i, i < xM h → xal (xK h i) = true → va_at D xcl (β.1 + i, xe β cA h i) H
def xaT (t : Nat) : FieldType := match t with
  | 0 => .int
  | 1 => .object "ActorTrees$Actor"
  | 2 => .object "ActorTrees$Handle"
  | _ => .array .int
def xtys (cA : Nat → ClassId) : List (ClassId × FieldType) := [(cA 0, xaT 0), (cA 1, xaT 1), (cA 2, xaT 2), (cA 3, xaT 3)]
def xnest : List Cond := [.methodLinkNest RX6 19 yX5_init RX7, .methodLinkNest RX6 43 yX0_init RX7, .methodLinkNest RX7 27 yX4_init RX7, .methodLinkNest RX7 38 yX1_init RX7, .arrayOver (xaT 1), .arrayOver (xaT 2), .arrayOver (xaT 3)]
def XNw (U : State) : Prop := ∀ w ∈ xnest, w.before #[] U = true
def XKn (D : va_G) (cA : Nat → ClassId) (U : State) : Prop := va_K D xcl (xtys cA) U ∧ XNw U
def XF (β : XA) (s : State) (H : Heap) (locs : List Loc) : Prop := (∀ q : Nat, q < β.1 → H[q]? = s.heap[q]?) ∧ ∀ q ∈ locs, β.1 ≤ q.base
theorem xAOA_moved {t : FieldType} {u U : State} (hvm : u.vm.Alike U.vm) (h : (Cond.arrayOver (.array t)).before #[] u = true) : (Cond.arrayOver (.array t)).before #[] U = true := by
  obtain ⟨comp, c, k, h1, h2, h3, h4, h5⟩ := arrayOverA_spec h
  obtain ⟨k', hk', he⟩ := hvm.2.2 _ _ h3
  have hi : (U.vm.classes.findIdx? fun (x : Class) => match x.kind with | .array component _ => component == comp | _ => false) = some c := by
    have e1 := va_idx_bare U.vm comp
    have e2 := va_idx_bare u.vm comp
    have hb : U.vm.bare = u.vm.bare := by first | exact hvm.bare_eq | exact hvm.bare_eq.symm
    rw [hb] at e1
    exact e1.symm.trans (e2.trans h2)
  have hkind : k'.kind = .array comp (.array t) := by rw [he]; exact h4
  have f1 : U.vm.findClass (FieldType.array t).toString = some comp := by rw [hvm.findClass]; exact h1
  have f2 : U.vm.findClass ("[" ++ (FieldType.array t).toString) = some c := by rw [hvm.findClass]; exact h5
  unfold Cond.before Cond.holds
  simp only [Cond.value]
  rw [f1, Option.bind_some]
  refine (congrArg (fun o : Option Nat => (o.bind (fun c => (U.vm.classes[c]?).map fun (k : Class) => match k.kind with | .array _ ty => decide (ty = FieldType.array t) && decide (U.vm.findClass ("[" ++ (FieldType.array t).toString) = some c) | _ => false) == some true)) hi).trans ?_
  simp [hk', hkind, f2]
theorem XNw.moved {u U : State} (hW : u.WarmedH U.vm) (h : XNw u) : XNw U := by
  intro w hw
  have h0 := h w hw
  simp only [xnest, List.mem_cons, List.not_mem_nil, or_false] at hw
  rcases hw with rfl | rfl | rfl | rfl | rfl | rfl | rfl
  · exact va_Nw.warmM hW h0
  · exact va_Nw.warmM hW h0
  · exact va_Nw.warmM hW h0
  · exact va_Nw.warmM hW h0
  · exact va_AO.moved hW.alike h0
  · exact va_AO.moved hW.alike h0
  · exact xAOA_moved hW.alike h0
theorem XKn.moved {D : va_G} {cA : Nat → ClassId} {u U : State} (hW : u.WarmedH U.vm) (h : XKn D cA u) : XKn D cA U := ⟨va_K.moved hW.alike h.1, h.2.moved hW⟩
