/-! 07: an array of arrays; calls; a run of the abstract machine is a run of the machine -/
def xnewI (h : XH) (K : Nat) : Nat → XH
  | 0 => h
  | j + 1 => xnew (xnewI h K j) (.inr (0, K)) K
theorem xnewI_M (h : XH) (K : Nat) : ∀ j, xM (xnewI h K j) = xM h + j
  | 0 => rfl
  | j + 1 => by
    show xM (xnewI h K j) + 1 = _
    rw [xnewI_M h K j]
    omega
theorem xnewI_Z (h : XH) (K : Nat) : ∀ j, xZ (xnewI h K j) = xZ h + j * K
  | 0 => by simp [xnewI]
  | j + 1 => by
    show xZ (xnewI h K j) + K = _
    rw [xnewI_Z h K j, Nat.add_mul]
    omega
theorem xnewI_lt (h : XH) (K : Nat) {i : Nat} (hi : i < xM h) : ∀ j, xK (xnewI h K j) i = xK h i ∧ xR (xnewI h K j) i = xR h i ∧ xS (xnewI h K j) i = xS h i
  | 0 => ⟨rfl, rfl, rfl⟩
  | j + 1 => by
    obtain ⟨h1, h2, h3⟩ := xnewI_lt h K hi j
    have hne : i ≠ xM (xnewI h K j) := by rw [xnewI_M]; omega
    exact ⟨(if_neg hne).trans h1, (if_neg hne).trans h2, (if_neg hne).trans h3⟩
theorem xnewI_in (h : XH) (K : Nat) {i : Nat} : ∀ j, i < j → xK (xnewI h K j) (xM h + i) = .inr (0, K) ∧ xS (xnewI h K j) (xM h + i) = fun _ => 0
  | j + 1, hi => by
    by_cases e : i = j
    · subst e
      have e2 : xM h + i = xM (xnewI h K i) := (xnewI_M h K i).symm
      exact ⟨if_pos e2, if_pos e2⟩
    · obtain ⟨h1, h2⟩ := xnewI_in h K (i := i) j (by omega)
      have hne : xM h + i ≠ xM (xnewI h K j) := by rw [xnewI_M]; omega
      exact ⟨(if_neg hne).trans h1, (if_neg hne).trans h2⟩
def xmnaH (h : XH) (N K : Nat) : XH := xnewI (xsetR (xnew h (.inr (3, N)) N) (xM h) (fun j => if j < N then some (xM h + 1 + j) else none)) K N
theorem xmnaH_M (h : XH) (N K : Nat) : xM (xmnaH h N K) = xM h + 1 + N := by
  unfold xmnaH
  rw [xnewI_M]
  rfl
theorem xmnaH_Z (h : XH) (N K : Nat) : xZ (xmnaH h N K) = xZ h + N + N * K := by
  unfold xmnaH
  rw [xnewI_Z]
  rfl
def x_mna (n : Nat) : XI := xiN fun L st h => match st with
  | .inl k :: .inl z :: st => if z < 0 ∨ k < 0 ∨ 1000 < z.toNatClampNeg ∨ 1000 < k.toNatClampNeg then none else some (n, L, .inr (some (some (xM h))) :: st, xmnaH h z.toNatClampNeg k.toNatClampNeg)
  | _ => none
set_option maxHeartbeats 1000000 in
theorem s_mna {xm : Nat → XY} {scr : Nat × (Nat → Int32)} {Y : XY} {pc : Nat} {idx : Nat} (hw : Cond.classLink Y.1.cls idx ("[" ++ (FieldType.array .int).toString) ∈ xtbl) (hw1 : Cond.arrayClass .int ∈ xtbl) (hd : decode Y.2.1 pc = .ok (.multianewarray idx 2, 4)) : XSnd xm scr Y pc (x_mna (pc + 4)) := by
  refine XSnd_N fun L st h pc1 L1 st1 h1 ee => ?_
  split at ee
  · split at ee
    · cases ee
    rename_i kz z st0 hc
    cases ee
    have hc1 : ¬ z < 0 := fun q => hc (Or.inl q)
    have hc2 : ¬ kz < 0 := fun q => hc (Or.inr (Or.inl q))
    have hc3 : z.toNatClampNeg ≤ 1000 := Nat.not_lt.mp fun q => hc (Or.inr (Or.inr (Or.inl q)))
    have hc4 : kz.toNatClampNeg ≤ 1000 := Nat.not_lt.mp fun q => hc (Or.inr (Or.inr (Or.inr q)))
    refine ⟨by rw [xmnaH_M]; omega, by rw [xmnaH_Z]; omega, fun p l e R s m args below meth c β D cA d m0 z0 Q X hm0 hz0 hmR hzR k H locs ls hP hF hl => ?_⟩
    obtain ⟨hx, hb, hml, hown, hts, hK, hnm, hbs, -⟩ := X
    rw [xmnaH_M] at hmR
    rw [xmnaH_Z] at hzR
    generalize hN : z.toNatClampNeg = N at *
    generalize hKz : kz.toNatClampNeg = K at *
    have hov : (Cond.arrayOver (.array .int)).before args s = true := hK.2 _ (List.mem_of_getElem? (i := 6) rfl)
    intro T hT Xs
    obtain ⟨vm₁, cB, comp, -, fA, fC, hO, -, X', step⟩ := Xs.multianewarray2F hx hown (hts _ hw) hov (hts _ hw1) (g := F0 m pc ls (.int kz :: .int z :: xst β st0)) rfl (by rw [hb]; exact hd) rfl hc1 hc2 (by rw [hN]; omega) (by rw [hKz]; show K * 4 ≤ _; omega) (by rw [hKz]; omega) rfl rfl (by rw [hN]; omega) (by rw [hN, hKz]; omega)
    rw [hN, hKz] at X' step
    have ec : cA 0 = comp := Option.some.inj ((hK.1.2 0 (cA 0, xaT 0) rfl).2.symm.trans fC)
    have eB : cA 3 = cB := Option.some.inj ((hK.1.2 3 (cA 3, xaT 3) rfl).2.symm.trans fA)
    subst ec
    subst eB
    generalize hFF : Jvm.Free.Multi.fill (T.setVm vm₁) (cA 3) (cA 0) N K (defaultValue .int) N = F at X' step
    have hTh : (T.setVm vm₁).heap = H := hT
    obtain ⟨f1, f2, -, -⟩ := Jvm.Free.Multi.fill_facts (T.setVm vm₁) (cA 3) (cA 0) N K (defaultValue .int) N
    rw [hFF, hTh] at f1 f2
    have hold : ∀ x : Nat, x < H.size → F.heap[x]? = H[x]? := fun x hx => by
      have := Jvm.Free.Multi.fill_old (T.setVm vm₁) (cA 3) (cA 0) N K (defaultValue .int) (a := x) (by rw [hTh]; exact hx) N
      rw [hFF, hTh] at this
      exact this
    have hrow : ∀ j : Nat, j < N → F.heap[H.size + 1 + j]? = some (vp_cell (cA 0) (K, .inl (fun _ => 0))) := fun j hj => by
      have := Jvm.Free.Multi.fill_inner (T.setVm vm₁) (cA 3) (cA 0) N K (defaultValue .int) N j hj
      rw [hFF, hTh] at this
      rw [this]
      congr 1
      exact arrV_new ..
    have hout : Jvm.Free.Multi.outerC (cA 3) N H.size N = vp_cell (cA 3) (N, .inr (.inr (.inr (.inr (fun i => if i < N then some (H.size + 1 + i) else none))))) := by
      rw [vp_cell_q]
      exact vr_outer (cA 3) N H.size N
    rw [hout] at f2
    have hsz : H.size = β.1 + xM h := hP.1
    have hPn : XP β D cA (xmnaH h N K) F.heap := by
      refine ⟨?_, fun i hi ha => ?_⟩
      · rw [xmnaH_M, f1, hsz]
        omega
      · rw [xmnaH_M] at hi
        by_cases h1 : i < xM h
        · have hne : i ≠ xM h := by omega
          obtain ⟨g1, g2, g3⟩ := xnewI_lt (xsetR (xnew h (.inr (3, N)) N) (xM h) (fun j => if j < N then some (xM h + 1 + j) else none)) K (i := i) (by show i < xM h + 1; omega) N
          have k1 : xK (xmnaH h N K) i = xK h i := g1.trans (if_neg hne)
          have k2 : xR (xmnaH h N K) i = xR h i := g2.trans ((if_neg hne).trans (if_neg hne))
          have k3 : xS (xmnaH h N K) i = xS h i := g3.trans (if_neg hne)
          rw [xe_eq k1 k2 k3]
          exact (hP.2 i h1 (by rw [← k1]; exact ha)).kept (hold _ (by show β.1 + i < H.size; omega))
        · by_cases h2 : i = xM h
          · subst h2
            obtain ⟨g1, g2, g3⟩ := xnewI_lt (xsetR (xnew h (.inr (3, N)) N) (xM h) (fun j => if j < N then some (xM h + 1 + j) else none)) K (i := xM h) (by show xM h < xM h + 1; omega) N
            have k1 : xK (xmnaH h N K) (xM h) = .inr (2 + 1, N) := g1.trans (if_pos rfl)
            have k2 : xR (xmnaH h N K) (xM h) = fun j => if j < N then some (xM h + 1 + j) else none := g2.trans (if_pos rfl)
            rw [xe_ref k1, k2]
            show F.heap[β.1 + xM h]? = some (vp_cell _ _)
            rw [← hsz, f2]
            have e8 : (fun i => if i < N then some (H.size + 1 + i) else none) = fun j => Option.map (fun q => β.1 + q) (if j < N then some (xM h + 1 + j) else none) := by
              funext j
              by_cases hj : j < N
              · simp only [hj, if_true, Option.map_some]
                congr 1
                omega
              · simp [hj]
            rw [e8]
          · obtain ⟨j, rfl⟩ : ∃ j, i = xM h + 1 + j := ⟨i - (xM h + 1), by omega⟩
            obtain ⟨g1, g2⟩ := xnewI_in (xsetR (xnew h (.inr (3, N)) N) (xM h) (fun j => if j < N then some (xM h + 1 + j) else none)) K (i := j) N (by omega)
            have k1 : xK (xmnaH h N K) (xM h + 1 + j) = .inr (0, K) := g1
            have k3 : xS (xmnaH h N K) (xM h + 1 + j) = fun _ => 0 := g2
            rw [xe_int k1, k3]
            have := hrow j (by omega)
            rw [hsz] at this
            show F.heap[β.1 + (xM h + 1 + j)]? = _
            rw [← this]
            congr 1
            omega
    have ecl : xM h - m0 + 1 + N = xM (xmnaH h N K) - m0 := by rw [xmnaH_M]; omega
    have esl : xZ h - z0 + N + N * K = xZ (xmnaH h N K) - z0 := by rw [xmnaH_Z]; omega
    rw [ecl, esl] at X'
    obtain ⟨t, a1, b1⟩ := k F.heap locs ls hPn (XF_push hF (by omega) hold) hl F rfl X'
    refine ⟨t, step t ?_, b1⟩
    have e9 : T.heap.size = β.1 + xM h := by rw [hT]; exact hsz
    rw [e9]
    exact a1
  · cases ee
theorem xblind {β : XA} {D : va_G} {cA : Nat → ClassId} {h : XH} {av : List Value} : FrameBlind (va_Pc av (XPre β D cA h)) := fun a U g mk q => ⟨q.1, q.2.1, XKn.moved (u := U) (U := U.calling g mk a) (State.WarmedH.refl U) q.2.2⟩
theorem xws_good {Y : XY} {args : Array Value} {s : State} (hts : ∀ w ∈ xtbl, w.before args s = true) (hc : Cond.code Y.1 Y.2.1 Y.2.2.1 Y.2.2.2 ∈ xtbl) : ∀ w ∈ XWs Y, ∀ (a' : Array Value) (U : State), s.WarmedH U.vm → w.before a' U = true := by
  intro w hw a' U hW
  have hw' : w ∈ xtbl := by
    rcases List.mem_cons.mp hw with rfl | h
    · exact hc
    · exact h
  exact word_at hW (good_of_word (List.all_eq_true.mp xtbl_good w hw')) (hts w hw')
/-- behind a call -/
theorem x_after {p : Program} {l : Launch} {e : Env} {R : Room} {s : State} {m : MethodId} {args : Array Value} {below : List Frame} {meth : Method} {c : Code} {Y : XY} {β : XA} {D : va_G} {cA : Nat → ClassId} {m0 z0 : Nat} {Q : State → Prop} {r : Option XV} {h h2 : XH} {pc pc' : Nat} {L : XL} {st st' : List XV} {H : Heap} {locs : List Loc} {ls : Array Slot} {a : Array Value}
    (hr : va_Run p l e R s m args below meth c H locs (xM h - m0) (xZ h - z0) (xM h2 - xM h) (xZ h2 - xZ h) (F0 m pc ls (xst β st)) (xst β st') (XQ β D cA r h2 a) (fun q => β.1 ≤ q)) (hpc : pc' = pc + 3) (hm0 : m0 ≤ xM h) (hz0 : z0 ≤ xZ h) (hm : xM h ≤ xM h2) (hz : xZ h ≤ xZ h2) (hF : XF β s H locs) (hl : lv_has ls Y.2.2.1 (xls β L))
    (k : XWk p l e R s m args below meth c Y β D cA m0 z0 Q pc' L (r.toList ++ st') h2) : W p l e R s m args below meth c H locs (xM h - m0) (xZ h - z0) Q (F0 m pc ls (xst β st)) := by
  subst hpc
  intro T hT X
  obtain ⟨v, st₀, t, T', L2, h0, X', hL, e1, e2, ⟨hv, hP2, hfr⟩, st9⟩ := hr T hT X
  have hv2 : v = r.map (xv β) := by
    injection hv
  have ecl : xM h - m0 + (xM h2 - xM h) = xM h2 - m0 := by omega
  have esl : xZ h - z0 + (xZ h2 - xZ h) = xZ h2 - z0 := by omega
  rw [ecl, esl] at X'
  obtain ⟨t2, a1, b1⟩ := k T'.heap (locs ++ L2) ls (by rw [e1]; exact hP2) ⟨fun q hq => by rw [e1, hfr q hq, h0]; exact hF.1 q hq, fun q hq => by
    rcases List.mem_append.mp hq with g | g
    · exact hF.2 q g
    · exact hL q g⟩ hl T' rfl X'
  refine ⟨t2, st9 t2 ?_, b1⟩
  have e5 : v.toList ++ xst β st' = xst β (r.toList ++ st') := by
    rw [hv2]
    cases r <;> rfl
  show Steps p.tables e below (T'.setTop { F0 m pc ls (xst β st) with pc := pc + 3, stack := v.toList ++ xst β st' }) t2
  rw [e5]
  exact a1
theorem xrev (β : XA) (st : List XV) (k : Nat) : xst β st = (xst β (st.take k).reverse).reverse ++ xst β (st.drop k) := by
  unfold xst
  rw [← List.map_reverse, List.reverse_reverse, ← List.map_append, List.take_append_drop]
theorem xas_len (β : XA) {st : List XV} {k : Nat} (hk : k ≤ st.length) : (xst β (st.take k).reverse).length = k := by
  unfold xst
  rw [List.length_map, List.length_reverse, List.length_take]
  omega
def x_inv (mid ci k n : Nat) : XI := fun _ st h => match st.drop k with
  | .inr (some (some i)) :: rest => if k ≤ st.length ∧ rest.length ≤ 8 ∧ i < xM h ∧ xK h i = .inl ci then .inr (.inl (mid, .inr (some (some i)) :: (st.take k).reverse, n, rest)) else xbad
  | _ => xbad
def x_invS (mid k n : Nat) : XI := fun _ st _ => if k ≤ st.length ∧ (st.drop k).length ≤ 8 then .inr (.inl (mid, (st.take k).reverse, n, st.drop k)) else xbad
/-- what a callee is: its record, and what the tables say of it -/
def XCal (xm : Nat → XY) (mid k nargs : Nat) : Prop := nargs ≤ (xm mid).2.2.1 ∧ (xm mid).2.2.1 ≤ 100 ∧ plainName (xm mid).1.cls = true ∧ (xm mid).1.name ≠ "law" ∧ Cond.code (xm mid).1 (xm mid).2.1 (xm mid).2.2.1 (xm mid).2.2.2 ∈ xtbl ∧ Cond.initialized (xm mid).1.cls ∈ xtbl ∧ ((xm mid).1.cls ≠ "java/lang/invoke/MethodHandle" ∧ (xm mid).1.cls ≠ "java/lang/invoke/VarHandle") ∧ (parseMethodDescriptor (xm mid).1.desc).map (fun d => d.parameters.length) = some k
theorem xcal_len {xm : Nat → XY} {mid k nargs : Nat} (hc : XCal xm mid k nargs) : ∀ sig, parseMethodDescriptor (xm mid).1.desc = some sig → k = sig.parameters.length := fun sig h => by
  have h2 := hc.2.2.2.2.2.2.2
  rw [h] at h2
  exact (Option.some.inj h2).symm
theorem XSnd_C {xm : Nat → XY} {scr : Nat × (Nat → Int32)} {Y : XY} {pc : Nat} {sem : XI} (h1 : ∀ L st h o, sem L st h = o → (∃ q, o = .inr (.inl q)) ∨ o = xbad) (h2 : ∀ L st h mid as pc' st', sem L st h = .inr (.inl (mid, as, pc', st')) → XCx xm scr Y pc L st h mid as pc' st') : XSnd xm scr Y pc sem := by
  intro L st h
  refine ⟨fun _ _ _ _ e => ?_, h2 L st h, fun _ e => ?_⟩
  · rcases h1 L st h _ e with ⟨q, hq⟩ | hq <;> cases hq
  · rcases h1 L st h _ e with ⟨q, hq⟩ | hq <;> cases hq
theorem x_inv_kind {mid ci k n : Nat} : ∀ L st h o, x_inv mid ci k n L st h = o → (∃ q, o = .inr (.inl q)) ∨ o = xbad := by
  intro L st h o e
  unfold x_inv at e
  split at e
  · split at e
    · exact Or.inl ⟨_, e.symm⟩
    · exact Or.inr e.symm
  · exact Or.inr e.symm
theorem x_invS_kind {mid k n : Nat} : ∀ L st h o, x_invS mid k n L st h = o → (∃ q, o = .inr (.inl q)) ∨ o = xbad := by
  intro L st h o e
  unfold x_invS at e
  split at e
  · exact Or.inl ⟨_, e.symm⟩
  · exact Or.inr e.symm
theorem x_recv {D : va_G} {cA : Nat → ClassId} {β : XA} {h : XH} {H : Heap} {s : State} {i ci : Nat} {C : String} {T : u_T} (hC : XCl ci C T) (hP : XP β D cA h H) (hK : XKn D cA s) (hi : i < xM h) (hk : xK h i = .inl ci) : ∃ cell : Cell, H[β.1 + i]? = some cell ∧ cell.vm.isStatics = false ∧ s.vm.findClass C = some cell.cls := by
  have hat := hP.2 i hi (by rw [hk]; rfl)
  rw [xe_obj hk] at hat
  obtain ⟨r, h1, cell, q1, q2, q3, q4⟩ := hat
  have hr : r = (C, T, xnf ci) := Option.some.inj (h1.symm.trans hC.1)
  subst hr
  exact ⟨cell, q1, by rw [q3]; rfl, by rw [q2]; exact (hK.1.1 ci _ hC.1).2.1⟩
theorem s_inv {xm : Nat → XY} {scr : Nat × (Nat → Int32)} {Y : XY} {pc : Nat} {mid ci k idx : Nat} {C : String} {T : u_T} (hC : XCl ci C T) (hc : XCal xm mid k (k + 1)) (hw : Cond.methodLink Y.1.cls idx (xm mid).1 ∈ xtbl) (hw1 : Cond.instanceMethod (xm mid).1 ∈ xtbl) (hw2 : Cond.selects C (xm mid).1 (xm mid).1 ∈ xtbl) (hd : decode Y.2.1 pc = .ok (.invokevirtual idx, 3)) : XSnd xm scr Y pc (x_inv mid ci k (pc + 3)) := by
  refine XSnd_C x_inv_kind fun L st h mid1 as pc1 st1 ee => ?_
  unfold x_inv at ee
  split at ee
  · split at ee
    · rename_i i rest hdr hi
      cases ee
      refine ⟨by show (st.take k).reverse.length + 1 ≤ _; rw [List.length_reverse, List.length_take]; have := hc.1; omega, hc.2.2.1, hc.2.2.2.1, fun p l e R s m args below meth c β D cA d m0 z0 Q r h2 X hm0 hz0 hmm hzz hmR hzR hM kk H locs ls hP hF hl => ?_⟩
      obtain ⟨hx, hb, hml, hown, hts, hK, hnm, hbs, hfr, hlo, -⟩ := X
      have hpre : ∀ U : State, U.heap = H → s.WarmedH U.vm → va_Pc (xst β (.inr (some (some i)) :: (st.take k).reverse)) (XPre β D cA h) (Value.ref (β.1 + i) :: xst β (st.take k).reverse).toArray U := fun U hU hW => ⟨rfl, by rw [hU]; exact hP, hK.moved hW⟩
      refine x_after (va_runV (C := C) (As := xst β (st.take k).reverse) (rest := xst β st1) (b := β.1 + i) (nL := Y.2.2.1) (Ts := xtbl) (own := Y.1.cls) (n := k) ⟨hx, hb, hml, hown, hts⟩ hM ⟨⟨rfl, rfl, hfr, by show 8 + ((xm mid).2.2.1 + 11) + 128 * (d + 1) ≤ _; have := hc.2.1; omega, xws_good hts hc.2.2.2.2.1, List.mem_cons_self, hts _ hc.2.2.2.2.1, hts _ hc.2.2.2.2.2.1, hc.2.2.2.2.2.2.1, xcal_len hc, hts _ hw⟩, hts _ hw1, hts _ hw2⟩ ⟨xblind, x_recv hC hP hK hi.2.2.1 hi.2.2.2, hpre⟩ rfl (xas_len β hi.1) hl.1 ?_ ?_ hd ⟨by omega, by omega⟩) rfl hm0 hz0 hmm hzz hF hl kk
      · show xst β st = _
        rw [xrev β st k, hdr]
        rfl
      · show 2 * 0 + _ ≤ 8
        rw [xst_sum]
        omega
    · cases ee
  · cases ee
theorem s_init {xm : Nat → XY} {scr : Nat × (Nat → Int32)} {Y : XY} {pc : Nat} {mid ci k idx : Nat} {C : String} {T : u_T} (hC : XCl ci C T) (hc : XCal xm mid k (k + 1)) (hini : (xm mid).1.name = "<init>") (hret : (xm mid).2.2.2 = none) (hw : Cond.methodLink Y.1.cls idx (xm mid).1 ∈ xtbl) (hw1 : Cond.instanceMethod (xm mid).1 ∈ xtbl) (hd : decode Y.2.1 pc = .ok (.invokespecial idx, 3)) : XSnd xm scr Y pc (x_inv mid ci k (pc + 3)) := by
  refine XSnd_C x_inv_kind fun L st h mid1 as pc1 st1 ee => ?_
  unfold x_inv at ee
  split at ee
  · split at ee
    · rename_i i rest hdr hi
      cases ee
      refine ⟨by show (st.take k).reverse.length + 1 ≤ _; rw [List.length_reverse, List.length_take]; have := hc.1; omega, hc.2.2.1, hc.2.2.2.1, fun p l e R s m args below meth c β D cA d m0 z0 Q r h2 X hm0 hz0 hmm hzz hmR hzR hM kk H locs ls hP hF hl => ?_⟩
      obtain ⟨hx, hb, hml, hown, hts, hK, hnm, hbs, hfr, hlo, -⟩ := X
      have hpre : ∀ U : State, U.heap = H → s.WarmedH U.vm → va_Pc (xst β (.inr (some (some i)) :: (st.take k).reverse)) (XPre β D cA h) (Value.ref (β.1 + i) :: xst β (st.take k).reverse).toArray U := fun U hU hW => ⟨rfl, by rw [hU]; exact hP, hK.moved hW⟩
      refine x_after (va_runI (As := xst β (st.take k).reverse) (rest := xst β st1) (b := β.1 + i) (nL := Y.2.2.1) (Ts := xtbl) (own := Y.1.cls) (n := k) ⟨hx, hb, hml, hown, hts⟩ hM ⟨⟨rfl, rfl, hfr, by show 8 + ((xm mid).2.2.1 + 11) + 128 * (d + 1) ≤ _; have := hc.2.1; omega, xws_good hts hc.2.2.2.2.1, by rw [← hret]; exact List.mem_cons_self, by rw [← hret]; exact hts _ hc.2.2.2.2.1, hts _ hc.2.2.2.2.2.1, hc.2.2.2.2.2.2.1, xcal_len hc, hts _ hw⟩, hini, hts _ hw1⟩ ⟨xblind, hpre⟩ rfl (xas_len β hi.1) hl.1 ?_ ?_ hd ⟨by omega, by omega⟩) rfl hm0 hz0 hmm hzz hF hl kk
      · show xst β st = _
        rw [xrev β st k, hdr]
        rfl
      · show 2 * 0 + _ ≤ 8
        rw [xst_sum]
        omega
    · cases ee
  · cases ee
theorem s_initN {xm : Nat → XY} {scr : Nat × (Nat → Int32)} {Y : XY} {pc : Nat} {mid ci k idx : Nat} {C : String} {T : u_T} (hC : XCl ci C T) (hc : XCal xm mid k (k + 1)) (hini : (xm mid).1.name = "<init>") (hret : (xm mid).2.2.2 = none) (hw : Cond.methodLinkNest Y.1.cls idx (xm mid).1 RX7 ∈ xnest) (hw1 : Cond.instanceMethod (xm mid).1 ∈ xtbl) (hd : decode Y.2.1 pc = .ok (.invokespecial idx, 3)) : XSnd xm scr Y pc (x_inv mid ci k (pc + 3)) := by
  refine XSnd_C x_inv_kind fun L st h mid1 as pc1 st1 ee => ?_
  unfold x_inv at ee
  split at ee
  · split at ee
    · rename_i i rest hdr hi
      cases ee
      refine ⟨by show (st.take k).reverse.length + 1 ≤ _; rw [List.length_reverse, List.length_take]; have := hc.1; omega, hc.2.2.1, hc.2.2.2.1, fun p l e R s m args below meth c β D cA d m0 z0 Q r h2 X hm0 hz0 hmm hzz hmR hzR hM kk H locs ls hP hF hl => ?_⟩
      obtain ⟨hx, hb, hml, hown, hts, hK, hnm, hbs, hfr, hlo, -⟩ := X
      have hpre : ∀ U : State, U.heap = H → s.WarmedH U.vm → va_Pc (xst β (.inr (some (some i)) :: (st.take k).reverse)) (XPre β D cA h) (Value.ref (β.1 + i) :: xst β (st.take k).reverse).toArray U := fun U hU hW => ⟨rfl, by rw [hU]; exact hP, hK.moved hW⟩
      refine x_after (va_runIN (host := RX7) (As := xst β (st.take k).reverse) (rest := xst β st1) (b := β.1 + i) (nL := Y.2.2.1) (Ts := xtbl) (own := Y.1.cls) (n := k) ⟨hx, hb, hml, hown, hts⟩ hM ⟨⟨⟨rfl, rfl, hfr, by show 8 + ((xm mid).2.2.1 + 11) + 128 * (d + 1) ≤ _; have := hc.2.1; omega, xws_good hts hc.2.2.2.2.1, by rw [← hret]; exact List.mem_cons_self⟩, by rw [← hret]; exact hts _ hc.2.2.2.2.1, hts _ hc.2.2.2.2.2.1, hc.2.2.2.2.2.2.1, xcal_len hc, va_Nw.use rfl (hK.2 _ hw)⟩, hini, hts _ hw1⟩ ⟨xblind, hpre⟩ rfl (xas_len β hi.1) hl.1 ?_ ?_ hd ⟨by omega, by omega⟩) rfl hm0 hz0 hmm hzz hF hl kk
      · show xst β st = _
        rw [xrev β st k, hdr]
        rfl
      · show 2 * 0 + _ ≤ 8
        rw [xst_sum]
        omega
    · cases ee
  · cases ee
theorem s_invS {xm : Nat → XY} {scr : Nat × (Nat → Int32)} {Y : XY} {pc : Nat} {mid k idx : Nat} (hc : XCal xm mid k k) (hw : Cond.methodLink Y.1.cls idx (xm mid).1 ∈ xtbl) (hw1 : Cond.static (xm mid).1 ∈ xtbl) (hd : decode Y.2.1 pc = .ok (.invokestatic idx, 3)) : XSnd xm scr Y pc (x_invS mid k (pc + 3)) := by
  refine XSnd_C x_invS_kind fun L st h mid1 as pc1 st1 ee => ?_
  unfold x_invS at ee
  split at ee
  · rename_i hi
    cases ee
    refine ⟨by rw [List.length_reverse, List.length_take]; have := hc.1; omega, hc.2.2.1, hc.2.2.2.1, fun p l e R s m args below meth c β D cA d m0 z0 Q r h2 X hm0 hz0 hmm hzz hmR hzR hM kk H locs ls hP hF hl => ?_⟩
    obtain ⟨hx, hb, hml, hown, hts, hK, hnm, hbs, hfr, hlo, -⟩ := X
    refine x_after (va_runS (As := xst β (st.take k).reverse) (rest := xst β (st.drop k)) (nL := Y.2.2.1) (Ts := xtbl) (own := Y.1.cls) (n := k) ⟨hx, hb, hml, hown, hts⟩ hM ⟨⟨rfl, rfl, hfr, by show 8 + ((xm mid).2.2.1 + 11) + 128 * (d + 1) ≤ _; have := hc.2.1; omega, xws_good hts hc.2.2.2.2.1, List.mem_cons_self, hts _ hc.2.2.2.2.1, hts _ hc.2.2.2.2.2.1, hc.2.2.2.2.2.2.1, xcal_len hc, hts _ hw⟩, hts _ hw1⟩ ⟨xblind, fun U hU hW => ⟨rfl, by rw [hU]; exact hP, hK.moved hW⟩⟩ rfl (xas_len β hi.1) hl.1 (xrev β st k) ?_ hd ⟨by omega, by omega⟩) rfl hm0 hz0 hmm hzz hF hl kk
    show 2 * 0 + _ ≤ 8
    rw [xst_sum]
    omega
  · cases ee
def xargsAt : Nat → List XV → XL
  | _, [] => []
  | i, v :: vs => (i, v) :: xargsAt (i + 1) vs
def xargs (as : List XV) : XL := xargsAt 0 as
theorem xargs_lv (β : XA) : ∀ (as : List XV) (i : Nat), lv_args i (xst β as) = xls β (xargsAt i as)
  | [], _ => rfl
  | v :: as, i => by
    show (i, xv β v) :: lv_args (if (xv β v).category = 2 then i + 2 else i + 1) (xst β as) = _
    rw [if_neg (by rw [xv_cat]; decide), xargs_lv β as (i + 1)]
    rfl
theorem xsl_len (β : XA) : ∀ (as : List XV), (lg_sl (xst β as)).length = as.length
  | [] => rfl
  | v :: as => by
    show ((if (xv β v).category = 2 then [Slot.val (xv β v), .second] else [.val (xv β v)]) ++ lg_sl (xst β as)).length = _
    rw [if_neg (by rw [xv_cat]; decide), List.length_append, xsl_len β as]
    simp
    omega
/-- a run of the abstract machine -/
def xrun (code : Nat → Nat → XI) : Nat → Nat → Nat → Nat → XL → List XV → XH → Option (Option XV × XH) := fun f => Nat.rec (fun _ _ _ _ _ _ => none)
  (fun _ ih d mid pc L st h => match code mid pc L st h with
    | .inl (pc', L', st', h') => ih d mid pc' L' st' h'
    | .inr (.inl (mid', as, pc', st')) => match d with
      | 0 => none
      | d' + 1 => match ih d' mid' 0 (xargs as) [] h with
        | none => none
        | some (r, h2) => ih d mid pc' L (r.toList ++ st') h2
    | .inr (.inr none) => none
    | .inr (.inr (some r)) => some (r, h)) f
theorem xrun_S (code : Nat → Nat → XI) (f d mid pc : Nat) (L : XL) (st : List XV) (h : XH) : xrun code (f + 1) d mid pc L st h = match code mid pc L st h with
    | .inl (pc', L', st', h') => xrun code f d mid pc' L' st' h'
    | .inr (.inl (mid', as, pc', st')) => match d with
      | 0 => none
      | d' + 1 => match xrun code f d' mid' 0 (xargs as) [] h with
        | none => none
        | some (r, h2) => xrun code f d mid pc' L (r.toList ++ st') h2
    | .inr (.inr none) => none
    | .inr (.inr (some r)) => some (r, h) := rfl
theorem xmet_of {l : Launch} {xm : Nat → XY} {scr : Nat × (Nat → Int32)} {mid d : Nat} {β : XA} {D : va_G} {cA : Nat → ClassId} {as : List XV} {h h' : XH} {r : Option XV} (hlen : as.length ≤ (xm mid).2.2.1) (hpl : plainName (xm mid).1.cls = true) (hlaw : (xm mid).1.name ≠ "law")
    (hw : ∀ (p : Program) (e : Env) (R : Room) (s : State) (m : MethodId) (args : Array Value) (below : List Frame) (meth : Method) (c : Code) (m0 z0 : Nat) (Q : State → Prop), XC scr p R s m args meth c (xm mid) β D cA d → m0 ≤ xM h → z0 ≤ xZ h → xM h' - m0 ≤ R.cells → xZ h' - z0 ≤ R.slots →
      (∀ (pc : Nat) (L : XL) (st : List XV), XRx (xm mid) pc st r → XWk p l e R s m args below meth c (xm mid) β D cA m0 z0 Q pc L st h') → XWk p l e R s m args below meth c (xm mid) β D cA m0 z0 Q 0 (xargs as) [] h) : XMet l (xm mid) d β D cA as h r h' := by
  refine Met.ofW (cc := (xm mid).2.1) (maxL := (xm mid).2.2.1) (ret := (xm mid).2.2.2) hpl rfl ?_
  intro p e s m args below meth c s₁ B hml hv
  obtain ⟨rfl, hP, hK⟩ := hv
  have hts0 := atoms_spec (ws := XWs (xm mid)) B.pre
  have hts : ∀ w ∈ xtbl, w.before (xst β as).toArray s = true := fun w hw => hts0 w (List.mem_cons_of_mem _ hw)
  have hown : s.vm.findClass (xm mid).1.cls = some m.cls := findClass_of_methodNamed B.named
  have hnm : meth.name = (xm mid).1.name := (name_of_methodNamed B.named B.method).1
  have hlocks := B.notSynchronized
  have hX : XC scr p (headSpec (XWs (xm mid)) (XRM d (xM h' - xM h) (xZ h' - xZ h))).room s m (xst β as).toArray meth c (xm mid) β D cA d :=
    ⟨B.exec, B.bytes, hml, hown, hts, hK, fun q => hnm.trans q, by rw [hP.1]; exact Nat.le_add_right _ _, Nat.le_refl _, Nat.le_refl _, fun q => absurd q hlaw⟩
  have hl := lv_entry (xst β as) (n := (xm mid).2.2.1) (by rw [xsl_len]; exact hlen)
  rw [xargs_lv] at hl
  rw [lg_entry_eq]
  have key := hw p e _ s m _ below meth c (xM h) (xZ h) (MQ below (XQ β D cA r h') (xst β as).toArray s (xM h' - xM h) (xZ h' - xZ h) (fun q => β.1 ≤ q)) hX (Nat.le_refl _) (Nat.le_refl _) (Nat.le_refl _) (Nat.le_refl _) ?_ s.heap [] _ hP ⟨fun _ _ => rfl, fun _ h => by cases h⟩ hl
  · rw [Nat.sub_self, Nat.sub_self] at key
    exact key
  · intro pc L st hr H locs ls hP' hF' hl'
    rcases hr with ⟨rfl, rfl, hd, hret⟩ | ⟨v, ty, rfl, rfl, hd, hret, hn⟩
    · exact W.vret B.exec B.bytes (B.returns.trans hret) (fun t ht hW => ⟨rfl, by rw [ht]; exact hP', fun q hq => by rw [ht]; exact hF'.1 q hq⟩) hF'.2 hd
    · exact W.zret B.exec B.bytes (B.returns.trans hret) hn (fun t ht hW => ⟨rfl, by rw [ht]; exact hP', fun q hq => by rw [ht]; exact hF'.1 q hq⟩) hF'.2 hd
theorem xsound {xm : Nat → XY} {scr : Nat × (Nat → Int32)} {code : Nat → Nat → XI} (hcode : ∀ mid pc, XSnd xm scr (xm mid) pc (code mid pc)) (l : Launch) : ∀ (f d mid pc : Nat) (L : XL) (st : List XV) (h : XH) (r : Option XV) (h' : XH), xrun code f d mid pc L st h = some (r, h') →
    xM h ≤ xM h' ∧ xZ h ≤ xZ h' ∧ ∀ (p : Program) (e : Env) (R : Room) (s : State) (m : MethodId) (args : Array Value) (below : List Frame) (meth : Method) (c : Code) (β : XA) (D : va_G) (cA : Nat → ClassId) (m0 z0 : Nat) (Q : State → Prop), XC scr p R s m args meth c (xm mid) β D cA d → m0 ≤ xM h → z0 ≤ xZ h → xM h' - m0 ≤ R.cells → xZ h' - z0 ≤ R.slots →
      (∀ (pc : Nat) (L : XL) (st : List XV), XRx (xm mid) pc st r → XWk p l e R s m args below meth c (xm mid) β D cA m0 z0 Q pc L st h') → XWk p l e R s m args below meth c (xm mid) β D cA m0 z0 Q pc L st h
  | 0, _, _, _, _, _, _, _, _, e => by cases e
  | f + 1, d, mid, pc, L, st, h, r, h', e => by
    rw [xrun_S] at e
    obtain ⟨hN, hCl, hRt⟩ := hcode mid pc L st h
    split at e
    · rename_i pc1 L1 st1 h1 hs
      obtain ⟨a1, a2, a3⟩ := hN _ _ _ _ hs
      obtain ⟨b1, b2, b3⟩ := xsound hcode l f _ _ _ _ _ _ _ _ e
      refine ⟨Nat.le_trans a1 b1, Nat.le_trans a2 b2, fun p e R s m args below meth c β D cA m0 z0 Q X hm0 hz0 hmR hzR K => ?_⟩
      exact a3 p l e R s m args below meth c β D cA d m0 z0 Q X hm0 hz0 (by omega) (by omega) (b3 p e R s m args below meth c β D cA m0 z0 Q X (by omega) (by omega) hmR hzR K)
    · rename_i mid1 as pc1 st1 hs
      obtain ⟨c1, c2, c3, c4⟩ := hCl _ _ _ _ hs
      split at e
      · cases e
      · rename_i d1
        split at e
        · cases e
        · rename_i r1 h1 hcall
          obtain ⟨a1, a2, a3⟩ := xsound hcode l f _ _ _ _ _ _ _ _ hcall
          obtain ⟨b1, b2, b3⟩ := xsound hcode l f _ _ _ _ _ _ _ _ e
          refine ⟨Nat.le_trans a1 b1, Nat.le_trans a2 b2, fun p e R s m args below meth c β D cA m0 z0 Q X hm0 hz0 hmR hzR K => ?_⟩
          exact c4 p l e R s m args below meth c β D cA d1 m0 z0 Q r1 h1 X hm0 hz0 a1 a2 (by omega) (by omega) (xmet_of c1 c2 c3 fun p e R s m args below meth c m0 z0 Q X q1 q2 q3 q4 K => a3 p e R s m args below meth c β D cA m0 z0 Q X q1 q2 q3 q4 K) (b3 p e R s m args below meth c β D cA m0 z0 Q X (by omega) (by omega) hmR hzR K)
    · cases e
    · rename_i r1 hs
      cases e
      have hr := hRt _ hs
      exact ⟨Nat.le_refl _, Nat.le_refl _, fun p e R s m args below meth c β D cA m0 z0 Q X hm0 hz0 hmR hzR K => K pc L st hr⟩
