/-! 06: arrays, calls -/
def x_len (n : Nat) : XI := xiN fun L st h => match st with
  | .inr (some (some i)) :: st => if i < xM h then match xK h i with
    | .inr (t, N) => if t < 4 then some (n, L, .inl (Int32.ofNat N) :: st, h) else none
    | _ => none
    else none
  | _ => none
theorem xtys_at (cA : Nat → ClassId) {t : Nat} (ht : t < 4) : (xtys cA)[t]? = some (cA t, xaT t) := by
  rcases (show t = 0 ∨ t = 1 ∨ t = 2 ∨ t = 3 by omega) with rfl | rfl | rfl | rfl <;> rfl
theorem xal_arr {t N : Nat} (ht : t < 4) : xal (.inr (t, N)) = true := by
  show Nat.blt t 4 = true
  simpa [Nat.blt_eq] using ht
theorem s_len {xm : Nat → XY} {scr : Nat × (Nat → Int32)} {Y : XY} {pc : Nat} (hd : decode Y.2.1 pc = .ok (.arraylength, 1)) : XSnd xm scr Y pc (x_len (pc + 1)) := by
  refine XSnd_P fun L st h pc1 L1 st1 h1 ee => ?_
  split at ee
  · split at ee
    · split at ee
      · split at ee
        · rename_i i st0 hc _ t N hk ht
          cases ee
          refine ⟨rfl, fun p l e R s m args below meth c β D cA d m0 z0 Q X hm0 hz0 hmR hzR k H locs ls hP hF hl => ?_⟩
          obtain ⟨hx, hb, hml, hown, hts, hK, hnm, hbs, -⟩ := X
          rcases t with _ | t
          · exact va_alen hx hb hK.1 (XP_one hP hc (by rw [hk]; rfl) (xe_int hk)) 0 0 rfl (xtys_at cA ht) rfl hd (k H locs ls hP hF hl)
          · exact va_alen hx hb hK.1 (XP_one hP hc (by rw [hk]; exact xal_arr ht) (xe_ref hk)) 0 (t + 1) rfl (xtys_at cA ht) rfl hd (k H locs ls hP hF hl)
        · cases ee
      · cases ee
    · cases ee
  · cases ee
def x_iald (n : Nat) : XI := xiN fun L st h => match st with
  | .inl j :: .inr (some (some i)) :: st => if i < xM h then match xK h i with
    | .inr (0, N) => if j < 0 ∨ N ≤ j.toNatClampNeg then none else some (n, L, .inl (xS h i j.toNatClampNeg) :: st, h)
    | _ => none
    else none
  | _ => none
theorem s_iald {xm : Nat → XY} {scr : Nat × (Nat → Int32)} {Y : XY} {pc : Nat} (hd : decode Y.2.1 pc = .ok (.iaload, 1)) : XSnd xm scr Y pc (x_iald (pc + 1)) := by
  refine XSnd_P fun L st h pc1 L1 st1 h1 ee => ?_
  split at ee
  · split at ee
    · split at ee
      · split at ee
        · cases ee
        · rename_i j i st0 hc _ N hk hin
          cases ee
          refine ⟨rfl, fun p l e R s m args below meth c β D cA d m0 z0 Q X hm0 hz0 hmR hzR k H locs ls hP hF hl => ?_⟩
          obtain ⟨hx, hb, hml, hown, hts, hK, hnm, hbs, -⟩ := X
          exact va_iald hx hb hK.1 (XP_one hP hc (by rw [hk]; rfl) (xe_int hk)) 0 0 rfl (xtys_at cA (by decide)) hin hd (k H locs ls hP hF hl)
      · cases ee
    · cases ee
  · cases ee
def x_iast (n : Nat) : XI := xiN fun L st h => match st with
  | .inl x :: .inl j :: .inr (some (some i)) :: st => if i < xM h then match xK h i with
    | .inr (0, N) => if j < 0 ∨ N ≤ j.toNatClampNeg then none else some (n, L, st, xsetS h i (upd (xS h i) j.toNatClampNeg x))
    | _ => none
    else none
  | _ => none
theorem s_iast {xm : Nat → XY} {scr : Nat × (Nat → Int32)} {Y : XY} {pc : Nat} (hd : decode Y.2.1 pc = .ok (.iastore, 1)) : XSnd xm scr Y pc (x_iast (pc + 1)) := by
  refine XSnd_N fun L st h pc1 L1 st1 h1 ee => ?_
  split at ee
  · split at ee
    · split at ee
      · split at ee
        · cases ee
        · rename_i x j i st0 hc _ N hk hin
          cases ee
          refine ⟨Nat.le_refl _, Nat.le_refl _, fun p l e R s m args below meth c β D cA d m0 z0 Q X hm0 hz0 hmR hzR k H locs ls hP hF hl => ?_⟩
          obtain ⟨hx, hb, hml, hown, hts, hK, hnm, hbs, -⟩ := X
          have hat := hP.2 i hc (by rw [hk]; rfl)
          rw [xe_int hk] at hat
          refine W.iast (x := x) hx hb hat ((hK.1.2 0 _ (xtys_at cA (by decide))).1 N (fun j => .int (xS h i j))) (fun q => by cases q) (by show ¬ (j < 0 ∨ (arrV _ _ _).slots.size ≤ _); rw [arrV_size]; exact hin) rfl rfl hd fun H1 e z oq => ?_
          refine k H1 _ ls (XP_upd hP rfl z oq xsetS_off ?_) (XF_put hF oq) hl
          have hk2 : xK (xsetS h i (upd (xS h i) j.toNatClampNeg x)) i = .inr (0, N) := hk
          rw [xe_int hk2]
          have e2 : xS (xsetS h i (upd (xS h i) j.toNatClampNeg x)) i = upd (xS h i) j.toNatClampNeg x := if_pos rfl
          rw [e2]
          show H1[β.1 + i]? = some (vp_cell _ _)
          rw [e]
          show some ((arrV _ _ _).setSlot _ _) = _
          rw [vp_cell_i, arrV_store]
          congr 2
          funext q
          by_cases hq : q = j.toNatClampNeg
          · subst hq
            simp [updV, upd]
          · simp [updV, upd, hq]
      · cases ee
    · cases ee
  · cases ee
def x_aald (n : Nat) : XI := xiN fun L st h => match st with
  | .inl j :: .inr (some (some i)) :: st => if i < xM h then match xK h i with
    | .inr (t + 1, N) => if t < 3 then if j < 0 ∨ N ≤ j.toNatClampNeg then none else match xR h i j.toNatClampNeg with
      | some a => some (n, L, .inr (some (some a)) :: st, h)
      | none => none
      else none
    | _ => none
    else none
  | _ => none
theorem xaT_ref {t : Nat} : (xaT (t + 1)).isReference = true := by
  rcases t with _ | _ | t <;> rfl
theorem s_aald {xm : Nat → XY} {scr : Nat × (Nat → Int32)} {Y : XY} {pc : Nat} (hd : decode Y.2.1 pc = .ok (.aaload, 1)) : XSnd xm scr Y pc (x_aald (pc + 1)) := by
  refine XSnd_P fun L st h pc1 L1 st1 h1 ee => ?_
  split at ee
  · split at ee
    · split at ee
      · split at ee
        · split at ee
          · cases ee
          · split at ee
            · rename_i j i st0 hc _ t N hk ht hin _ a ha
              cases ee
              refine ⟨rfl, fun p l e R s m args below meth c β D cA d m0 z0 Q X hm0 hz0 hmR hzR k H locs ls hP hF hl => ?_⟩
              obtain ⟨hx, hb, hml, hown, hts, hK, hnm, hbs, -⟩ := X
              have hat := hP.2 i hc (by rw [hk]; exact xal_arr (by omega))
              rw [xe_ref hk] at hat
              have hlt : j.toNatClampNeg < N := Nat.not_le.mp fun q => hin (Or.inr q)
              refine W.aald (v := .ref (β.1 + a)) (ty := xaT (t + 1)) hx hb hat ((hK.1.2 (t + 1) _ (xtys_at cA (by omega))).1 N (fun j => va_rf ((xR h i j).map (fun q => β.1 + q)))) xaT_ref (fun q => by cases q) (by show ¬ (j < 0 ∨ (arrV _ _ _).slots.size ≤ _); rw [arrV_size]; exact hin) ?_ rfl rfl hd (k H locs ls hP hF hl)
              show (arrV _ _ _).slots[_]? = _
              rw [arrV_read _ _ hlt]
              show some (va_rf (Option.map _ (xR h i _))) = _
              rw [ha]
              rfl
            · cases ee
        · cases ee
      · cases ee
    · cases ee
  · cases ee
def x_aast (t ci n : Nat) : XI := xiN fun L st h => match st with
  | .inr (some (some a)) :: .inl j :: .inr (some (some i)) :: st => if i < xM h ∧ a < xM h ∧ xK h a = .inl ci then match xK h i with
    | .inr (t', N) => if t' = t + 1 then if j < 0 ∨ N ≤ j.toNatClampNeg then none else some (n, L, st, xsetR h i (xup (xR h i) j.toNatClampNeg (some a))) else none
    | _ => none
    else none
  | _ => none
theorem s_aast {xm : Nat → XY} {scr : Nat × (Nat → Int32)} {Y : XY} {pc : Nat} {t ci : Nat} {C : String} {T : u_T} (hC : XCl ci C T) (hT : xaT (t + 1) = .object C) (ht : t < 2) (hd : decode Y.2.1 pc = .ok (.aastore, 1)) : XSnd xm scr Y pc (x_aast t ci (pc + 1)) := by
  refine XSnd_N fun L st h pc1 L1 st1 h1 ee => ?_
  split at ee
  · split at ee
    · split at ee
      · split at ee
        · split at ee
          · cases ee
          · rename_i a j i st0 hc _ t1 N hk ht1 hin
            cases ee
            subst ht1
            refine ⟨Nat.le_refl _, Nat.le_refl _, fun p l e R s m args below meth c β D cA d m0 z0 Q X hm0 hz0 hmR hzR k H locs ls hP hF hl => ?_⟩
            obtain ⟨hx, hb, hml, hown, hts, hK, hnm, hbs, -⟩ := X
            have hat := hP.2 i hc.1 (by rw [hk]; exact xal_arr (by omega))
            rw [xe_ref hk] at hat
            have hva := hP.2 a hc.2.1 (by rw [hc.2.2]; rfl)
            rw [xe_obj hc.2.2] at hva
            have hlt : j.toNatClampNeg < N := Nat.not_le.mp fun q => hin (Or.inr q)
            have h0 : ¬ j < 0 := fun q => hin (Or.inl q)
            obtain ⟨r', hr', cellV, g1, g2, g3, -⟩ := hva
            have hcls := (hK.1.1 ci _ hC.1).2
            have htys : (xtys cA)[t + 1]? = some (cA (t + 1), .object C) := by rw [← hT]; exact xtys_at cA (by omega)
            obtain ⟨kA, comp, k1, k2, k3, -⟩ := (hK.1.2 (t + 1) _ htys).2
            have hcomp : comp = D.1 ci := Option.some.inj (k3.symm.trans hcls.1)
            subst hcomp
            obtain ⟨kC, hkC, -⟩ := hcls.2
            refine W.aast hx hb hat (fun q h => by cases h) (fun h => by cases h) k1 k2 rfl hkC ⟨h0, by show _ < (arrV _ _ _).slots.size; rw [arrV_size]; exact hlt⟩ g1 (fun q h => by rw [g3] at h; cases h) (by rw [g2]; exact hkC) (by rw [g2]; exact va_assign hcls) rfl rfl hd fun H1 e z oq => ?_
            refine k H1 _ ls (XP_upd hP rfl z oq xsetR_off ?_) (XF_put hF oq) hl
            have hk2 : xK (xsetR h i (xup (xR h i) j.toNatClampNeg (some a))) i = .inr (t + 1, N) := hk
            rw [xe_ref hk2]
            have e2 : xR (xsetR h i (xup (xR h i) j.toNatClampNeg (some a))) i = xup (xR h i) j.toNatClampNeg (some a) := if_pos rfl
            rw [e2]
            show H1[β.1 + i]? = some (vp_cell _ _)
            rw [e]
            show some ((arrV _ _ _).setSlot _ _) = _
            rw [vp_cell_q, arrV_store]
            congr 2
            funext q
            by_cases hq : q = j.toNatClampNeg
            · subst hq
              simp [updV, xup, va_rf]
            · simp [updV, xup, hq]
        · cases ee
      · cases ee
    · cases ee
  · cases ee
theorem x_copyK {p : Program} {l : Launch} {e : Env} {R : Room} {s : State} {m : MethodId} {args : Array Value} {below : List Frame} {meth : Method} {c : Code} {H : Heap} {locs : List Loc} {cells slots : Nat} {Q : State → Prop} {cc : ByteArray} {pc : Nat} {ls : Array Slot} {rest : List Value} {a a0 : Nat} (hexec : p.tables.exec = Jvm.exec) (hb : c.code = cc) (hml : c.maxLocals = ls.size) {own : String} {index : Nat} (hown : s.vm.findClass own = some m.cls) (hlink : (Cond.methodLink own index arraycopyName).before args s = true) (hnat : (Cond.native arraycopyName).before args s = true) (hstat : (Cond.static arraycopyName).before args s = true) (hini : (Cond.initialized "java/lang/System").before args s = true)
    {c0 : ClassId} {n0 n1 : Nat} {f g : Nat → Int32} (hc0 : H[a0]? = some (vp_cell c0 (n0, .inl f))) (hc1 : H[a]? = some (vp_cell c0 (n1, .inl g))) (hA : ArrOfT s c0 .int)
    {sp dp n : Int32} (h1 : ¬ sp < 0) (h2 : ¬ dp < 0) (h3 : ¬ n < 0) (h4 : sp.toNatClampNeg + n.toNatClampNeg ≤ n0) (h5 : dp.toNatClampNeg + n.toNatClampNeg ≤ n1)
    (hframes : 1 ≤ R.frames) (hlocals : (rest.map fun v => v.category).sum + (nativeFrameWords "java/lang/System" "arraycopy" 5 + 11) ≤ R.locals) (hdg : decode cc pc = .ok (.invokestatic index, 3))
    (kk : ∀ (H1 : Heap) (locs1 : List Loc), H1[a]? = some (vp_cell c0 (n1, .inl (va_cpy f g sp.toNatClampNeg dp.toNatClampNeg n.toNatClampNeg))) → H1.size = H.size → (∀ q : Nat, q ≠ a → H1[q]? = H[q]?) → (∀ q ∈ locs1, q ∈ locs ∨ q.base = a) → W p l e R s m args below meth c H1 locs1 cells slots Q (F0 m (pc + 3) ls rest)) : W p l e R s m args below meth c H locs cells slots Q (F0 m pc ls (.int n :: .int dp :: .ref a :: .int sp :: .ref a0 :: rest)) := by
  have nn : ∀ z : Int32, ¬ z < 0 → z.toInt = (z.toNatClampNeg : Int) := by
    intro z hz
    have hz0 : (0 : Int) ≤ z.toInt := by
      have := Int32.not_lt.mp hz
      simpa using Int32.le_iff_toInt_le.mp this
    show z.toInt = ((z.toInt.toNat : Nat) : Int)
    omega
  intro T hT X
  obtain ⟨-, k0, hk0, cm0, hkk0⟩ := hA n0 (fun j => .int (f j))
  obtain ⟨-, k1, hk1, cm1, hkk1⟩ := hA n1 (fun j => .int (g j))
  obtain ⟨vm', X', step⟩ := X.arraycopy hexec hown hlink hnat hstat hini (src := a0) (dst := a) (cs := vp_cell c0 (n0, .inl f)) (cd := vp_cell c0 (n1, .inl g)) (srcPos := sp) (destPos := dp) (n := n) (by rw [hT]; exact hc0) (by rw [hT]; exact hc1)
    (fun _ h => by cases h) (fun _ h => by cases h) (fun h => by cases h) (fun h => by cases h) hk0 hk1 hkk0 hkk1 (by simp [refKind]) h1 h2 h3
    (by rw [nn sp h1, nn n h3]; show ¬ _ > ((arrV c0 n0 (fun j => .int (f j))).slots.size : Int); rw [arrV_size]; omega)
    (by rw [nn dp h2, nn n h3]; show ¬ _ > ((arrV c0 n1 (fun j => .int (g j))).slots.size : Int); rw [arrV_size]; omega)
    (fun vm₁ _ i hi => by
      have e : (vp_cell c0 (n0, .inl f)).slots.getD (sp.toNatClampNeg + i) .null = .int (f (sp.toNatClampNeg + i)) := by
        show (arrV c0 n0 (fun j => .int (f j))).slots.getD _ _ = _
        rw [Array.getD_eq_getD_getElem?, arrV_read _ _ (by omega)]
        rfl
      refine ⟨?_, ?_⟩
      · rw [e]
        rfl
      · rw [e]
        exact trivial)
    (g := F0 m pc ls (.int n :: .int dp :: .ref a :: .int sp :: .ref a0 :: rest)) rfl (by rw [hml]) (rest := rest) rfl (by rw [hb]; exact hdg) hframes (by show 2 * 0 + _ + _ ≤ _; omega)
  have e1 : copied (vp_cell c0 (n0, .inl f)) (vp_cell c0 (n1, .inl g)) sp dp n = vp_cell c0 (n1, .inl (va_cpy f g sp.toNatClampNeg dp.toNatClampNeg n.toNatClampNeg)) := va_copied (fun z => .int z) c0 c0 f g h4
  rw [e1] at X' step
  have hl : a < H.size := (Array.getElem?_eq_some_iff.mp hc1).1
  have hheap : ((T.setVm vm').setCell a (vp_cell c0 (n1, .inl (va_cpy f g sp.toNatClampNeg dp.toNatClampNeg n.toNatClampNeg)))).heap = H.setIfInBounds a (vp_cell c0 (n1, .inl (va_cpy f g sp.toNatClampNeg dp.toNatClampNeg n.toNatClampNeg))) := by rw [← hT]; rfl
  obtain ⟨t, a1, b1⟩ := kk _ _ (show (H.setIfInBounds a _)[a]? = some _ by simp [Array.getElem?_setIfInBounds, hl]) (by simp) (fun q hq => by simp [Array.getElem?_setIfInBounds, Ne.symm hq]) (fun q hq => by
    rcases List.mem_append.mp hq with h | h
    · exact Or.inl h
    · obtain ⟨z, -, hz⟩ := List.mem_map.mp h
      rw [← hz]
      exact Or.inr rfl) _ hheap X'
  exact ⟨t, step t a1, b1⟩
def x_copy (n : Nat) : XI := xiN fun L st h => match st with
  | .inl len :: .inl dp :: .inr (some (some b)) :: .inl sp :: .inr (some (some a)) :: st => if a < xM h ∧ b < xM h ∧ st.length ≤ 8 then match xK h a, xK h b with
    | .inr (0, N), .inr (0, M) => if sp < 0 ∨ dp < 0 ∨ len < 0 ∨ N < sp.toNatClampNeg + len.toNatClampNeg ∨ M < dp.toNatClampNeg + len.toNatClampNeg then none
      else some (n, L, st, xsetS h b (va_cpy (xS h a) (xS h b) sp.toNatClampNeg dp.toNatClampNeg len.toNatClampNeg))
    | _, _ => none
    else none
  | _ => none
theorem s_copy {xm : Nat → XY} {scr : Nat × (Nat → Int32)} {Y : XY} {pc : Nat} {idx : Nat} (hw : Cond.methodLink Y.1.cls idx arraycopyName ∈ xtbl) (hw1 : Cond.native arraycopyName ∈ xtbl) (hw2 : Cond.static arraycopyName ∈ xtbl) (hw3 : Cond.initialized "java/lang/System" ∈ xtbl) (hd : decode Y.2.1 pc = .ok (.invokestatic idx, 3)) : XSnd xm scr Y pc (x_copy (pc + 3)) := by
  refine XSnd_N fun L st h pc1 L1 st1 h1 ee => ?_
  split at ee
  · split at ee
    · split at ee
      · split at ee
        · cases ee
        · rename_i len dp b sp a st0 hc _ _ N M hka hkb hin
          cases ee
          refine ⟨Nat.le_refl _, Nat.le_refl _, fun p l e R s m args below meth c β D cA d m0 z0 Q X hm0 hz0 hmR hzR k H locs ls hP hF hl => ?_⟩
          obtain ⟨hx, hb, hml, hown, hts, hK, hnm, hbs, hfr, hlo, -⟩ := X
          have hat := hP.2 a hc.1 (by rw [hka]; rfl)
          rw [xe_int hka] at hat
          have hbt := hP.2 b hc.2.1 (by rw [hkb]; rfl)
          rw [xe_int hkb] at hbt
          have hin1 : ¬ sp < 0 := fun q => hin (Or.inl q)
          have hin2 : ¬ dp < 0 := fun q => hin (Or.inr (Or.inl q))
          have hin3 : ¬ len < 0 := fun q => hin (Or.inr (Or.inr (Or.inl q)))
          have hin4 : sp.toNatClampNeg + len.toNatClampNeg ≤ N := Nat.not_lt.mp fun q => hin (Or.inr (Or.inr (Or.inr (Or.inl q))))
          have hin5 : dp.toNatClampNeg + len.toNatClampNeg ≤ M := Nat.not_lt.mp fun q => hin (Or.inr (Or.inr (Or.inr (Or.inr q))))
          have hnw : nativeFrameWords "java/lang/System" "arraycopy" 5 = 7 := by decide +kernel
          refine x_copyK hx hb (hml.trans hl.1.symm) hown (hts _ hw) (hts _ hw1) (hts _ hw2) (hts _ hw3) hat hbt (hK.1.2 0 _ (xtys_at cA (by decide))).1 hin1 hin2 hin3 hin4 hin5 (by omega) (by rw [hnw]; exact Nat.le_trans (Nat.add_le_add_right (Nat.le_of_eq (xst_sum β st1)) _) (by omega)) hd fun H1 locs1 e z oq hlc => ?_
          refine k H1 _ ls (XP_upd hP rfl z oq xsetS_off ?_) ⟨fun q hq => (oq q (by omega)).trans (hF.1 q hq), fun q hq => ?_⟩ hl
          · have hk2 : xK (xsetS h b (va_cpy (xS h a) (xS h b) sp.toNatClampNeg dp.toNatClampNeg len.toNatClampNeg)) b = .inr (0, M) := hkb
            rw [xe_int hk2]
            have e2 : xS (xsetS h b (va_cpy (xS h a) (xS h b) sp.toNatClampNeg dp.toNatClampNeg len.toNatClampNeg)) b = va_cpy (xS h a) (xS h b) sp.toNatClampNeg dp.toNatClampNeg len.toNatClampNeg := if_pos rfl
            rw [e2]
            exact e
          · rcases hlc q hq with g | g
            · exact hF.2 q g
            · rw [g]
              exact Nat.le_add_right _ _
      · cases ee
    · cases ee
  · cases ee
def x_obj (n : Nat) : XI := xiN fun L st h => match st with
  | .inr (some (some _)) :: st => if st.length ≤ 8 then some (n, L, st, h) else none
  | _ => none
theorem s_obj {xm : Nat → XY} {scr : Nat × (Nat → Int32)} {Y : XY} {pc : Nat} {idx : Nat} (hw : Cond.methodLink Y.1.cls idx objectInit ∈ xtbl) (hw1 : Cond.instanceMethod objectInit ∈ xtbl) (hw2 : Cond.code objectInit ⟨#[0xb1]⟩ 1 none ∈ xtbl) (hd : decode Y.2.1 pc = .ok (.invokespecial idx, 3)) : XSnd xm scr Y pc (x_obj (pc + 3)) := by
  refine XSnd_P fun L st h pc1 L1 st1 h1 ee => ?_
  split at ee
  · split at ee
    · rename_i i st0 hc
      cases ee
      refine ⟨rfl, fun p l e R s m args below meth c β D cA d m0 z0 Q X hm0 hz0 hmR hzR k H locs ls hP hF hl => ?_⟩
      obtain ⟨hx, hb, hml, hown, hts, hK, hnm, hbs, hfr, hlo, -⟩ := X
      refine W.objInit (a := β.1 + i) (rest := xst β st1) hx hb hown (hts _ hw) (hts _ hw1) (hts _ hw2) rfl (by rw [hml]; exact hl.1) rfl hd (by omega) (by show 2 * 0 + _ + _ ≤ _; rw [xst_sum β st1]; omega) (k H locs ls hP hF hl)
    · cases ee
  · cases ee
def x_sld (scr : Nat × (Nat → Int32)) (n : Nat) : XI := xiN fun L st h => match st with
  | .inl j :: .inr (some none) :: st => if j < 0 ∨ scr.1 ≤ j.toNatClampNeg then none else some (n, L, .inl (scr.2 j.toNatClampNeg) :: st, h)
  | _ => none
theorem s_sld {xm : Nat → XY} {scr : Nat × (Nat → Int32)} {Y : XY} {pc : Nat} (hY : Y.1.name = "law") (hd : decode Y.2.1 pc = .ok (.iaload, 1)) : XSnd xm scr Y pc (x_sld scr (pc + 1)) := by
  refine XSnd_P fun L st h pc1 L1 st1 h1 ee => ?_
  split at ee
  · split at ee
    · cases ee
    · rename_i j st0 hin
      cases ee
      refine ⟨rfl, fun p l e R s m args below meth c β D cA d m0 z0 Q X hm0 hz0 hmR hzR k H locs ls hP hF hl => ?_⟩
      obtain ⟨hx, hb, hml, hown, hts, hK, hnm, hbs, hfr, hlo, hX⟩ := X
      obtain ⟨hX1, hX2⟩ := hX hY
      obtain ⟨sc, g1, g2, g3, g4, g5⟩ := hX1
      have hlt : j.toNatClampNeg < scr.1 := Nat.not_le.mp fun q => hin (Or.inr q)
      exact W.iald (v := .int (scr.2 j.toNatClampNeg)) (a := β.2) hx hb (by rw [hF.1 β.2 hX2]; exact g1) g2 g3 (by rw [g4]; exact hin) (g5 _ hlt) rfl rfl hd (k H locs ls hP hF hl)
  · cases ee
def x_slen (scr : Nat × (Nat → Int32)) (n : Nat) : XI := xiN fun L st h => match st with
  | .inr (some none) :: st => some (n, L, .inl (Int32.ofNat scr.1) :: st, h)
  | _ => none
theorem s_slen {xm : Nat → XY} {scr : Nat × (Nat → Int32)} {Y : XY} {pc : Nat} (hY : Y.1.name = "law") (hd : decode Y.2.1 pc = .ok (.arraylength, 1)) : XSnd xm scr Y pc (x_slen scr (pc + 1)) := by
  refine XSnd_P fun L st h pc1 L1 st1 h1 ee => ?_
  split at ee
  · cases ee
    refine ⟨rfl, fun p l e R s m args below meth c β D cA d m0 z0 Q X hm0 hz0 hmR hzR k H locs ls hP hF hl => ?_⟩
    obtain ⟨hx, hb, hml, hown, hts, hK, hnm, hbs, hfr, hlo, hX⟩ := X
    obtain ⟨hX1, hX2⟩ := hX hY
    obtain ⟨sc, g1, g2, g3, g4, g5⟩ := hX1
    exact W.alen (n := Int32.ofNat scr.1) (a := β.2) hx hb (by rw [hF.1 β.2 hX2]; exact g1) g2 (by rw [g4] <;> rfl) rfl rfl hd (k H locs ls hP hF hl)
  · cases ee
