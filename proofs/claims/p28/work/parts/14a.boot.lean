/-! 14: the makings, run by the kernel -/
def I0 : Mem := fun i f => if i = 698 then (if f = 928 then -1 else if f = 929 then 1 else 0) else if i = 1 ∨ i = 169 ∨ i = 337 ∨ i = 505 then (if f = 5 then -1 else if f = 9 then 1 else 0) else 0
def c0 : Nat × (Nat → Int32) := (0, fun _ => 0)
theorem xcode_c (scr : Nat × (Nat → Int32)) (mid : Nat) (h : mid < 190) : xcode scr mid = xcode c0 mid := by
  unfold xcode
  refine ite_congr rfl (fun _ => ?_) (fun _ => rfl)
  repeat (refine ite_congr rfl (fun _ => rfl) (fun _ => ?_))
  omega
def xcode1 (mid : Nat) : Nat → XI := if mid < 190 then xcode c0 mid else fun _ _ _ _ => xbad
theorem xcode1_ok (scr : Nat × (Nat → Int32)) (mid pc : Nat) : XSnd xm scr (xm mid) pc (xcode1 mid pc) := by
  unfold xcode1
  split
  · rename_i h
    rw [← xcode_c scr mid h]
    exact xcode_ok scr mid pc
  · exact XSnd_bad
def xcall1 (code : Nat → Nat → XI) (mid pc : Nat) (L : XL) (st : List XV) (h : XH) (mid1 : Nat) (as : List XV) (pc1 : Nat) (st1 : List XV) : Bool := match code mid pc L st h with
  | .inr (.inl (a, b, c, d)) => decide (a = mid1) && (decide (b = as) && (decide (c = pc1) && decide (d = st1)))
  | _ => false
theorem xcall1_of {code : Nat → Nat → XI} {mid pc : Nat} {L : XL} {st : List XV} {h : XH} {mid1 : Nat} {as : List XV} {pc1 : Nat} {st1 : List XV} (hs : xcall1 code mid pc L st h mid1 as pc1 st1 = true) : code mid pc L st h = .inr (.inl (mid1, as, pc1, st1)) := by
  unfold xcall1 at hs
  split at hs
  · rename_i a b c d hq
    simp only [Bool.and_eq_true, decide_eq_true_eq] at hs
    obtain ⟨rfl, rfl, rfl, rfl⟩ := hs
    exact hq
  · cases hs
def xret1 (code : Nat → Nat → XI) (mid pc : Nat) (L : XL) (st : List XV) (h : XH) : Option (Option XV) := match code mid pc L st h with
  | .inr (.inr (some r)) => some r
  | _ => none
theorem XOK_step1 {scr : Nat × (Nat → Int32)} {d mid pc pc1 : Nat} {L L1 : XL} {st st1 : List XV} {h h1 h' : XH} {r : Option XV} (hs : xcode1 mid pc L st h = .inl (pc1, L1, st1, h1)) (k : XOK scr d mid pc1 L1 st1 h1 r h') : XOK scr d mid pc L st h r h' := by
  obtain ⟨a1, a2, a3⟩ := (xcode1_ok scr mid pc L st h).1 _ _ _ _ hs
  obtain ⟨b1, b2, b3⟩ := k
  refine ⟨Nat.le_trans a1 b1, Nat.le_trans a2 b2, fun l p e R s m args below meth c β D cA m0 z0 Q X hm0 hz0 hmR hzR K => ?_⟩
  exact a3 p l e R s m args below meth c β D cA d m0 z0 Q X hm0 hz0 (by omega) (by omega) (b3 l p e R s m args below meth c β D cA m0 z0 Q X (by omega) (by omega) hmR hzR K)
theorem XOK_call1 {scr : Nat × (Nat → Int32)} {d mid pc mid1 pc1 : Nat} {as : List XV} {L : XL} {st st1 : List XV} {h h1 h' : XH} {r r1 : Option XV} (hs2 : xcode1 mid pc L st h = .inr (.inl (mid1, as, pc1, st1))) (hc : XOK scr d mid1 0 (xargs as) [] h r1 h1) (k : XOK scr (d + 1) mid pc1 L (r1.toList ++ st1) h1 r h') : XOK scr (d + 1) mid pc L st h r h' := by
  obtain ⟨c1, c2, c3, c4⟩ := (xcode1_ok scr mid pc L st h).2.1 _ _ _ _ hs2
  obtain ⟨a1, a2, a3⟩ := hc
  obtain ⟨b1, b2, b3⟩ := k
  refine ⟨Nat.le_trans a1 b1, Nat.le_trans a2 b2, fun l p e R s m args below meth c β D cA m0 z0 Q X hm0 hz0 hmR hzR K => ?_⟩
  exact c4 p l e R s m args below meth c β D cA d m0 z0 Q r1 h1 X hm0 hz0 a1 a2 (by omega) (by omega) (xmet_of c1 c2 c3 fun p e R s m args below meth c m0 z0 Q X q1 q2 q3 q4 K => a3 l p e R s m args below meth c β D cA m0 z0 Q X q1 q2 q3 q4 K) (b3 l p e R s m args below meth c β D cA m0 z0 Q X (by omega) (by omega) hmR hzR K)
theorem XOK_ret1 {scr : Nat × (Nat → Int32)} {d mid pc : Nat} {L : XL} {st : List XV} {h : XH} {r : Option XV} (hs : decide (xret1 xcode1 mid pc L st h = some r) = true) : XOK scr d mid pc L st h r h := by
  have hs2 : xcode1 mid pc L st h = .inr (.inr (some r)) := by
    have hs := of_decide_eq_true hs
    unfold xret1 at hs
    split at hs
    · rename_i q hq
      rw [hq, Option.some.inj hs]
    · cases hs
  exact ⟨Nat.le_refl _, Nat.le_refl _, fun l p e R s m args below meth c β D cA m0 z0 Q X hm0 hz0 hmR hzR K => K pc L st ((xcode1_ok scr mid pc L st h).2.2 _ hs2)⟩
theorem XOK_run1 {scr : Nat × (Nat → Int32)} {f d mid pc : Nat} {L : XL} {st : List XV} {h h' : XH} {r : Option XV} (hr : xrun xcode1 f d mid pc L st h = some (r, h')) : XOK scr d mid pc L st h r h' :=
  ⟨(xmono (xcode1_ok scr) f d mid pc L st h r h' hr).1, (xmono (xcode1_ok scr) f d mid pc L st h r h' hr).2, fun l => (xsound (xcode1_ok scr) l f d mid pc L st h r h' hr).2.2⟩
theorem XOK_go1 {scr : Nat × (Nat → Int32)} {F : Nat} : ∀ (n d mid pc pc1 : Nat) (L L1 : XL) (st st1 : List XV) (h h1 h' : XH) (r : Option XV), xgo xcode1 F n d mid pc L st h = some (pc1, L1, st1, h1) → XOK scr d mid pc1 L1 st1 h1 r h' → XOK scr d mid pc L st h r h'
  | 0, _, _, _, _, _, _, _, _, _, _, _, _, e, k => by cases e; exact k
  | n + 1, d, mid, pc, pc1, L, L1, st, st1, h, h1, h', r, e, k => by
    rw [xgo_S] at e
    split at e
    · rename_i hs
      exact XOK_step1 hs (XOK_go1 n _ _ _ _ _ _ _ _ _ _ _ _ e k)
    · rename_i mid1 as pc2 st2 hs
      split at e
      · cases e
      · split at e
        · cases e
        · rename_i hc
          exact XOK_call1 hs (XOK_run1 hc) (XOK_go1 n _ _ _ _ _ _ _ _ _ _ _ _ e k)
    · cases e
/-- some instructions of one frame, its cells seen afterwards as h2 -/
def xseego (code : Nat → Nat → XI) (F n d mid pc : Nat) (L : XL) (st : List XV) (h : XH) (pc1 : Nat) (L1 : XL) (st1 : List XV) (h2 : XH) : Bool := match xgo code F n d mid pc L st h with
  | some (pc', L', st', h') => decide (pc' = pc1) && (decide (L' = L1) && (decide (st' = st1) && xagr h2 h'))
  | none => false
theorem XOK_seego {scr : Nat × (Nat → Int32)} {F n d mid pc pc1 : Nat} {L L1 : XL} {st st1 : List XV} {h h2 h' : XH} {r : Option XV} (hs : xseego xcode1 F n d mid pc L st h pc1 L1 st1 h2 = true) (k : XOK scr d mid pc1 L1 st1 h2 r h') : XOK scr d mid pc L st h r h' := by
  unfold xseego at hs
  split at hs
  · rename_i hr
    simp only [Bool.and_eq_true, decide_eq_true_eq] at hs
    obtain ⟨rfl, rfl, rfl, ha⟩ := hs
    exact XOK_go1 _ _ _ _ _ _ _ _ _ _ _ _ _ hr (XOK_weak (xagr_le ha) k)
  · cases hs
theorem XOK_see1 {scr : Nat × (Nat → Int32)} {f d mid : Nat} {as : List XV} {h h2 : XH} {r : Option XV} (hs : xsee xcode1 f d mid as h r h2 = true) : XOK scr d mid 0 (xargs as) [] h r h2 := by
  unfold xsee at hs
  split at hs
  · rename_i r' h' hr
    simp only [Bool.and_eq_true, decide_eq_true_eq] at hs
    obtain ⟨rfl, ha⟩ := hs
    exact XOK_post (xagr_le ha) ⟨(xmono (xcode1_ok scr) f d mid 0 _ _ h r' h' hr).1, (xmono (xcode1_ok scr) f d mid 0 _ _ h r' h' hr).2, fun l => (xsound (xcode1_ok scr) l f d mid 0 _ _ h r' h' hr).2.2⟩
  · cases hs
def hA0 : XH := xnew x0 (.inl 7) 7
def hA : XH := (697, 5308, K0, R0, I0)
/-! a callee's cells alone: what stands ahead of them stays -/
def sh (m : Nat) (v : XV) : XV := match v with
  | .inr (some (some i)) => .inr (some (some (m + i)))
  | v => v
def cat (h g : XH) : XH := (xM h + xM g, xZ h + xZ g, fun i => if i < xM h then xK h i else xK g (i - xM h), fun i f => if i < xM h then xR h i f else (xR g (i - xM h) f).map (fun q => xM h + q), fun i f => if i < xM h then xS h i f else xS g (i - xM h) f)
theorem xv_sh (β : XA) (m : Nat) (v : XV) : xv β (sh m v) = xv (β.1 + m, β.2) v := by
  rcases v with x | _ | _ | i
  · rfl
  · rfl
  · rfl
  · show Value.ref (β.1 + (m + i)) = Value.ref (β.1 + m + i)
    rw [Nat.add_assoc]
theorem xst_sh (β : XA) (m : Nat) (as : List XV) : xst β (as.map (sh m)) = xst (β.1 + m, β.2) as := by
  unfold xst
  rw [List.map_map]
  exact List.map_congr_left fun v _ => xv_sh β m v
theorem cat_K {h g : XH} {i : Nat} : xK (cat h g) (xM h + i) = xK g i := by
  show (if xM h + i < xM h then _ else xK g (xM h + i - xM h)) = _
  rw [if_neg (by omega), Nat.add_sub_cancel_left]
theorem cat_R {h g : XH} {i f : Nat} : xR (cat h g) (xM h + i) f = (xR g i f).map (fun q => xM h + q) := by
  show (if xM h + i < xM h then _ else (xR g (xM h + i - xM h) f).map _) = _
  rw [if_neg (by omega), Nat.add_sub_cancel_left]
theorem cat_S {h g : XH} {i : Nat} : xS (cat h g) (xM h + i) = xS g i := by
  funext f
  show (if xM h + i < xM h then _ else xS g (xM h + i - xM h) f) = _
  rw [if_neg (by omega), Nat.add_sub_cancel_left]
theorem cat_map (β : XA) (m : Nat) (o : Option Nat) : (o.map (fun q => m + q)).map (fun q => β.1 + q) = o.map (fun q => (β.1 + m, β.2).1 + q) := by
  cases o with
  | none => rfl
  | some q =>
    show some (β.1 + (m + q)) = some (β.1 + m + q)
    rw [Nat.add_assoc]
theorem xe_cat (β : XA) (cA : Nat → ClassId) (h g : XH) (i : Nat) : xe β cA (cat h g) (xM h + i) = xe (β.1 + xM h, β.2) cA g i := by
  rcases hk : xK g i with ci | ⟨t, n⟩
  · rw [xe_obj (cat_K.trans hk), xe_obj hk]
    unfold xfs
    congr 2
    refine List.map_congr_left fun k _ => ?_
    rw [cat_R, cat_map, cat_S]
  · rcases t with _ | t
    · rw [xe_int (cat_K.trans hk), xe_int hk, cat_S]
    · rw [xe_ref (cat_K.trans hk), xe_ref hk]
      have : (fun j => (xR (cat h g) (xM h + i) j).map (fun q => β.1 + q)) = fun j => (xR g i j).map (fun q => (β.1 + xM h, β.2).1 + q) := by
        funext j
        rw [cat_R, cat_map]
      rw [this]
theorem xe_catL (β : XA) (cA : Nat → ClassId) {h g : XH} {i : Nat} (hi : i < xM h) : xe β cA (cat h g) i = xe β cA h i := xe_eq (if_pos hi) (funext fun _ => if_pos hi) (funext fun _ => if_pos hi)
theorem cat_KL {h g : XH} {i : Nat} (hi : i < xM h) : xK (cat h g) i = xK h i := if_pos hi
theorem XP_right {β : XA} {D : va_G} {cA : Nat → ClassId} {h g : XH} {H : Heap} (hP : XP β D cA (cat h g) H) : XP (β.1 + xM h, β.2) D cA g H := by
  refine ⟨hP.1.trans (Nat.add_assoc _ _ _).symm, fun i hi ha => ?_⟩
  have h1 := hP.2 (xM h + i) (by show xM h + i < xM h + xM g; omega) (by rw [cat_K]; exact ha)
  rw [xe_cat, ← Nat.add_assoc] at h1
  exact h1
theorem XP_join {β : XA} {D : va_G} {cA : Nat → ClassId} {h g g1 : XH} {H H1 : Heap} (hP : XP β D cA (cat h g) H) (hQ : XP (β.1 + xM h, β.2) D cA g1 H1) (ho : ∀ q : Nat, q < β.1 + xM h → H1[q]? = H[q]?) : XP β D cA (cat h g1) H1 := by
  refine ⟨hQ.1.trans (Nat.add_assoc _ _ _), fun i hi ha => ?_⟩
  by_cases e : i < xM h
  · rw [cat_KL e] at ha
    rw [xe_catL β cA e]
    have h1 := hP.2 i (by show i < xM h + xM g; omega) (by rw [cat_KL e]; exact ha)
    rw [xe_catL β cA e] at h1
    exact h1.kept (ho _ (by show β.1 + i < β.1 + xM h; omega))
  · obtain ⟨j, rfl⟩ : ∃ j, i = xM h + j := ⟨i - xM h, by omega⟩
    rw [cat_K] at ha
    rw [xe_cat, ← Nat.add_assoc]
    exact hQ.2 j (by have : xM h + j < xM h + xM g1 := hi; omega) ha
theorem xmetF {l : Launch} {scr : Nat × (Nat → Int32)} {mid d : Nat} {β : XA} {D : va_G} {cA : Nat → ClassId} {as : List XV} {h g g1 : XH} (hlen : (as.map (sh (xM h))).length ≤ (xm mid).2.2.1) (hpl : plainName (xm mid).1.cls = true) (hlaw : (xm mid).1.name ≠ "law") (hx : XOK scr d mid 0 (xargs as) [] g none g1) : XMet l (xm mid) d β D cA (as.map (sh (xM h))) (cat h g) none (cat h g1) := by
  obtain ⟨hM, hZ, hw⟩ := hx
  have eM : xM (cat h g1) - xM (cat h g) = xM g1 - xM g := by
    show xM h + xM g1 - (xM h + xM g) = _
    omega
  have eZ : xZ (cat h g1) - xZ (cat h g) = xZ g1 - xZ g := by
    show xZ h + xZ g1 - (xZ h + xZ g) = _
    omega
  unfold XMet
  rw [eM, eZ, xst_sh]
  refine Met.ofW (cc := (xm mid).2.1) (maxL := (xm mid).2.2.1) (ret := (xm mid).2.2.2) hpl rfl ?_
  intro p e s m args below meth c s₁ B hml hv
  obtain ⟨rfl, hP, hK⟩ := hv
  have hPr := XP_right hP
  have hts0 := atoms_spec (ws := XWs (xm mid)) B.pre
  have hts : ∀ w ∈ xtbl, w.before (xst (β.1 + xM h, β.2) as).toArray s = true := fun w hw => hts0 w (List.mem_cons_of_mem _ hw)
  have hown : s.vm.findClass (xm mid).1.cls = some m.cls := findClass_of_methodNamed B.named
  have hnm : meth.name = (xm mid).1.name := (name_of_methodNamed B.named B.method).1
  have hlocks := B.notSynchronized
  have hX : XC scr p (headSpec (XWs (xm mid)) (XRM d (xM g1 - xM g) (xZ g1 - xZ g))).room s m (xst (β.1 + xM h, β.2) as).toArray meth c (xm mid) (β.1 + xM h, β.2) D cA d :=
    ⟨B.exec, B.bytes, hml, hown, hts, hK, fun q => hnm.trans q, by rw [hPr.1]; exact Nat.le_add_right _ _, Nat.le_refl _, Nat.le_refl _, fun q => absurd q hlaw⟩
  have hl := lv_entry (xst (β.1 + xM h, β.2) as) (n := (xm mid).2.2.1) (by rw [xsl_len]; rw [List.length_map] at hlen; exact hlen)
  rw [xargs_lv] at hl
  rw [lg_entry_eq]
  have key := hw l p e _ s m _ below meth c (β.1 + xM h, β.2) D cA (xM g) (xZ g) (MQ below (XQ β D cA none (cat h g1)) (xst (β.1 + xM h, β.2) as).toArray s (xM g1 - xM g) (xZ g1 - xZ g) (fun q => β.1 ≤ q)) hX (Nat.le_refl _) (Nat.le_refl _) (Nat.le_refl _) (Nat.le_refl _) ?_ s.heap [] _ hPr ⟨fun _ _ => rfl, fun _ h => by cases h⟩ hl
  · rw [Nat.sub_self, Nat.sub_self] at key
    exact key
  · intro pc L st hr H locs ls hP' hF' hl'
    rcases hr with ⟨-, rfl, hd, hret⟩ | ⟨v, ty, hq, -⟩
    · refine W.vret B.exec B.bytes (B.returns.trans hret) (fun t ht hW => ⟨rfl, by rw [ht]; exact XP_join hP hP' hF'.1, fun q hq => by rw [ht]; exact hF'.1 q (Nat.lt_of_lt_of_le hq (Nat.le_add_right _ _))⟩) (fun q hq => Nat.le_trans (Nat.le_add_right _ _) (hF'.2 q hq)) hd
    · cases hq
theorem XOK_callF {scr : Nat × (Nat → Int32)} {code : Nat → Nat → XI} (hcode : ∀ mid pc, XSnd xm scr (xm mid) pc (code mid pc)) {d mid pc mid1 pc1 : Nat} {as : List XV} {L : XL} {st st1 : List XV} {h g g1 h' : XH} {r : Option XV} (hs2 : code mid pc L st (cat h g) = .inr (.inl (mid1, as.map (sh (xM h)), pc1, st1))) (hc : XOK scr d mid1 0 (xargs as) [] g none g1) (k : XOK scr (d + 1) mid pc1 L st1 (cat h g1) r h') : XOK scr (d + 1) mid pc L st (cat h g) r h' := by
  obtain ⟨c1, c2, c3, c4⟩ := (hcode mid pc L st (cat h g)).2.1 _ _ _ _ hs2
  obtain ⟨b1, b2, b3⟩ := k
  have a1 : xM (cat h g) ≤ xM (cat h g1) := Nat.add_le_add_left hc.1 _
  have a2 : xZ (cat h g) ≤ xZ (cat h g1) := Nat.add_le_add_left hc.2.1 _
  refine ⟨Nat.le_trans a1 b1, Nat.le_trans a2 b2, fun l p e R s m args below meth c β D cA m0 z0 Q X hm0 hz0 hmR hzR K => ?_⟩
  exact c4 p l e R s m args below meth c β D cA d m0 z0 Q none (cat h g1) X hm0 hz0 a1 a2 (by omega) (by omega) (xmetF c1 c2 c3 hc) (b3 l p e R s m args below meth c β D cA m0 z0 Q X (by omega) (by omega) hmR hzR K)
def aK (i : Nat) : XK := wK (12 + i)
def aR (i f : Nat) : Option Nat := match aK i with
  | .inl c => rO c i f
  | _ => none
def hAo : XH := xnew x0 (.inl 0) 12
def hAn : XH := (13, 87, aK, aR, fun _ _ => 0)
set_option maxRecDepth 100000 in
theorem see2 : xsee xcode1 400 597 2 [.inr (some (some 0))] hAo none hAn = true := by decide +kernel
def wR (k i f : Nat) : Option Nat := if i = 1 then (if f < k then some (12 + 13 * f) else none) else match wK i with
  | .inl c => rO c i f
  | _ => none
def wS (i f : Nat) : Int32 := if i = 0 then (if f = 5 then -1 else if f = 9 then 1 else 0) else 0
def hWo : XH := xnew x0 (.inl 6) 13
def hW (k : Nat) : XH := (12 + 13 * k, 149 + 87 * k, wK, wR k, wS)
set_option maxRecDepth 100000 in
theorem sg_0 : xseego xcode1 400 31 598 52 0 (xargs [.inr (some (some 0))]) [] hWo 62 [(1, .inl 0), (0, .inr (some (some 0)))] [] (hW 0) = true := by decide +kernel
set_option maxRecDepth 100000 in
theorem sga_0 : xseego xcode1 400 10 598 52 62 [(1, .inl 0), (0, .inr (some (some 0)))] [] (hW 0) 80 [(1, .inl 0), (0, .inr (some (some 0)))] [.inr (some (some 12)), .inr (some (some 12)), .inl 0, .inr (some (some 1))] (cat (hW 0) hAo) = true := by decide +kernel
set_option maxRecDepth 100000 in
theorem sgb_0 : xcall1 xcode1 52 80 [(1, .inl 0), (0, .inr (some (some 0)))] [.inr (some (some 12)), .inr (some (some 12)), .inl 0, .inr (some (some 1))] (cat (hW 0) hAo) 2 ([.inr (some (some 0))].map (sh (xM (hW 0)))) 83 [.inr (some (some 12)), .inl 0, .inr (some (some 1))] = true := by decide +kernel
set_option maxRecDepth 100000 in
theorem sgc_0 : xseego xcode1 400 3 598 52 83 [(1, .inl 0), (0, .inr (some (some 0)))] [.inr (some (some 12)), .inl 0, .inr (some (some 1))] (cat (hW 0) hAn) 62 [(1, .inl 1), (0, .inr (some (some 0)))] [] (hW 1) = true := by decide +kernel
set_option maxRecDepth 100000 in
theorem sga_1 : xseego xcode1 400 10 598 52 62 [(1, .inl 1), (0, .inr (some (some 0)))] [] (hW 1) 80 [(1, .inl 1), (0, .inr (some (some 0)))] [.inr (some (some 25)), .inr (some (some 25)), .inl 1, .inr (some (some 1))] (cat (hW 1) hAo) = true := by decide +kernel
set_option maxRecDepth 100000 in
theorem sgb_1 : xcall1 xcode1 52 80 [(1, .inl 1), (0, .inr (some (some 0)))] [.inr (some (some 25)), .inr (some (some 25)), .inl 1, .inr (some (some 1))] (cat (hW 1) hAo) 2 ([.inr (some (some 0))].map (sh (xM (hW 1)))) 83 [.inr (some (some 25)), .inl 1, .inr (some (some 1))] = true := by decide +kernel
set_option maxRecDepth 100000 in
theorem sgc_1 : xseego xcode1 400 3 598 52 83 [(1, .inl 1), (0, .inr (some (some 0)))] [.inr (some (some 25)), .inl 1, .inr (some (some 1))] (cat (hW 1) hAn) 62 [(1, .inl 2), (0, .inr (some (some 0)))] [] (hW 2) = true := by decide +kernel
set_option maxRecDepth 100000 in
theorem sga_2 : xseego xcode1 400 10 598 52 62 [(1, .inl 2), (0, .inr (some (some 0)))] [] (hW 2) 80 [(1, .inl 2), (0, .inr (some (some 0)))] [.inr (some (some 38)), .inr (some (some 38)), .inl 2, .inr (some (some 1))] (cat (hW 2) hAo) = true := by decide +kernel
set_option maxRecDepth 100000 in
theorem sgb_2 : xcall1 xcode1 52 80 [(1, .inl 2), (0, .inr (some (some 0)))] [.inr (some (some 38)), .inr (some (some 38)), .inl 2, .inr (some (some 1))] (cat (hW 2) hAo) 2 ([.inr (some (some 0))].map (sh (xM (hW 2)))) 83 [.inr (some (some 38)), .inl 2, .inr (some (some 1))] = true := by decide +kernel
set_option maxRecDepth 100000 in
theorem sgc_2 : xseego xcode1 400 3 598 52 83 [(1, .inl 2), (0, .inr (some (some 0)))] [.inr (some (some 38)), .inl 2, .inr (some (some 1))] (cat (hW 2) hAn) 62 [(1, .inl 3), (0, .inr (some (some 0)))] [] (hW 3) = true := by decide +kernel
set_option maxRecDepth 100000 in
theorem sga_3 : xseego xcode1 400 10 598 52 62 [(1, .inl 3), (0, .inr (some (some 0)))] [] (hW 3) 80 [(1, .inl 3), (0, .inr (some (some 0)))] [.inr (some (some 51)), .inr (some (some 51)), .inl 3, .inr (some (some 1))] (cat (hW 3) hAo) = true := by decide +kernel
set_option maxRecDepth 100000 in
theorem sgb_3 : xcall1 xcode1 52 80 [(1, .inl 3), (0, .inr (some (some 0)))] [.inr (some (some 51)), .inr (some (some 51)), .inl 3, .inr (some (some 1))] (cat (hW 3) hAo) 2 ([.inr (some (some 0))].map (sh (xM (hW 3)))) 83 [.inr (some (some 51)), .inl 3, .inr (some (some 1))] = true := by decide +kernel
set_option maxRecDepth 100000 in
theorem sgc_3 : xseego xcode1 400 3 598 52 83 [(1, .inl 3), (0, .inr (some (some 0)))] [.inr (some (some 51)), .inl 3, .inr (some (some 1))] (cat (hW 3) hAn) 62 [(1, .inl 4), (0, .inr (some (some 0)))] [] (hW 4) = true := by decide +kernel
set_option maxRecDepth 100000 in
theorem sga_4 : xseego xcode1 400 10 598 52 62 [(1, .inl 4), (0, .inr (some (some 0)))] [] (hW 4) 80 [(1, .inl 4), (0, .inr (some (some 0)))] [.inr (some (some 64)), .inr (some (some 64)), .inl 4, .inr (some (some 1))] (cat (hW 4) hAo) = true := by decide +kernel
set_option maxRecDepth 100000 in
theorem sgb_4 : xcall1 xcode1 52 80 [(1, .inl 4), (0, .inr (some (some 0)))] [.inr (some (some 64)), .inr (some (some 64)), .inl 4, .inr (some (some 1))] (cat (hW 4) hAo) 2 ([.inr (some (some 0))].map (sh (xM (hW 4)))) 83 [.inr (some (some 64)), .inl 4, .inr (some (some 1))] = true := by decide +kernel
set_option maxRecDepth 100000 in
theorem sgc_4 : xseego xcode1 400 3 598 52 83 [(1, .inl 4), (0, .inr (some (some 0)))] [.inr (some (some 64)), .inl 4, .inr (some (some 1))] (cat (hW 4) hAn) 62 [(1, .inl 5), (0, .inr (some (some 0)))] [] (hW 5) = true := by decide +kernel
set_option maxRecDepth 100000 in
theorem sga_5 : xseego xcode1 400 10 598 52 62 [(1, .inl 5), (0, .inr (some (some 0)))] [] (hW 5) 80 [(1, .inl 5), (0, .inr (some (some 0)))] [.inr (some (some 77)), .inr (some (some 77)), .inl 5, .inr (some (some 1))] (cat (hW 5) hAo) = true := by decide +kernel
set_option maxRecDepth 100000 in
theorem sgb_5 : xcall1 xcode1 52 80 [(1, .inl 5), (0, .inr (some (some 0)))] [.inr (some (some 77)), .inr (some (some 77)), .inl 5, .inr (some (some 1))] (cat (hW 5) hAo) 2 ([.inr (some (some 0))].map (sh (xM (hW 5)))) 83 [.inr (some (some 77)), .inl 5, .inr (some (some 1))] = true := by decide +kernel
set_option maxRecDepth 100000 in
theorem sgc_5 : xseego xcode1 400 3 598 52 83 [(1, .inl 5), (0, .inr (some (some 0)))] [.inr (some (some 77)), .inl 5, .inr (some (some 1))] (cat (hW 5) hAn) 62 [(1, .inl 6), (0, .inr (some (some 0)))] [] (hW 6) = true := by decide +kernel
set_option maxRecDepth 100000 in
theorem sga_6 : xseego xcode1 400 10 598 52 62 [(1, .inl 6), (0, .inr (some (some 0)))] [] (hW 6) 80 [(1, .inl 6), (0, .inr (some (some 0)))] [.inr (some (some 90)), .inr (some (some 90)), .inl 6, .inr (some (some 1))] (cat (hW 6) hAo) = true := by decide +kernel
set_option maxRecDepth 100000 in
theorem sgb_6 : xcall1 xcode1 52 80 [(1, .inl 6), (0, .inr (some (some 0)))] [.inr (some (some 90)), .inr (some (some 90)), .inl 6, .inr (some (some 1))] (cat (hW 6) hAo) 2 ([.inr (some (some 0))].map (sh (xM (hW 6)))) 83 [.inr (some (some 90)), .inl 6, .inr (some (some 1))] = true := by decide +kernel
set_option maxRecDepth 100000 in
theorem sgc_6 : xseego xcode1 400 3 598 52 83 [(1, .inl 6), (0, .inr (some (some 0)))] [.inr (some (some 90)), .inl 6, .inr (some (some 1))] (cat (hW 6) hAn) 62 [(1, .inl 7), (0, .inr (some (some 0)))] [] (hW 7) = true := by decide +kernel
set_option maxRecDepth 100000 in
theorem sga_7 : xseego xcode1 400 10 598 52 62 [(1, .inl 7), (0, .inr (some (some 0)))] [] (hW 7) 80 [(1, .inl 7), (0, .inr (some (some 0)))] [.inr (some (some 103)), .inr (some (some 103)), .inl 7, .inr (some (some 1))] (cat (hW 7) hAo) = true := by decide +kernel
set_option maxRecDepth 100000 in
theorem sgb_7 : xcall1 xcode1 52 80 [(1, .inl 7), (0, .inr (some (some 0)))] [.inr (some (some 103)), .inr (some (some 103)), .inl 7, .inr (some (some 1))] (cat (hW 7) hAo) 2 ([.inr (some (some 0))].map (sh (xM (hW 7)))) 83 [.inr (some (some 103)), .inl 7, .inr (some (some 1))] = true := by decide +kernel
set_option maxRecDepth 100000 in
theorem sgc_7 : xseego xcode1 400 3 598 52 83 [(1, .inl 7), (0, .inr (some (some 0)))] [.inr (some (some 103)), .inl 7, .inr (some (some 1))] (cat (hW 7) hAn) 62 [(1, .inl 8), (0, .inr (some (some 0)))] [] (hW 8) = true := by decide +kernel
set_option maxRecDepth 100000 in
theorem sga_8 : xseego xcode1 400 10 598 52 62 [(1, .inl 8), (0, .inr (some (some 0)))] [] (hW 8) 80 [(1, .inl 8), (0, .inr (some (some 0)))] [.inr (some (some 116)), .inr (some (some 116)), .inl 8, .inr (some (some 1))] (cat (hW 8) hAo) = true := by decide +kernel
set_option maxRecDepth 100000 in
theorem sgb_8 : xcall1 xcode1 52 80 [(1, .inl 8), (0, .inr (some (some 0)))] [.inr (some (some 116)), .inr (some (some 116)), .inl 8, .inr (some (some 1))] (cat (hW 8) hAo) 2 ([.inr (some (some 0))].map (sh (xM (hW 8)))) 83 [.inr (some (some 116)), .inl 8, .inr (some (some 1))] = true := by decide +kernel
set_option maxRecDepth 100000 in
theorem sgc_8 : xseego xcode1 400 3 598 52 83 [(1, .inl 8), (0, .inr (some (some 0)))] [.inr (some (some 116)), .inl 8, .inr (some (some 1))] (cat (hW 8) hAn) 62 [(1, .inl 9), (0, .inr (some (some 0)))] [] (hW 9) = true := by decide +kernel
set_option maxRecDepth 100000 in
theorem sga_9 : xseego xcode1 400 10 598 52 62 [(1, .inl 9), (0, .inr (some (some 0)))] [] (hW 9) 80 [(1, .inl 9), (0, .inr (some (some 0)))] [.inr (some (some 129)), .inr (some (some 129)), .inl 9, .inr (some (some 1))] (cat (hW 9) hAo) = true := by decide +kernel
set_option maxRecDepth 100000 in
theorem sgb_9 : xcall1 xcode1 52 80 [(1, .inl 9), (0, .inr (some (some 0)))] [.inr (some (some 129)), .inr (some (some 129)), .inl 9, .inr (some (some 1))] (cat (hW 9) hAo) 2 ([.inr (some (some 0))].map (sh (xM (hW 9)))) 83 [.inr (some (some 129)), .inl 9, .inr (some (some 1))] = true := by decide +kernel
set_option maxRecDepth 100000 in
theorem sgc_9 : xseego xcode1 400 3 598 52 83 [(1, .inl 9), (0, .inr (some (some 0)))] [.inr (some (some 129)), .inl 9, .inr (some (some 1))] (cat (hW 9) hAn) 62 [(1, .inl 10), (0, .inr (some (some 0)))] [] (hW 10) = true := by decide +kernel
set_option maxRecDepth 100000 in
theorem sga_10 : xseego xcode1 400 10 598 52 62 [(1, .inl 10), (0, .inr (some (some 0)))] [] (hW 10) 80 [(1, .inl 10), (0, .inr (some (some 0)))] [.inr (some (some 142)), .inr (some (some 142)), .inl 10, .inr (some (some 1))] (cat (hW 10) hAo) = true := by decide +kernel
set_option maxRecDepth 100000 in
theorem sgb_10 : xcall1 xcode1 52 80 [(1, .inl 10), (0, .inr (some (some 0)))] [.inr (some (some 142)), .inr (some (some 142)), .inl 10, .inr (some (some 1))] (cat (hW 10) hAo) 2 ([.inr (some (some 0))].map (sh (xM (hW 10)))) 83 [.inr (some (some 142)), .inl 10, .inr (some (some 1))] = true := by decide +kernel
set_option maxRecDepth 100000 in
theorem sgc_10 : xseego xcode1 400 3 598 52 83 [(1, .inl 10), (0, .inr (some (some 0)))] [.inr (some (some 142)), .inl 10, .inr (some (some 1))] (cat (hW 10) hAn) 62 [(1, .inl 11), (0, .inr (some (some 0)))] [] (hW 11) = true := by decide +kernel
set_option maxRecDepth 100000 in
theorem sga_11 : xseego xcode1 400 10 598 52 62 [(1, .inl 11), (0, .inr (some (some 0)))] [] (hW 11) 80 [(1, .inl 11), (0, .inr (some (some 0)))] [.inr (some (some 155)), .inr (some (some 155)), .inl 11, .inr (some (some 1))] (cat (hW 11) hAo) = true := by decide +kernel
set_option maxRecDepth 100000 in
theorem sgb_11 : xcall1 xcode1 52 80 [(1, .inl 11), (0, .inr (some (some 0)))] [.inr (some (some 155)), .inr (some (some 155)), .inl 11, .inr (some (some 1))] (cat (hW 11) hAo) 2 ([.inr (some (some 0))].map (sh (xM (hW 11)))) 83 [.inr (some (some 155)), .inl 11, .inr (some (some 1))] = true := by decide +kernel
set_option maxRecDepth 100000 in
theorem sgc_11 : xseego xcode1 400 3 598 52 83 [(1, .inl 11), (0, .inr (some (some 0)))] [.inr (some (some 155)), .inl 11, .inr (some (some 1))] (cat (hW 11) hAn) 62 [(1, .inl 12), (0, .inr (some (some 0)))] [] (hW 12) = true := by decide +kernel
set_option maxRecDepth 100000 in
theorem sg_13 : xseego xcode1 400 5 598 52 62 [(1, .inl 12), (0, .inr (some (some 0)))] [] (hW 12) 90 [(1, .inl 12), (0, .inr (some (some 0)))] [] (hW 12) = true := by decide +kernel
theorem wo {scr : Nat × (Nat → Int32)} : XOK scr 598 52 0 (xargs [.inr (some (some 0))]) [] hWo none (hW 12) := by
  refine XOK_seego sg_0 ?_
  refine XOK_seego sga_0 ?_
  refine XOK_callF (xcode1_ok scr) (d := 597) (as := [.inr (some (some 0))]) (xcall1_of sgb_0) (XOK_see1 see2) ?_
  refine XOK_seego sgc_0 ?_
  refine XOK_seego sga_1 ?_
  refine XOK_callF (xcode1_ok scr) (d := 597) (as := [.inr (some (some 0))]) (xcall1_of sgb_1) (XOK_see1 see2) ?_
  refine XOK_seego sgc_1 ?_
  refine XOK_seego sga_2 ?_
  refine XOK_callF (xcode1_ok scr) (d := 597) (as := [.inr (some (some 0))]) (xcall1_of sgb_2) (XOK_see1 see2) ?_
  refine XOK_seego sgc_2 ?_
  refine XOK_seego sga_3 ?_
  refine XOK_callF (xcode1_ok scr) (d := 597) (as := [.inr (some (some 0))]) (xcall1_of sgb_3) (XOK_see1 see2) ?_
  refine XOK_seego sgc_3 ?_
  refine XOK_seego sga_4 ?_
  refine XOK_callF (xcode1_ok scr) (d := 597) (as := [.inr (some (some 0))]) (xcall1_of sgb_4) (XOK_see1 see2) ?_
  refine XOK_seego sgc_4 ?_
  refine XOK_seego sga_5 ?_
  refine XOK_callF (xcode1_ok scr) (d := 597) (as := [.inr (some (some 0))]) (xcall1_of sgb_5) (XOK_see1 see2) ?_
  refine XOK_seego sgc_5 ?_
  refine XOK_seego sga_6 ?_
  refine XOK_callF (xcode1_ok scr) (d := 597) (as := [.inr (some (some 0))]) (xcall1_of sgb_6) (XOK_see1 see2) ?_
  refine XOK_seego sgc_6 ?_
  refine XOK_seego sga_7 ?_
  refine XOK_callF (xcode1_ok scr) (d := 597) (as := [.inr (some (some 0))]) (xcall1_of sgb_7) (XOK_see1 see2) ?_
  refine XOK_seego sgc_7 ?_
  refine XOK_seego sga_8 ?_
  refine XOK_callF (xcode1_ok scr) (d := 597) (as := [.inr (some (some 0))]) (xcall1_of sgb_8) (XOK_see1 see2) ?_
  refine XOK_seego sgc_8 ?_
  refine XOK_seego sga_9 ?_
  refine XOK_callF (xcode1_ok scr) (d := 597) (as := [.inr (some (some 0))]) (xcall1_of sgb_9) (XOK_see1 see2) ?_
  refine XOK_seego sgc_9 ?_
  refine XOK_seego sga_10 ?_
  refine XOK_callF (xcode1_ok scr) (d := 597) (as := [.inr (some (some 0))]) (xcall1_of sgb_10) (XOK_see1 see2) ?_
  refine XOK_seego sgc_10 ?_
  refine XOK_seego sga_11 ?_
  refine XOK_callF (xcode1_ok scr) (d := 597) (as := [.inr (some (some 0))]) (xcall1_of sgb_11) (XOK_see1 see2) ?_
  refine XOK_seego sgc_11 ?_
  refine XOK_seego sg_13 ?_
  exact XOK_ret1 (by decide +kernel)
def hT (k : Nat) : XH := (1 + 168 * k, 7 + 1193 * k, K0, fun i f => if i = 0 ∧ k ≤ f then none else R0 i f, I0)
set_option maxRecDepth 100000 in
theorem sh_0 : xseego xcode1 400 5 599 83 0 (xargs [.inr (some (some 0))]) [] hA0 9 [(0, .inr (some (some 0)))] [.inr (some (some 1)), .inr (some (some 1)), .inr (some (some 0))] (cat (hT 0) hWo) = true := by decide +kernel
set_option maxRecDepth 100000 in
theorem si_0 : xcall1 xcode1 83 9 [(0, .inr (some (some 0)))] [.inr (some (some 1)), .inr (some (some 1)), .inr (some (some 0))] (cat (hT 0) hWo) 52 ([.inr (some (some 0))].map (sh (xM (hT 0)))) 12 [.inr (some (some 1)), .inr (some (some 0))] = true := by decide +kernel
set_option maxRecDepth 100000 in
theorem sh_1 : xseego xcode1 400 4 599 83 12 [(0, .inr (some (some 0)))] [.inr (some (some 1)), .inr (some (some 0))] (cat (hT 0) (hW 12)) 20 [(0, .inr (some (some 0)))] [.inr (some (some 169)), .inr (some (some 169)), .inr (some (some 0))] (cat (hT 1) hWo) = true := by decide +kernel
set_option maxRecDepth 100000 in
theorem si_1 : xcall1 xcode1 83 20 [(0, .inr (some (some 0)))] [.inr (some (some 169)), .inr (some (some 169)), .inr (some (some 0))] (cat (hT 1) hWo) 52 ([.inr (some (some 0))].map (sh (xM (hT 1)))) 23 [.inr (some (some 169)), .inr (some (some 0))] = true := by decide +kernel
set_option maxRecDepth 100000 in
theorem sh_2 : xseego xcode1 400 4 599 83 23 [(0, .inr (some (some 0)))] [.inr (some (some 169)), .inr (some (some 0))] (cat (hT 1) (hW 12)) 31 [(0, .inr (some (some 0)))] [.inr (some (some 337)), .inr (some (some 337)), .inr (some (some 0))] (cat (hT 2) hWo) = true := by decide +kernel
set_option maxRecDepth 100000 in
theorem si_2 : xcall1 xcode1 83 31 [(0, .inr (some (some 0)))] [.inr (some (some 337)), .inr (some (some 337)), .inr (some (some 0))] (cat (hT 2) hWo) 52 ([.inr (some (some 0))].map (sh (xM (hT 2)))) 34 [.inr (some (some 337)), .inr (some (some 0))] = true := by decide +kernel
set_option maxRecDepth 100000 in
theorem sh_3 : xseego xcode1 400 4 599 83 34 [(0, .inr (some (some 0)))] [.inr (some (some 337)), .inr (some (some 0))] (cat (hT 2) (hW 12)) 42 [(0, .inr (some (some 0)))] [.inr (some (some 505)), .inr (some (some 505)), .inr (some (some 0))] (cat (hT 3) hWo) = true := by decide +kernel
set_option maxRecDepth 100000 in
theorem si_3 : xcall1 xcode1 83 42 [(0, .inr (some (some 0)))] [.inr (some (some 505)), .inr (some (some 505)), .inr (some (some 0))] (cat (hT 3) hWo) 52 ([.inr (some (some 0))].map (sh (xM (hT 3)))) 45 [.inr (some (some 505)), .inr (some (some 0))] = true := by decide +kernel
def hU : XH := (679, 4918, K0, fun i f => if i = 678 then none else R0 i f, I0)
set_option maxRecDepth 100000 in
theorem sj_0 : xseego xcode1 400 12 599 83 45 [(0, .inr (some (some 0)))] [.inr (some (some 505)), .inr (some (some 0))] (cat (hT 3) (hW 12)) 70 [(1, .inl 0), (0, .inr (some (some 0)))] [] hU = true := by decide +kernel
set_option maxRecDepth 100000 in
theorem sj_1 : xseego xcode1 400 89 599 83 70 [(1, .inl 0), (0, .inr (some (some 0)))] [] hU 98 [(1, .inl 6), (0, .inr (some (some 0)))] [] hA = true := by decide +kernel
theorem see83 {scr : Nat × (Nat → Int32)} : XOK scr 599 83 0 (xargs [.inr (some (some 0))]) [] hA0 none hA := by
  refine XOK_seego sh_0 ?_
  refine XOK_callF (xcode1_ok scr) (d := 598) (as := [.inr (some (some 0))]) (xcall1_of si_0) wo ?_
  refine XOK_seego sh_1 ?_
  refine XOK_callF (xcode1_ok scr) (d := 598) (as := [.inr (some (some 0))]) (xcall1_of si_1) wo ?_
  refine XOK_seego sh_2 ?_
  refine XOK_callF (xcode1_ok scr) (d := 598) (as := [.inr (some (some 0))]) (xcall1_of si_2) wo ?_
  refine XOK_seego sh_3 ?_
  refine XOK_callF (xcode1_ok scr) (d := 598) (as := [.inr (some (some 0))]) (xcall1_of si_3) wo ?_
  refine XOK_seego sj_0 ?_
  refine XOK_seego sj_1 ?_
  exact XOK_ret1 (by decide +kernel)
def mK (i : Nat) : XK := K0 (697 + i)
def mR (i f : Nat) : Option Nat := (R0 (697 + i) f).map (fun q => q - 697)
def mS (i f : Nat) : Int32 := if i = 1 then (if f = 928 then -1 else if f = 929 then 1 else 0) else 0
def hMo : XH := xnew x0 (.inl 8) 22
def hM : XH := (20, 4653, mK, mR, mS)
set_option maxRecDepth 1000000 in
theorem see135 : xsee xcode1 2000 599 135 [.inr (some (some 0))] hMo none hM = true := by decide +kernel
def hB0 : XH := xnew hA (.inl 8) 22
set_option maxRecDepth 100000 in
theorem sk_0 : xagr (cat hA hMo) hB0 = true := by decide +kernel
set_option maxRecDepth 100000 in
theorem sk_1 : xagr (mk I0) (cat hA hM) = true := by decide +kernel
theorem boot {scr : Nat × (Nat → Int32)} {r : Option XV} {S1 : Mem} (k : XG scr 600 190 18 [(3, .inl 0), (2, .inr (some (some 697))), (1, .inr (some (some 0))), (0, .inr (some none))] [] I0 r S1) : XOK scr 600 190 0 [(0, .inr (some none))] [] x0 r (mk S1) := by
  refine XOK_step (pc1 := 3) (L1 := [(0, .inr (some none))]) (st1 := [.inr (some (some 0))]) (h1 := hA0) rfl ?_
  refine XOK_step (pc1 := 4) (L1 := [(0, .inr (some none))]) (st1 := [.inr (some (some 0)), .inr (some (some 0))]) (h1 := hA0) rfl ?_
  refine XOK_call (d := 599) (mid1 := 83) (as := [.inr (some (some 0))]) (pc1 := 7) (st1 := [.inr (some (some 0))]) (r1 := none) (h1 := hA) rfl see83 ?_
  refine XOK_step (pc1 := 8) (L1 := [(1, .inr (some (some 0))), (0, .inr (some none))]) (st1 := []) (h1 := hA) rfl ?_
  refine XOK_step (pc1 := 11) (L1 := [(1, .inr (some (some 0))), (0, .inr (some none))]) (st1 := [.inr (some (some 697))]) (h1 := hB0) rfl ?_
  refine XOK_step (pc1 := 12) (L1 := [(1, .inr (some (some 0))), (0, .inr (some none))]) (st1 := [.inr (some (some 697)), .inr (some (some 697))]) (h1 := hB0) rfl ?_
  refine XOK_weak (xagr_le sk_0) ?_
  refine XOK_callF (xcode_ok scr) (d := 599) (mid1 := 135) (as := [.inr (some (some 0))]) (pc1 := 15) (st1 := [.inr (some (some 697))]) rfl (XOK_see1 see135) ?_
  refine XOK_weak (xagr_le sk_1) ?_
  refine XOK_step (pc1 := 16) (L1 := [(2, .inr (some (some 697))), (1, .inr (some (some 0))), (0, .inr (some none))]) (st1 := []) (h1 := mk I0) rfl ?_
  refine XOK_step (pc1 := 17) (L1 := [(2, .inr (some (some 697))), (1, .inr (some (some 0))), (0, .inr (some none))]) (st1 := [.inl 0]) (h1 := mk I0) rfl ?_
  refine XOK_step (pc1 := 18) (L1 := [(3, .inl 0), (2, .inr (some (some 697))), (1, .inr (some (some 0))), (0, .inr (some none))]) (st1 := []) (h1 := mk I0) rfl ?_
  exact k
/-- the claim out of the law's function -/
theorem law_of {p : Program} {e : Env} {s : State} {m : MethodId} {below : List Frame} {meth : Method} {c : Code} (l : Launch) {b L : Nat} {xs : Nat → Int32} (C0 : lw_At p s m meth c b L xs) {S1 : Mem} (hrun : fl_law_18 (L, xs) LF 0 I0 = some (1, S1)) : W p l e room_1 s m #[Value.ref b] below meth c s.heap [] 0 0 (lw_Z below #[Value.ref b] s) (entryFrame m ([Value.ref b] : List Value).toArray 4) := by
  refine xstart l C0 (h' := mk S1) (boot ?_) (by show 717 ≤ 600000; decide) (by show 9961 ≤ 7302249; decide)
  exact g_loc (lsub_cons rfl (lsub_cons rfl (lsub_cons rfl (lsub_cons rfl lsub_nil)))) (tl_law_18 (d := 600) (by decide) LF 0 I0 1 S1 hrun)
