/-! 14: the makings, run by the kernel -/
def I0 : Mem := fun i f => if i = 698 then (if f = 928 then -1 else if f = 929 then 1 else 0) else if i = 1 ∨ i = 169 ∨ i = 337 ∨ i = 505 then (if f = 5 then -1 else if f = 9 then 1 else 0) else 0
def c0 : Nat × (Nat → Int32) := (0, fun _ => 0)
theorem xcode_c (scr : Nat × (Nat → Int32)) (mid : Nat) (h : mid < 190) : xcode scr mid = xcode c0 mid := by
  unfold xcode
  refine ite_congr rfl (fun _ => ?_) (fun _ => rfl)
  repeat (refine ite_congr rfl (fun _ => rfl) (fun _ => ?_))
  omega
def xcode1 (mid : Nat) : Nat → XI := if mid < 190 then xcode c0 mid else fun _ _ _ _ => xbad
theorem xcode1_ok (scr : Nat × (Nat → Int32)) (mid pc : Nat) : XSnd xm scr (xm mid) pc (xcode1 mid pc) := by
  unfold xcode1
  split
  · rename_i h
    rw [← xcode_c scr mid h]
    exact xcode_ok scr mid pc
  · exact XSnd_bad
theorem XOK_see1 {scr : Nat × (Nat → Int32)} {f d mid : Nat} {as : List XV} {h h2 : XH} {r : Option XV} (hs : xsee xcode1 f d mid as h r h2 = true) : XOK scr d mid 0 (xargs as) [] h r h2 := by
  unfold xsee at hs
  split at hs
  · rename_i r' h' hr
    simp only [Bool.and_eq_true, decide_eq_true_eq] at hs
    obtain ⟨rfl, ha⟩ := hs
    exact XOK_post (xagr_le ha) ⟨(xmono (xcode1_ok scr) f d mid 0 _ _ h r' h' hr).1, (xmono (xcode1_ok scr) f d mid 0 _ _ h r' h' hr).2, fun l => (xsound (xcode1_ok scr) l f d mid 0 _ _ h r' h' hr).2.2⟩
  · cases hs
def hA0 : XH := xnew x0 (.inl 7) 7
def hA : XH := (697, 5308, K0, R0, I0)
def hB0 : XH := xnew hA (.inl 8) 22
set_option maxRecDepth 1000000 in
theorem see83 : xsee xcode1 2000 599 83 [.inr (some (some 0))] hA0 none hA = true := by decide +kernel
set_option maxRecDepth 1000000 in
theorem see135 : xsee xcode1 2000 599 135 [.inr (some (some 697))] hB0 none (mk I0) = true := by decide +kernel
theorem boot {scr : Nat × (Nat → Int32)} {r : Option XV} {S1 : Mem} (k : XG scr 600 190 18 [(3, .inl 0), (2, .inr (some (some 697))), (1, .inr (some (some 0))), (0, .inr (some none))] [] I0 r S1) : XOK scr 600 190 0 [(0, .inr (some none))] [] x0 r (mk S1) := by
  refine XOK_step (pc1 := 3) (L1 := [(0, .inr (some none))]) (st1 := [.inr (some (some 0))]) (h1 := hA0) rfl ?_
  refine XOK_step (pc1 := 4) (L1 := [(0, .inr (some none))]) (st1 := [.inr (some (some 0)), .inr (some (some 0))]) (h1 := hA0) rfl ?_
  refine XOK_call (d := 599) (mid1 := 83) (as := [.inr (some (some 0))]) (pc1 := 7) (st1 := [.inr (some (some 0))]) (r1 := none) (h1 := hA) rfl (XOK_see1 see83) ?_
  refine XOK_step (pc1 := 8) (L1 := [(1, .inr (some (some 0))), (0, .inr (some none))]) (st1 := []) (h1 := hA) rfl ?_
  refine XOK_step (pc1 := 11) (L1 := [(1, .inr (some (some 0))), (0, .inr (some none))]) (st1 := [.inr (some (some 697))]) (h1 := hB0) rfl ?_
  refine XOK_step (pc1 := 12) (L1 := [(1, .inr (some (some 0))), (0, .inr (some none))]) (st1 := [.inr (some (some 697)), .inr (some (some 697))]) (h1 := hB0) rfl ?_
  refine XOK_call (d := 599) (mid1 := 135) (as := [.inr (some (some 697))]) (pc1 := 15) (st1 := [.inr (some (some 697))]) (r1 := none) (h1 := mk I0) rfl (XOK_see1 see135) ?_
  refine XOK_step (pc1 := 16) (L1 := [(2, .inr (some (some 697))), (1, .inr (some (some 0))), (0, .inr (some none))]) (st1 := []) (h1 := mk I0) rfl ?_
  refine XOK_step (pc1 := 17) (L1 := [(2, .inr (some (some 697))), (1, .inr (some (some 0))), (0, .inr (some none))]) (st1 := [.inl 0]) (h1 := mk I0) rfl ?_
  refine XOK_step (pc1 := 18) (L1 := [(3, .inl 0), (2, .inr (some (some 697))), (1, .inr (some (some 0))), (0, .inr (some none))]) (st1 := []) (h1 := mk I0) rfl ?_
  exact k
/-- the claim out of the law's function -/
theorem law_of {p : Program} {e : Env} {s : State} {m : MethodId} {below : List Frame} {meth : Method} {c : Code} (l : Launch) {b L : Nat} {xs : Nat → Int32} (C0 : lw_At p s m meth c b L xs) {S1 : Mem} (hrun : fl_law_18 (L, xs) LF 0 I0 = some (1, S1)) : W p l e room_1 s m #[Value.ref b] below meth c s.heap [] 0 0 (lw_Z below #[Value.ref b] s) (entryFrame m ([Value.ref b] : List Value).toArray 4) := by
  refine xstart l C0 (h' := mk S1) (boot ?_) (by show 717 ≤ 600000; decide) (by show 9961 ≤ 7302250; decide)
  exact tl_law_18 (by decide) LF 0 I0 1 S1 hrun
