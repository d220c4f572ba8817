/-! 61: texts done -/
/-- a line done: the world, whether it can be -/
def xLine (w : Wst) (c : Int32) (ns : List Int32) : Wst × Bool :=
  if c = 97 then (let v1 := if ns.getD 0 0 = 99 then -1 else ns.getD 0 0
    (sCame w v1 (ns.getD 1 0) (ns.getD 2 0) (ns.getD 3 0) (ns.getD 4 0), decide (sCan w v1 (ns.getD 1 0) (ns.getD 2 0) (ns.getD 3 0) (ns.getD 4 0) = 0)))
  else if c = 109 then (if nu (ns.getD 0 0) < wN w then (sSend w (nu (ns.getD 0 0)) (-1, ns.getD 1 0), true) else (w, false))
  else (if 1 ≤ ns.getD 0 0 then ((sRun w (nu (ns.getD 0 0))).1, true) else (w, false))
def xAll (w : Wst) : List (Int32 × List Int32) → Option Wst
  | [] => some w
  | r :: l => if (xLine w r.1 r.2).2 = true then xAll (xLine w r.1 r.2).1 l else none
/-- numbers as a line has them -/
def okLine (c : Int32) (ns : List Int32) : Prop := (c = 97 ∨ c = 109 ∨ c = 115) ∧ ns.length = cn c ∧ ∀ i v, ns[i]? = some v → okV v ∧ (gF true c (1 + i) = false → ∃ j, j ≤ 99 ∧ v = Int32.ofNat j)
theorem rdLine_ok {bl : List Int32} {p q : Nat} {c : Int32} {ns : List Int32} (h : rdLine true bl p = some (c, ns, q)) : okLine c ns := by
  obtain ⟨h1, h2, h3⟩ := rdLine_some h
  obtain ⟨r1, -, -, r4⟩ := rdN_some _ _ _ _ _ h3
  exact ⟨h1, r1, r4⟩
theorem getD_of {ns : List Int32} {i : Nat} (h : i < ns.length) : ns[i]? = some (ns.getD i 0) := by
  rw [List.getD_eq_getElem?_getD, List.getElem?_eq_getElem h]
  rfl
theorem xLine_good {w : Wst} {c : Int32} {ns : List Int32} (hg : Good w) (ho : okLine c ns) : Good (xLine w c ns).1 := by
  obtain ⟨hc, hl, hv⟩ := ho
  unfold xLine
  by_cases c1 : c = 97
  · rw [if_pos c1]
    exact came_good hg
  · rw [if_neg c1]
    by_cases c2 : c = 109
    · rw [if_pos c2]
      have hl2 : ns.length = 2 := by rw [hl, c2]; rfl
      split
      · exact sSend_good hg ⟨Or.inl rfl, Or.inl (hv 1 _ (getD_of (by omega))).1⟩
      · exact hg
    · rw [if_neg c2]
      split
      · exact run_good hg
      · exact hg
theorem xLine_n {w : Wst} {c : Int32} {ns : List Int32} (hg : Good w) : wN w ≤ wN (xLine w c ns).1 := by
  unfold xLine
  split
  · exact came_n
  split
  · split
    · exact Nat.le_of_eq (sSend_n ..).symm
    · exact Nat.le_refl _
  · split
    · exact Nat.le_of_eq (run_n _ hg).symm
    · exact Nat.le_refl _
theorem xAll_good : ∀ (l : List (Int32 × List Int32)) (w w1 : Wst), Good w → (∀ r ∈ l, okLine r.1 r.2) → xAll w l = some w1 → Good w1 ∧ wN w ≤ wN w1
  | [], w, w1, hg, _, h => by
    have e : w = w1 := Option.some.inj h
    rw [← e]
    exact ⟨hg, Nat.le_refl _⟩
  | r :: l, w, w1, hg, ho, h => by
    have h0 : (if (xLine w r.1 r.2).2 = true then xAll (xLine w r.1 r.2).1 l else none) = some w1 := h
    split at h0
    · obtain ⟨a1, a2⟩ := xAll_good l _ w1 (xLine_good hg (ho r List.mem_cons_self)) (fun x hx => ho x (List.mem_cons_of_mem _ hx)) h0
      exact ⟨a1, Nat.le_trans (xLine_n hg) a2⟩
    · exact absurd h0 (by simp)
theorem xAll_bad {v : Int32} (hv : v < 1) : ∀ (l : List (Int32 × List Int32)) (w : Wst), (115, [v]) ∈ l → xAll w l = none
  | [], _, h => absurd h List.not_mem_nil
  | r :: l, w, h => by
    show (if (xLine w r.1 r.2).2 = true then xAll (xLine w r.1 r.2).1 l else none) = none
    rcases List.mem_cons.mp h with e | e
    · rw [← e, if_neg]
      show ¬ (xLine w 115 [v]).2 = true
      unfold xLine
      rw [if_neg (by decide), if_neg (by decide), if_neg (show ¬ 1 ≤ ([v] : List Int32).getD 0 0 from Int32.not_le.mpr hv)]
      exact (by decide : ¬ (false = true))
    · split
      · exact xAll_bad hv l _ e
      · rfl
theorem lns_ok {bl : List Int32} : ∀ (n p : Nat) (l : List (Int32 × List Int32)), lns true bl n p = some l → ∀ r ∈ l, okLine r.1 r.2
  | 0, _, _, h => absurd h (by intro q; exact absurd q (by simp [lns]))
  | n + 1, p, l, h => by
    have h0 : (rdLine true bl p).bind (fun r => if bl.length ≤ r.2.2 then some [(r.1, r.2.1)] else if bl[r.2.2]? = some 59 then (lns true bl n (r.2.2 + 1)).map fun l => (r.1, r.2.1) :: l else none) = some l := h
    cases hr : rdLine true bl p with
    | none =>
      rw [hr] at h0
      exact absurd h0 (by simp)
    | some r =>
      have hk : okLine r.1 r.2.1 := rdLine_ok (c := r.1) (ns := r.2.1) (q := r.2.2) hr
      rw [hr, obs] at h0
      by_cases e1 : bl.length ≤ r.2.2
      · rw [if_pos e1] at h0
        intro x hx
        rw [← Option.some.inj h0] at hx
        rw [List.mem_singleton.mp hx]
        exact hk
      · rw [if_neg e1] at h0
        by_cases e2 : bl[r.2.2]? = some 59
        · rw [if_pos e2] at h0
          cases hl : lns true bl n (r.2.2 + 1) with
          | none =>
            rw [hl] at h0
            exact absurd h0 (by simp)
          | some l2 =>
            rw [hl] at h0
            have e3 : (r.1, r.2.1) :: l2 = l := Option.some.inj h0
            intro x hx
            rw [← e3] at hx
            rcases List.mem_cons.mp hx with q | q
            · rw [q]
              exact hk
            · exact lns_ok n _ l2 hl x q
        · rw [if_neg e2] at h0
          exact absurd h0 (by simp)
/-! the class does them -/
/-- of the tape's cells and the first world's -/
def sO (S S1 : Mem) : Prop := ∀ b, ¬ inW 1 b → b ≠ 673 → b ≠ 674 → b ≠ 676 → b ≠ 677 → S1 b = S b
theorem sO.refl (S : Mem) : sO S S := fun _ _ _ _ _ _ => rfl
theorem sO.trans {S S1 S2 : Mem} (h : sO S S1) (k : sO S1 S2) : sO S S2 := fun b q1 q2 q3 q4 q5 => (k b q1 q2 q3 q4 q5).trans (h b q1 q2 q3 q4 q5)
theorem tO.s {S S1 : Mem} (h : tO S S1) : sO S S1 := fun b _ q2 _ q4 q5 => h b q2 q4 q5
theorem Only.s {S S1 : Mem} (h : Only (inW 1) S S1) : sO S S1 := fun b q1 _ _ _ _ => h b q1
theorem tO.rw {S S1 : Mem} {w : Wst} {W : Nat} (hW : IsW W) (h : tO S S1) (hg : Good w) (hR : RW S W w) : RW S1 W w := hR.congr hg.1.1 fun b q => h b (by have := q.2; rcases hW with rfl | rfl | rfl | rfl <;> omega) (by have := q.2; rcases hW with rfl | rfl | rfl | rfl <;> omega) (by have := q.2; rcases hW with rfl | rfl | rfl | rfl <;> omega)
theorem sO.rw {S S1 : Mem} {w : Wst} (h : sO S S1) (hg : Good w) (hR : RW S 505 w) : RW S1 505 w := hR.congr hg.1.1 fun b q => h b (fun p => by have := q.1; have := p.2; omega) (by have := q.2; omega) (by have := q.2; omega) (by have := q.2; omega) (by have := q.2; omega)
theorem t_num_at {S : Mem} {ns : List Int32} {i : Nat} (hN : RN S 676 ns) (hl : ns.length ≤ 5) (hi : i < ns.length) : fn_at 676 (Int32.ofNat i) S = some (ns.getD i 0) := n_at_ok hN (getD_of hi) (by show _ ≤ ln 677; rw [lnT.2]; exact hl) (by show ln 677 < _; rw [lnT.2]; decide)
/-- a line read and done, but its steps -/
theorem t_do {S : Mem} {bl : List Int32} {p q : Nat} {w : Wst} {c : Int32} {ns : List Int32} (hR : RN S 674 bl) (hl : bl.length ≤ 120) (hp : S 673 3 = Int32.ofNat p) (hp2 : p ≤ 125) (hW : RW S 1 w) (hg : Good w) (hr : rdLine true bl p = some (c, ns, q)) : ∃ S1 x, fx_doLineButSteps S = some (x, S1) ∧ sO S S1 ∧ S1 674 = S 674 ∧ S1 673 3 = Int32.ofNat (q + 1) ∧ (x < 0 ∧ (xLine w c ns).2 = false ∨ x = 0 ∧ (xLine w c ns).2 = true ∧ RW S1 1 (xLine w c ns).1 ∨ 0 < x ∧ (xLine w c ns).2 = true ∧ RW S1 1 w ∧ ∃ k, k < 100 ∧ x = Int32.ofNat k ∧ (xLine w c ns).1 = (sRun w k).1) := by
  obtain ⟨hc, hlen, hv⟩ := rdLine_ok hr
  have h12 := hg.1.1
  obtain ⟨S1, q1, q2⟩ := t_line hR hl hp hp2
  rcases q2 with ⟨c', ns', q', a1, a2, a3, a4, a5⟩ | ⟨a1, -⟩
  · rw [hr] at a1
    have e1 := Option.some.inj a1
    have ec : c = c' := congrArg Prod.fst e1
    have en : ns = ns' := congrArg (fun x => x.2.1) e1
    have eq : q = q' := congrArg (fun x => x.2.2) e1
    subst ec
    subst en
    subst eq
    obtain ⟨X, hX⟩ : ∃ X, X = up2 S1 673 3 (Int32.ofNat (q + 1)) := ⟨_, rfl⟩
    have oX : tO S X := by
      rw [hX]
      exact q1.trans tO.up
    have X2 : X 673 2 = c := by
      rw [hX, up2_nf (by decide)]
      exact a3
    have X3 : X 673 3 = Int32.ofNat (q + 1) := by rw [hX, up2_self]
    have XN : RN X 676 ns := a5.congr (by rw [hX, up2_off (by decide)]) (by rw [hX, up2_off (by decide)])
    have XR : RW X 1 w := oX.rw (Or.inl rfl) hg hW
    have h5 := cn_le (c := c)
    have hlast : fn_at 676 ((X 676 1) - 1) X = some (ns.getD (ns.length - 1) 0) := by
      have hc0 := cn_pos c
      rw [XN.1, show (1 : Int32) = Int32.ofNat 1 from rfl, n_sub (by omega)]
      exact t_num_at XN (by omega) (by omega)
    have X674 : X 674 = S 674 := oX 674 (by decide) (by decide) (by decide)
    unfold fx_doLineButSteps
    rw [a2, bd_some, a4, n_succ, obs, ← hX, hlast, obs, X2]
    by_cases c1 : c = 97
    · have hl5 : ns.length = 5 := by rw [hlen, c1]; rfl
      have n0 := t_num_at (i := 0) XN (by omega) (by omega)
      have n1 := t_num_at (i := 1) XN (by omega) (by omega)
      have n2 := t_num_at (i := 2) XN (by omega) (by omega)
      have n3 := t_num_at (i := 3) XN (by omega) (by omega)
      have fin : ∀ v1 : Int32, v1 = (if ns.getD 0 0 = 99 then -1 else ns.getD 0 0) → ∃ S2 x, (bd (fw_addActor 1 v1 (ns.getD 1 0) (ns.getD 2 0) (ns.getD 3 0) (ns.getD (ns.length - 1) 0) X) fun x7 S3 => if x7 < 0 then (some ((-1 : Int32), S3)) else (some (0, S3))) = some (x, S2) ∧ sO S S2 ∧ S2 674 = S 674 ∧ S2 673 3 = Int32.ofNat (q + 1) ∧ (x < 0 ∧ (xLine w c ns).2 = false ∨ x = 0 ∧ (xLine w c ns).2 = true ∧ RW S2 1 (xLine w c ns).1 ∨ 0 < x ∧ (xLine w c ns).2 = true ∧ RW S2 1 w ∧ ∃ k, k < 100 ∧ x = Int32.ofNat k ∧ (xLine w c ns).1 = (sRun w k).1) := fun v1 hv1 => by
        obtain ⟨S2, b1, b2, b3⟩ := w_born_ok v1 (ns.getD 1 0) (ns.getD 2 0) (ns.getD 3 0) (ns.getD 4 0) XR hg
        have ex : xLine w c ns = (sCame w v1 (ns.getD 1 0) (ns.getD 2 0) (ns.getD 3 0) (ns.getD 4 0), decide (sCan w v1 (ns.getD 1 0) (ns.getD 2 0) (ns.getD 3 0) (ns.getD 4 0) = 0)) := by
          unfold xLine
          rw [if_pos c1, ← hv1]
        have S673 : S2 673 = X 673 := b3 673 fun p => by have := p.2; omega
        rw [show ns.length - 1 = 4 by omega, b1, bd_some, ex]
        unfold sNo
        by_cases z : sCan w v1 (ns.getD 1 0) (ns.getD 2 0) (ns.getD 3 0) (ns.getD 4 0) = 0
        · rw [if_pos z, if_neg (n_neg (by omega))]
          refine ⟨S2, 0, rfl, oX.s.trans b3.s, ?_, by rw [S673]; exact X3, Or.inr (Or.inl ⟨rfl, decide_eq_true z, b2⟩)⟩
          rw [b3 674 fun p => by have := p.2; omega, X674]
        · have hneg : sCan w v1 (ns.getD 1 0) (ns.getD 2 0) (ns.getD 3 0) (ns.getD 4 0) < 0 := by
            unfold sCan at z ⊢
            split
            · rename_i g1
              rw [if_pos g1] at z
              split
              · rename_i g2
                rw [if_pos g2] at z
                split
                · decide
                · rename_i g3
                  rw [if_neg g3] at z
                  exact absurd rfl z
              · decide
            · decide
          rw [if_neg z, if_pos hneg]
          refine ⟨S2, -1, rfl, oX.s.trans b3.s, ?_, by rw [S673]; exact X3, Or.inl ⟨by decide, decide_eq_false z⟩⟩
          rw [b3 674 fun p => by have := p.2; omega, X674]
      rw [if_pos c1, show (0 : Int32) = Int32.ofNat 0 from rfl, show (1 : Int32) = Int32.ofNat 1 from rfl, show (2 : Int32) = Int32.ofNat 2 from rfl, show (3 : Int32) = Int32.ofNat 3 from rfl, n0, n1, n2, n3]
      simp only [obs]
      by_cases g : ns.getD 0 0 = 99
      · rw [if_pos g]
        exact fin (-1) (by rw [if_pos g])
      · rw [if_neg g]
        exact fin _ (by rw [if_neg g])
    rw [if_neg c1]
    by_cases c2 : c = 109
    · have hl2 : ns.length = 2 := by rw [hlen, c2]; rfl
      have n0 := t_num_at (i := 0) XN (by omega) (by omega)
      obtain ⟨-, hk⟩ := hv 0 _ (getD_of (by omega))
      obtain ⟨k, hk99, ek⟩ := hk (by rw [c2]; decide)
      have ex : xLine w c ns = if nu (ns.getD 0 0) < wN w then (sSend w (nu (ns.getD 0 0)) (-1, ns.getD 1 0), true) else (w, false) := by
        unfold xLine
        rw [if_neg c1, if_pos c2]
      have enk : nu (ns.getD 0 0) = k := by rw [ek, nu_n (by omega)]
      rw [if_pos c2, show fn_at 676 0 X = some (ns.getD 0 0) from n0, obs, obs, ek, w_isActor_any XR hg.1 (by omega), obs, ex, enk]
      by_cases g : k < wN w
      · obtain ⟨S2, b1, b2, b3⟩ := w_send_ok (a := k) (-1, ns.getD 1 0) (Or.inl rfl : IsW 1) XR h12 g (hg.1.b g) (hg.1.mail g)
        have S673 : S2 673 = X 673 := b3.1 673 fun p => by have := p.2; omega
        rw [if_pos g, if_neg n10, show ns.length - 1 = 1 by omega, show fw_send 1 (Int32.ofNat k) (-1) (ns.getD 1 0) X = _ from b1, bd_some, if_pos g]
        refine ⟨S2, 0, rfl, oX.s.trans b3.1.s, ?_, by rw [S673]; exact X3, Or.inr (Or.inl ⟨rfl, rfl, b2⟩)⟩
        rw [b3.1 674 fun p => by have := p.2; omega, X674]
      · rw [if_neg g, if_pos rfl, if_neg g]
        exact ⟨X, -1, rfl, oX.s, X674, X3, Or.inl ⟨by decide, rfl⟩⟩
    rw [if_neg c2]
    have c3 : c = 115 := (hc.resolve_left c1).resolve_left c2
    have hl1 : ns.length = 1 := by rw [hlen, c3]; rfl
    have ex : xLine w c ns = if 1 ≤ ns.getD 0 0 then ((sRun w (nu (ns.getD 0 0))).1, true) else (w, false) := by
      unfold xLine
      rw [if_neg c1, if_neg c2]
    obtain ⟨hkv, -⟩ := hv 0 _ (getD_of (by omega))
    rw [if_pos c3, show ns.length - 1 = 0 by omega, ex]
    by_cases g : ns.getD 0 0 < 1
    · rw [if_pos g, if_neg (Int32.not_le.mpr g)]
      exact ⟨X, -1, rfl, oX.s, X674, X3, Or.inl ⟨by decide, rfl⟩⟩
    · obtain ⟨k, hk, ek⟩ : ∃ k, k < 100 ∧ ns.getD 0 0 = Int32.ofNat k := by
        rcases nn_cases (ns.getD 0 0) with hn | ⟨k, hk, e⟩
        · exact absurd hn (one_pos g).1
        · have h2 := hkv.2
          rw [e, n_int hk] at h2
          exact ⟨k, by omega, e⟩
      have hpos : 0 < ns.getD 0 0 := by
        rw [Int32.lt_iff_toInt_lt] at g ⊢
        have h0 : (0 : Int32).toInt = 0 := by decide
        have h1 : (1 : Int32).toInt = 1 := by decide
        omega
      rw [if_neg g, if_neg (show ¬ 99 < ns.getD 0 0 from fun x => by rw [ek, show (99 : Int32) = Int32.ofNat 99 from rfl, n_lt (by decide) (by omega)] at x; omega), if_pos (Int32.not_lt.mp g)]
      exact ⟨X, _, rfl, oX.s, X674, X3, Or.inr (Or.inr ⟨hpos, rfl, XR, k, hk, ek, by rw [ek, nu_n (by omega)]⟩)⟩
  · rw [hr] at a1
    exact absurd a1 (by simp)
theorem lns_nil {bl : List Int32} {n p : Nat} {l : List (Int32 × List Int32)} (h : lns true bl n p = some l) : l ≠ [] := by
  cases n with
  | zero => exact absurd h (by simp [lns])
  | succ n =>
    have h0 : (rdLine true bl p).bind (fun r => if bl.length ≤ r.2.2 then some [(r.1, r.2.1)] else if bl[r.2.2]? = some 59 then (lns true bl n (r.2.2 + 1)).map fun l => (r.1, r.2.1) :: l else none) = some l := h
    cases hr : rdLine true bl p with
    | none =>
      rw [hr] at h0
      exact absurd h0 (by simp)
    | some r =>
      rw [hr, obs] at h0
      split at h0
      · rw [← Option.some.inj h0]
        simp
      split at h0
      · cases hl : lns true bl n (r.2.2 + 1) with
        | none =>
          rw [hl] at h0
          exact absurd h0 (by simp)
        | some l2 =>
          rw [hl] at h0
          rw [← Option.some.inj h0]
          simp
      · exact absurd h0 (by simp)
/-- the end: the tape is empty; all as it was, or done -/
theorem t_end {n : Nat} {S : Mem} {bl : List Int32} {k p : Nat} (hR : RN S 674 bl) (hl : bl.length ≤ 120) (hp : S 673 3 = Int32.ofNat p) (hp2 : p < 1000) (hk : k ≤ 120) (he : bl.length ≤ p) : fx_script_51 (n + 1) (Int32.ofNat k) S = some (Int32.ofNat k, up2 S 674 1 0) := by
  show fx_script_51b (fx_script_51 n) (Int32.ofNat k) S = _
  unfold fx_script_51b
  rw [if_neg (n_neg (by omega)), t_read hR hl hp hp2, if_neg (show ¬ p < bl.length by omega), if_pos (nn0 (show k < 2 ^ 31 by omega))]
  simp only [obs]
  rw [if_neg n10]
  split <;> rfl
theorem t_back {n : Nat} {S : Mem} {w : Wst} {v : Int32} (hv : v < 0) (hR : RW S 505 w) (hg : Good w) : ∃ S1, fx_script_51 (n + 1) v S = some (v, S1) ∧ sO S S1 ∧ RW S1 1 w ∧ S1 674 1 = 0 := by
  obtain ⟨S2, q1, q2, q3⟩ := w_copy_ok (W := 1) (V := 505) (Or.inl rfl) (Or.inr (Or.inr (Or.inr rfl))) (by decide) hR hg.1
  refine ⟨up2 S2 674 1 0, ?_, fun b p1 p2 p3 p4 p5 => ?_, q2.congr hg.1.1 fun b q => up2_off (by have := q.2; omega), up2_self⟩
  · show fx_script_51b (fx_script_51 n) v S = _
    unfold fx_script_51b
    rw [if_pos hv, if_neg (neg0 hv), q1, obs, obs]
  · rw [up2_off p3]
    exact q3.1 b p1
theorem neg_line {k : Nat} (hk : k ≤ 200) : ((-2000 : Int32)) - Int32.ofNat k < 0 := by
  have h2 : (-2000 : Int32).toInt = -2000 := by decide
  have h0 : (0 : Int32).toInt = 0 := by decide
  have e : ((-2000 : Int32) - Int32.ofNat k).toInt = -2000 - (k : Int) := by
    rw [Int32.toInt_sub, h2, n_int (by omega)]
    apply Int.bmod_eq_of_le_mul_two <;> omega
  rw [Int32.lt_iff_toInt_lt, e, h0]
  omega
theorem t_all {bl : List Int32} {w0 : Wst} (hl : bl.length ≤ 120) (hg0 : Good w0) : ∀ (m n k p : Nat) (w : Wst) (S : Mem) (l : List (Int32 × List Int32)), k + m = 120 → m + 2 < n → RN S 674 bl → S 673 3 = Int32.ofNat p → p ≤ 121 → RW S 1 w → Good w → RW S 505 w0 → lns true bl m p = some l → ∃ r S1, fx_script_51 n (Int32.ofNat k) S = some (r, S1) ∧ sO S S1 ∧ S1 674 1 = 0 ∧ ((∃ w1, xAll w l = some w1 ∧ RW S1 1 w1) ∨ (xAll w l = none ∧ RW S1 1 w0))
  | _, 0, _, _, _, _, _, _, h, _, _, _, _, _, _, _ => absurd h (Nat.not_lt_zero _)
  | 0, n + 1, _, _, _, _, _, _, _, _, _, _, _, _, _, h => absurd h (by intro q; exact absurd q (by simp [lns]))
  | m + 1, n + 1, k, p, w, S, l, hk, hn, hR, hp, hp2, hW, hg, h0, hs => by
    have hs0 : (rdLine true bl p).bind (fun r => if bl.length ≤ r.2.2 then some [(r.1, r.2.1)] else if bl[r.2.2]? = some 59 then (lns true bl m (r.2.2 + 1)).map fun l => (r.1, r.2.1) :: l else none) = some l := hs
    have ef : fx_script_51 (n + 1) (Int32.ofNat k) S = fx_script_51b (fx_script_51 n) (Int32.ofNat k) S := rfl
    obtain ⟨n, rfl⟩ : ∃ n', n = n' + 1 := ⟨n - 1, by omega⟩
    cases hr : rdLine true bl p with
    | none =>
      rw [hr] at hs0
      exact absurd hs0 (by simp)
    | some r =>
      obtain ⟨c, ns, q⟩ := r
      obtain ⟨-, l2, l3, l4⟩ := rdLine_len hr
      rw [hr, obs] at hs0
      have hs1 : (if bl.length ≤ q then some [(c, ns)] else if bl[q]? = some 59 then (lns true bl m (q + 1)).map fun l => (c, ns) :: l else none) = some l := hs0
      obtain ⟨S1, x, b1, b2, b3, b4, b5⟩ := t_do hR hl hp (by omega) hW hg hr
      have hR1 : RN S1 674 bl := hR.congr b3 (b2 675 (fun p => by have := p.2; omega) (by decide) (by decide) (by decide) (by decide))
      have h01 : RW S1 505 w0 := b2.rw hg0 h0
      rw [ef]
      unfold fx_script_51b
      rw [if_neg (n_neg (by omega)), if_neg (fun q => by rw [show (120 : Int32) = Int32.ofNat 120 from rfl, n_le (by decide) (by omega)] at q; omega), t_read hR hl hp (by omega), obs, if_pos l4, if_pos rfl, b1, bd_some]
      -- what comes behind a line that is done
      have behind : ∀ {S2 : Mem} {w2 : Wst}, sO S1 S2 → S2 674 = S1 674 → S2 673 3 = Int32.ofNat (q + 1) → RW S2 1 w2 → Good w2 → (xLine w c ns).2 = true → (xLine w c ns).1 = w2 → ∃ r S3, fx_script_51 (n + 1) (Int32.ofNat (k + 1)) S2 = some (r, S3) ∧ sO S S3 ∧ S3 674 1 = 0 ∧ ((∃ w1, xAll w l = some w1 ∧ RW S3 1 w1) ∨ (xAll w l = none ∧ RW S3 1 w0)) := fun {S2 w2} o2 e674 e3 r2 hg2 t1 t2 => by
        have hR2 : RN S2 674 bl := hR1.congr e674 (o2 675 (fun p => by have := p.2; omega) (by decide) (by decide) (by decide) (by decide))
        by_cases e1 : bl.length ≤ q
        · rw [if_pos e1] at hs1
          have el : [(c, ns)] = l := Option.some.inj hs1
          refine ⟨_, _, t_end hR2 hl e3 (by omega) (by omega) (by omega), fun b p1 p2 p3 p4 p5 => ?_, up2_self, Or.inl ⟨w2, ?_, r2.congr hg2.1.1 fun b p => up2_off (by have := p.2; omega)⟩⟩
          · rw [up2_off p3]
            exact (b2.trans o2) b p1 p2 p3 p4 p5
          · rw [← el]
            show (if (xLine w c ns).2 = true then xAll (xLine w c ns).1 [] else none) = some w2
            rw [if_pos t1, t2]
            rfl
        · rw [if_neg e1] at hs1
          split at hs1
          · cases hl2 : lns true bl m (q + 1) with
            | none =>
              rw [hl2] at hs1
              exact absurd hs1 (by simp)
            | some l2 =>
              rw [hl2] at hs1
              have el : (c, ns) :: l2 = l := Option.some.inj hs1
              obtain ⟨r, S3, d1, d2, d3, d4⟩ := t_all hl hg0 m (n + 1) (k + 1) (q + 1) w2 S2 l2 (by omega) (by omega) hR2 e3 (by omega) r2 hg2 (o2.rw hg0 h01) hl2
              refine ⟨r, S3, d1, (b2.trans o2).trans d2, d3, ?_⟩
              have ex : xAll w l = xAll w2 l2 := by
                rw [← el]
                show (if (xLine w c ns).2 = true then xAll (xLine w c ns).1 l2 else none) = _
                rw [if_pos t1, t2]
              rw [ex]
              exact d4
          · exact absurd hs1 (by simp)
      rcases b5 with ⟨c1, c2⟩ | ⟨c1, c2, c3⟩ | ⟨c1, c2, c3, j, hj, ej, ew⟩
      · have hle : x ≤ 0 := by
          rw [Int32.lt_iff_toInt_lt] at c1
          rw [Int32.le_iff_toInt_le]
          omega
        obtain ⟨S2, d1, d2, d3, d4⟩ := t_back (n := n) (v := (-2000) - Int32.ofNat k) (neg_line (by omega)) h01 hg0
        rw [if_pos hle, if_neg (neg0 c1)]
        refine ⟨_, S2, d1, b2.trans d2, d4, Or.inr ⟨?_, d3⟩⟩
        have first : ∃ l2, l = (c, ns) :: l2 := by
          split at hs1
          · exact ⟨[], (Option.some.inj hs1).symm⟩
          split at hs1
          · cases hl2 : lns true bl m (q + 1) with
            | none =>
              rw [hl2] at hs1
              exact absurd hs1 (by simp)
            | some l2 =>
              rw [hl2] at hs1
              exact ⟨l2, (Option.some.inj hs1).symm⟩
          · exact absurd hs1 (by simp)
        obtain ⟨l2, el⟩ := first
        rw [el]
        show (if (xLine w c ns).2 = true then xAll (xLine w c ns).1 l2 else none) = none
        rw [c2]
        rfl
      · rw [c1, if_pos (by decide), if_pos (by decide), n_succ]
        exact behind (sO.refl S1) rfl b4 c3 (xLine_good hg (rdLine_ok hr)) c2 rfl
      · obtain ⟨S2, d1, d2, d3⟩ := w_run_ok (k := j) (Or.inl rfl : IsW 1) c3 hg (by omega)
        have e674 : S2 674 = S1 674 := d3 674 fun p => by have := p.2; omega
        have e673 : S2 673 = S1 673 := d3 673 fun p => by have := p.2; omega
        have hx0 : (0 : Int32) ≤ x := by
          rw [Int32.lt_iff_toInt_lt] at c1
          rw [Int32.le_iff_toInt_le]
          omega
        have hrun : fw_makeSteps 1 x S1 = some (Int32.ofNat (sRun w j).2, S2) := by
          rw [ej]
          exact d1
        rw [if_neg (Int32.not_le.mpr c1), hrun, bd_some, if_pos hx0, n_succ]
        exact behind d3.s e674 (by rw [e673]; exact b4) d2 (run_good hg) c2 ew
theorem x_script_ok {S : Mem} {bl : List Int32} {w : Wst} (hR : RN S 674 bl) (hl : bl.length ≤ 120) (hW : RW S 1 w) (hg : Good w) : ∃ r S1, fx_script S = some (r, S1) ∧ (∀ b, ¬ inW 1 b → ¬ inW 505 b → b ≠ 673 → b ≠ 674 → b ≠ 676 → b ≠ 677 → S1 b = S b) ∧ S1 674 1 = 0 ∧ ((lns true bl 120 0 = none ∧ RW S1 1 w) ∨ (∃ l, lns true bl 120 0 = some l ∧ ((∃ w1, xAll w l = some w1 ∧ RW S1 1 w1) ∨ (xAll w l = none ∧ RW S1 1 w)))) := by
  obtain ⟨S1, q1, q2⟩ := t_form hl 120 LF 0 0 (up2 S 673 3 0) rfl (by decide) (tO.up.rn hR) up2_self (by decide)
  have o1 : tO S S1 := tO.up.trans q1
  unfold fx_script ft_faultOfForm
  rw [obs]
  rcases q2 with ⟨l, a1, a2⟩ | ⟨a1, q, hq, a2⟩
  · rw [show ft_faultOfForm_7 LF 673 0 (up2 S 673 3 0) = _ from a2, bd_some, if_pos rfl]
    have W1 : RW S1 1 w := o1.rw (Or.inl rfl) hg hW
    obtain ⟨S2, b1, b2, b3⟩ := w_copy_ok (W := 505) (V := 1) (Or.inr (Or.inr (Or.inr rfl))) (Or.inl rfl) (by decide) W1 hg.1
    rw [b1, obs, obs]
    have off : ∀ b, (b < 505 ∨ 673 ≤ b) → S2 b = S1 b := fun b hb => b3.1 b fun p => by have := p.1; have := p.2; omega
    have R2 : RN (up2 S2 673 3 0) 674 bl := (o1.rn hR).congr (by rw [up2_off (by decide), off _ (by omega)]) (by rw [up2_off (by decide), off _ (by omega)])
    have W2 : RW (up2 S2 673 3 0) 1 w := W1.congr hg.1.1 fun b p => by rw [up2_off (by have := p.2; omega), off b (by have := p.2; omega)]
    have V2 : RW (up2 S2 673 3 0) 505 w := b2.congr hg.1.1 fun b p => up2_off (by have := p.2; omega)
    obtain ⟨r, S3, c1, c2, c3, c4⟩ := t_all hl hg 120 LF 0 0 w (up2 S2 673 3 0) l rfl (by decide) R2 up2_self (by decide) W2 hg V2 a1
    refine ⟨r, S3, c1, fun b p1 p2 p3 p4 p5 p6 => ?_, c3, Or.inr ⟨l, a1, c4⟩⟩
    rw [c2 b p1 p3 p4 p5 p6, up2_off p3, b3.1 b p2, o1 b p3 p5 p6]
  · have hne : ¬ Int32.ofNat q = -1 := fun e => by
      have h0 : Int32.ofNat q < 0 := by rw [e]; decide
      exact n_neg (by omega) h0
    rw [show ft_faultOfForm_7 LF 673 0 (up2 S 673 3 0) = _ from a2, bd_some, if_neg hne, obs]
    refine ⟨_, _, rfl, fun b p1 p2 p3 p4 p5 p6 => ?_, up2_self, Or.inl ⟨a1, ?_⟩⟩
    · rw [up2_off p4, o1 b p3 p5 p6]
    · exact (o1.rw (Or.inl rfl) hg hW).congr hg.1.1 fun b p => up2_off (by have := p.2; omega)
