/-! 59: texts: what a line is; the class reads -/
def dg (bl : List Int32) (p : Nat) : Option Int32 := (bl[p]?).bind fun d => if ¬ d < 48 ∧ ¬ 57 < d then some d else none
def rdD (bl : List Int32) (p : Nat) : Option (Int32 × Nat) := (dg bl p).bind fun d => match dg bl (p + 1) with
  | none => some (d - 48, p + 1)
  | some e => some (10 * (d - 48) + e - 48, p + 2)
def rdNum (bl : List Int32) (neg : Bool) (p : Nat) : Option (Int32 × Nat) :=
  if bl[p]? = some 32 then (if neg = true ∧ bl[p + 1]? = some 45 then (rdD bl (p + 2)).map fun r => (-r.1, r.2) else rdD bl (p + 1)) else none
def rdN (g : Nat → Bool) (bl : List Int32) : Nat → Nat → Nat → Option (List Int32 × Nat)
  | 0, _, p => some ([], p)
  | m + 1, k, p => (rdNum bl (g k) p).bind fun r => (rdN g bl m (k + 1) r.2).map fun t => (r.1 :: t.1, t.2)
/-- where a - may stand: sn: ahead of the number of an s, too -/
def gF (sn : Bool) (c : Int32) (k : Nat) : Bool := (decide (c = 109) && decide (k = 2)) || (sn && decide (c = 115) && decide (k = 1))
def cn (c : Int32) : Nat := if c = 97 then 5 else if c = 109 then 2 else 1
def rdLine (sn : Bool) (bl : List Int32) (p : Nat) : Option (Int32 × List Int32 × Nat) := (bl[p]?).bind fun c =>
  if c = 97 ∨ c = 109 ∨ c = 115 then (rdN (gF sn c) bl (cn c) 1 (p + 1)).map fun r => (c, r.1, r.2) else none
/-- the lines of a text from p on -/
def lns (sn : Bool) (bl : List Int32) : Nat → Nat → Option (List (Int32 × List Int32))
  | 0, _ => none
  | n + 1, p => (rdLine sn bl p).bind fun r => if bl.length ≤ r.2.2 then some [(r.1, r.2.1)] else if bl[r.2.2]? = some 59 then (lns sn bl n (r.2.2 + 1)).map fun l => (r.1, r.2.1) :: l else none
theorem dg_some {bl : List Int32} {p : Nat} {d : Int32} (h : dg bl p = some d) : bl[p]? = some d ∧ (¬ d < 48 ∧ ¬ 57 < d) ∧ p < bl.length := by
  unfold dg at h
  cases hb : bl[p]? with
  | none =>
    rw [hb] at h
    exact absurd h (by simp)
  | some e =>
    rw [hb, obs] at h
    split at h
    · rename_i q
      have e2 : e = d := Option.some.inj h
      rw [e2] at q
      exact ⟨by rw [e2], q, (List.getElem?_eq_some_iff.mp hb).1⟩
    · exact absurd h (by simp)
/-- a number of one or two digits -/
theorem rdD_some {bl : List Int32} {p q : Nat} {v : Int32} (h : rdD bl p = some (v, q)) : (∃ k, k ≤ 99 ∧ v = Int32.ofNat k) ∧ p < q ∧ q ≤ p + 2 ∧ q ≤ bl.length := by
  have dn : ∀ {j : Nat} {d : Int32}, dg bl j = some d → ∃ k, k ≤ 9 ∧ d = Int32.ofNat (48 + k) := fun {j d} hd => by
    obtain ⟨-, ⟨h1, h2⟩, -⟩ := dg_some hd
    rcases nn_cases d with hv | ⟨i, hi, rfl⟩
    · refine absurd ?_ h1
      rw [Int32.lt_iff_toInt_lt] at hv ⊢
      have a0 : (0 : Int32).toInt = 0 := by decide
      have a1 : (48 : Int32).toInt = 48 := by decide
      omega
    · rw [show (48 : Int32) = Int32.ofNat 48 from rfl, n_lt hi (by decide)] at h1
      rw [show (57 : Int32) = Int32.ofNat 57 from rfl, n_lt (by decide) hi] at h2
      exact ⟨i - 48, by omega, by rw [show 48 + (i - 48) = i by omega]⟩
  have sub : ∀ k, Int32.ofNat (48 + k) - 48 = Int32.ofNat k := fun k => by
    rw [show (48 : Int32) = Int32.ofNat 48 from rfl, n_sub (by omega), Nat.add_sub_cancel_left]
  unfold rdD at h
  cases h1 : dg bl p with
  | none =>
    rw [h1] at h
    exact absurd h (by simp)
  | some d =>
    obtain ⟨k, hk, e⟩ := dn h1
    have l1 := (dg_some h1).2.2
    rw [h1, obs] at h
    cases h2 : dg bl (p + 1) with
    | none =>
      rw [h2] at h
      have h3 := Option.some.inj h
      have e1 : d - 48 = v := congrArg Prod.fst h3
      have e2 : p + 1 = q := congrArg Prod.snd h3
      refine ⟨⟨k, by omega, ?_⟩, by omega, by omega, by omega⟩
      rw [← e1, e, sub]
    | some d2 =>
      obtain ⟨k2, hk2, e2⟩ := dn h2
      have l2 := (dg_some h2).2.2
      rw [h2] at h
      have h3 := Option.some.inj h
      have e3 : 10 * (d - 48) + d2 - 48 = v := congrArg Prod.fst h3
      have e4 : p + 2 = q := congrArg Prod.snd h3
      refine ⟨⟨10 * k + k2, by omega, ?_⟩, by omega, by omega, by omega⟩
      rw [← e3, e, sub, e2, show (10 : Int32) = Int32.ofNat 10 from rfl, n_mul, n_add, show (48 : Int32) = Int32.ofNat 48 from rfl, n_sub (by omega)]
      congr 1
      omega
theorem neg_num {k : Nat} (h : k ≤ 99) : okV (-Int32.ofNat k) := by
  have e : (Int32.ofNat k).toInt = k := n_int (by omega)
  have e2 : (-Int32.ofNat k).toInt = -(k : Int) := by
    rw [Int32.toInt_neg, e]
    apply Int.bmod_eq_of_le_mul_two <;> omega
  unfold okV
  rw [e2]
  omega
theorem pos_num {k : Nat} (h : k ≤ 99) : okV (Int32.ofNat k) := by
  unfold okV
  rw [n_int (by omega)]
  omega
theorem rdNum_some {bl : List Int32} {neg : Bool} {p q : Nat} {v : Int32} (h : rdNum bl neg p = some (v, q)) : okV v ∧ p < q ∧ q ≤ bl.length ∧ (neg = false → ∃ k, k ≤ 99 ∧ v = Int32.ofNat k) := by
  unfold rdNum at h
  split at h
  · split at h
    · rename_i g
      cases hr : rdD bl (p + 2) with
      | none =>
        rw [hr] at h
        exact absurd h (by simp)
      | some r =>
        rw [hr] at h
        have h3 := Option.some.inj h
        have e1 : -r.1 = v := congrArg Prod.fst h3
        have e2 : r.2 = q := congrArg Prod.snd h3
        obtain ⟨⟨k, hk, e⟩, l1, l2, l3⟩ := rdD_some (v := r.1) (q := r.2) hr
        refine ⟨?_, by omega, by omega, fun hn => by rw [hn] at g; exact absurd g.1 (by decide)⟩
        rw [← e1, e]
        exact neg_num hk
    · obtain ⟨⟨k, hk, e⟩, l1, l2, l3⟩ := rdD_some h
      refine ⟨?_, by omega, by omega, fun _ => ⟨k, hk, e⟩⟩
      rw [e]
      exact pos_num hk
  · exact absurd h (by simp)
theorem rdN_some {g : Nat → Bool} {bl : List Int32} : ∀ (m k p q : Nat) (ns : List Int32), rdN g bl m k p = some (ns, q) → ns.length = m ∧ p + m ≤ q ∧ (0 < m → q ≤ bl.length) ∧ ∀ i v, ns[i]? = some v → okV v ∧ (g (k + i) = false → ∃ j, j ≤ 99 ∧ v = Int32.ofNat j)
  | 0, k, p, q, ns, h => by
    have h3 := Option.some.inj h
    have e1 : [] = ns := congrArg Prod.fst h3
    have e2 : p = q := congrArg Prod.snd h3
    rw [← e1, ← e2]
    exact ⟨rfl, Nat.le_refl _, fun q => absurd q (Nat.lt_irrefl _), fun i v hv => absurd (List.getElem?_eq_some_iff.mp hv).1 (Nat.not_lt_zero _)⟩
  | m + 1, k, p, q, ns, h => by
    have h0 : (rdNum bl (g k) p).bind (fun r => (rdN g bl m (k + 1) r.2).map fun t => (r.1 :: t.1, t.2)) = some (ns, q) := h
    cases hr : rdNum bl (g k) p with
    | none =>
      rw [hr] at h0
      exact absurd h0 (by simp)
    | some r =>
      rw [hr, obs] at h0
      obtain ⟨o1, o2, o3, o4⟩ := rdNum_some (v := r.1) (q := r.2) hr
      cases ht : rdN g bl m (k + 1) r.2 with
      | none =>
        rw [ht] at h0
        exact absurd h0 (by simp)
      | some t =>
        rw [ht] at h0
        have h3 := Option.some.inj h0
        have e1 : r.1 :: t.1 = ns := congrArg Prod.fst h3
        have e2 : t.2 = q := congrArg Prod.snd h3
        obtain ⟨t1, t2, t3, t4⟩ := rdN_some m (k + 1) r.2 t.2 t.1 ht
        refine ⟨by rw [← e1, List.length_cons, t1], by omega, fun _ => ?_, fun i v hv => ?_⟩
        · by_cases hm : 0 < m
          · rw [← e2]
            exact t3 hm
          · have em : m = 0 := by omega
            subst em
            have e4 : r.2 = t.2 := congrArg Prod.snd (Option.some.inj ht)
            omega
        · rw [← e1] at hv
          cases i with
          | zero =>
            have ev : r.1 = v := Option.some.inj hv
            rw [← ev]
            exact ⟨o1, o4⟩
          | succ i =>
            have := t4 i v hv
            rw [show k + (i + 1) = k + 1 + i by omega]
            exact this
theorem rdLine_some {sn : Bool} {bl : List Int32} {p q : Nat} {c : Int32} {ns : List Int32} (h : rdLine sn bl p = some (c, ns, q)) : (c = 97 ∨ c = 109 ∨ c = 115) ∧ bl[p]? = some c ∧ rdN (gF sn c) bl (cn c) 1 (p + 1) = some (ns, q) := by
  unfold rdLine at h
  cases hb : bl[p]? with
  | none =>
    rw [hb] at h
    exact absurd h (by simp)
  | some e =>
    rw [hb, obs] at h
    split at h
    · rename_i g
      cases hr : rdN (gF sn e) bl (cn e) 1 (p + 1) with
      | none =>
        rw [hr] at h
        exact absurd h (by simp)
      | some r =>
        rw [hr] at h
        have h3 := Option.some.inj h
        have e1 : e = c := congrArg Prod.fst h3
        have e2 : r.1 = ns := congrArg (fun x => x.2.1) h3
        have e3 : r.2 = q := congrArg (fun x => x.2.2) h3
        subst e1
        exact ⟨g, rfl, by rw [hr, ← e2, ← e3]⟩
    · exact absurd h (by simp)
theorem cn_pos (c : Int32) : 0 < cn c := by
  unfold cn
  split
  · decide
  split <;> decide
theorem rdLine_len {sn : Bool} {bl : List Int32} {p q : Nat} {c : Int32} {ns : List Int32} (h : rdLine sn bl p = some (c, ns, q)) : ns.length = cn c ∧ p < q ∧ q ≤ bl.length ∧ p < bl.length := by
  obtain ⟨-, h2, h3⟩ := rdLine_some h
  obtain ⟨r1, r2, r3, -⟩ := rdN_some _ _ _ _ _ h3
  exact ⟨r1, by omega, r3 (cn_pos c), (List.getElem?_eq_some_iff.mp h2).1⟩
/-- what is a line without a - behind s is one with it, too -/
theorem rdNum_up {bl : List Int32} {p : Nat} {r : Int32 × Nat} (h : rdNum bl false p = some r) : rdNum bl true p = some r := by
  unfold rdNum at h ⊢
  by_cases e : bl[p]? = some 32
  · rw [if_pos e] at h ⊢
    rw [if_neg (fun q => absurd q.1 (by decide))] at h
    by_cases e2 : bl[p + 1]? = some 45
    · exfalso
      unfold rdD dg at h
      rw [e2, obs, if_neg (by decide)] at h
      exact absurd h (by simp)
    · rw [if_neg (fun q => e2 q.2)]
      exact h
  · rw [if_neg e] at h
    exact absurd h (by simp)
theorem gF_false {c : Int32} (h : c ≠ 115) (k : Nat) : gF true c k = gF false c k := by
  unfold gF
  simp [h]
theorem rdN_congr {g g' : Nat → Bool} (bl : List Int32) (h : ∀ k, g k = g' k) : ∀ (m k p : Nat), rdN g bl m k p = rdN g' bl m k p
  | 0, _, _ => rfl
  | m + 1, k, p => by
    show (rdNum bl (g k) p).bind (fun r => (rdN g bl m (k + 1) r.2).map fun t => (r.1 :: t.1, t.2)) = (rdNum bl (g' k) p).bind (fun r => (rdN g' bl m (k + 1) r.2).map fun t => (r.1 :: t.1, t.2))
    rw [h k]
    congr 1
    funext r
    rw [rdN_congr bl h m (k + 1) r.2]
theorem rdLine_o {bl : List Int32} {p : Nat} (h : bl[p]? ≠ some 115) : rdLine true bl p = rdLine false bl p := by
  unfold rdLine
  cases hb : bl[p]? with
  | none => rfl
  | some c =>
    have hc : c ≠ 115 := fun e => h (by rw [hb, e])
    rw [obs, obs]
    rw [rdN_congr bl (gF_false hc)]
theorem rdLine_s {sn : Bool} {bl : List Int32} {p : Nat} (h : bl[p]? = some 115) : rdLine sn bl p = (rdNum bl sn (p + 1)).map fun r => (115, [r.1], r.2) := by
  unfold rdLine
  rw [h, obs, if_pos (Or.inr (Or.inr rfl)), show cn 115 = 1 from rfl]
  show ((rdNum bl (gF sn 115 1) (p + 1)).bind (fun r => (rdN (gF sn 115) bl 0 2 r.2).map fun t => (r.1 :: t.1, t.2))).map _ = _
  have e : gF sn 115 1 = sn := by
    unfold gF
    cases sn <;> rfl
  rw [e]
  cases rdNum bl sn (p + 1) with
  | none => rfl
  | some r => rfl
theorem rdLine_up {bl : List Int32} {p : Nat} {r : Int32 × List Int32 × Nat} (h : rdLine false bl p = some r) : rdLine true bl p = some r := by
  by_cases e : bl[p]? = some 115
  · rw [rdLine_s e] at h ⊢
    cases hn : rdNum bl false (p + 1) with
    | none =>
      rw [hn] at h
      exact absurd h (by simp)
    | some x =>
      rw [hn] at h
      rw [rdNum_up hn]
      exact h
  · rw [rdLine_o e]
    exact h
/-- and one that is a line with it alone tells a number that is no number of steps -/
theorem rdLine_dn {bl : List Int32} {p q : Nat} {c : Int32} {ns : List Int32} (h : rdLine true bl p = some (c, ns, q)) (h2 : rdLine false bl p = none) : c = 115 ∧ ∃ v, ns = [v] ∧ v < 1 := by
  by_cases e : bl[p]? = some 115
  · rw [rdLine_s e] at h h2
    cases hn : rdNum bl true (p + 1) with
    | none =>
      rw [hn] at h
      exact absurd h (by simp)
    | some x =>
      rw [hn] at h
      have h3 := Option.some.inj h
      have e1 : (115 : Int32) = c := congrArg Prod.fst h3
      have e2 : [x.1] = ns := congrArg (fun y => y.2.1) h3
      refine ⟨e1.symm, x.1, e2.symm, ?_⟩
      unfold rdNum at hn h2
      by_cases e3 : bl[p + 1]? = some 32
      · rw [if_pos e3] at hn h2
        by_cases e4 : bl[p + 1 + 1]? = some 45
        · rw [if_pos ⟨rfl, e4⟩] at hn
          cases hd : rdD bl (p + 1 + 2) with
          | none =>
            rw [hd] at hn
            exact absurd hn (by simp)
          | some y =>
            rw [hd] at hn
            have e5 : -y.1 = x.1 := congrArg Prod.fst (Option.some.inj hn)
            obtain ⟨⟨k, hk, ek⟩, -⟩ := rdD_some (v := y.1) (q := y.2) hd
            have e6 : (Int32.ofNat k).toInt = k := n_int (by omega)
            have e7 : (-Int32.ofNat k).toInt = -(k : Int) := by
              rw [Int32.toInt_neg, e6]
              apply Int.bmod_eq_of_le_mul_two <;> omega
            have e8 : (1 : Int32).toInt = 1 := by decide
            rw [← e5, ek, Int32.lt_iff_toInt_lt, e7, e8]
            omega
        · rw [if_neg (fun q => e4 q.2)] at hn
          rw [if_neg (fun q => absurd q.1 (by decide)), hn] at h2
          exact absurd h2 (by simp)
      · rw [if_neg e3] at hn
        exact absurd hn (by simp)
  · rw [rdLine_o e, h2] at h
    exact absurd h (by simp)
theorem lns_up {bl : List Int32} : ∀ (n p : Nat) (l : List (Int32 × List Int32)), lns false bl n p = some l → lns true bl n p = some l
  | 0, _, _, h => absurd h (by intro q; exact absurd q (by simp [lns]))
  | n + 1, p, l, h => by
    have h0 : (rdLine false bl p).bind (fun r => if bl.length ≤ r.2.2 then some [(r.1, r.2.1)] else if bl[r.2.2]? = some 59 then (lns false bl n (r.2.2 + 1)).map fun l => (r.1, r.2.1) :: l else none) = some l := h
    show (rdLine true bl p).bind (fun r => if bl.length ≤ r.2.2 then some [(r.1, r.2.1)] else if bl[r.2.2]? = some 59 then (lns true bl n (r.2.2 + 1)).map fun l => (r.1, r.2.1) :: l else none) = some l
    cases hr : rdLine false bl p with
    | none =>
      rw [hr] at h0
      exact absurd h0 (by simp)
    | some r =>
      rw [hr, obs] at h0
      rw [rdLine_up hr, obs]
      by_cases e1 : bl.length ≤ r.2.2
      · rw [if_pos e1] at h0 ⊢
        exact h0
      · rw [if_neg e1] at h0 ⊢
        by_cases e2 : bl[r.2.2]? = some 59
        · rw [if_pos e2] at h0 ⊢
          cases hl : lns false bl n (r.2.2 + 1) with
          | none =>
            rw [hl] at h0
            exact absurd h0 (by simp)
          | some l2 =>
            rw [hl] at h0
            rw [lns_up n _ l2 hl]
            exact h0
        · rw [if_neg e2] at h0
          exact absurd h0 (by simp)
theorem lns_dn {bl : List Int32} : ∀ (n p : Nat) (l : List (Int32 × List Int32)), lns true bl n p = some l → lns false bl n p = none → ∃ v, (115, [v]) ∈ l ∧ v < 1
  | 0, _, _, h, _ => absurd h (by intro q; exact absurd q (by simp [lns]))
  | n + 1, p, l, h, hn => by
    have h0 : (rdLine true bl p).bind (fun r => if bl.length ≤ r.2.2 then some [(r.1, r.2.1)] else if bl[r.2.2]? = some 59 then (lns true bl n (r.2.2 + 1)).map fun l => (r.1, r.2.1) :: l else none) = some l := h
    have hn0 : (rdLine false bl p).bind (fun r => if bl.length ≤ r.2.2 then some [(r.1, r.2.1)] else if bl[r.2.2]? = some 59 then (lns false bl n (r.2.2 + 1)).map fun l => (r.1, r.2.1) :: l else none) = none := hn
    cases hr : rdLine true bl p with
    | none =>
      rw [hr] at h0
      exact absurd h0 (by simp)
    | some r =>
      rw [hr, obs] at h0
      have first : (r.1, r.2.1) ∈ l := by
        by_cases e1 : bl.length ≤ r.2.2
        · rw [if_pos e1] at h0
          rw [← Option.some.inj h0]
          exact List.mem_cons_self
        · rw [if_neg e1] at h0
          by_cases e2 : bl[r.2.2]? = some 59
          · rw [if_pos e2] at h0
            cases hl : lns true bl n (r.2.2 + 1) with
            | none =>
              rw [hl] at h0
              exact absurd h0 (by simp)
            | some l2 =>
              rw [hl] at h0
              have e3 : (r.1, r.2.1) :: l2 = l := Option.some.inj h0
              rw [← e3]
              exact List.mem_cons_self
          · rw [if_neg e2] at h0
            exact absurd h0 (by simp)
      cases hf : rdLine false bl p with
      | none =>
        obtain ⟨d1, v, d2, d3⟩ := rdLine_dn (c := r.1) (ns := r.2.1) (q := r.2.2) hr hf
        refine ⟨v, ?_, d3⟩
        rw [d1, d2] at first
        exact first
      | some r2 =>
        have hu := rdLine_up hf
        rw [hr] at hu
        have er : r = r2 := Option.some.inj hu
        rw [hf, obs, ← er] at hn0
        by_cases e1 : bl.length ≤ r.2.2
        · rw [if_pos e1] at hn0
          exact absurd hn0 (by simp)
        · rw [if_neg e1] at h0 hn0
          by_cases e2 : bl[r.2.2]? = some 59
          · rw [if_pos e2] at h0 hn0
            cases hl : lns true bl n (r.2.2 + 1) with
            | none =>
              rw [hl] at h0
              exact absurd h0 (by simp)
            | some l2 =>
              rw [hl] at h0
              have e3 : (r.1, r.2.1) :: l2 = l := Option.some.inj h0
              cases hm : lns false bl n (r.2.2 + 1) with
              | none =>
                obtain ⟨v, v1, v2⟩ := lns_dn n _ l2 hl hm
                exact ⟨v, by rw [← e3]; exact List.mem_cons_of_mem _ v1, v2⟩
              | some l3 =>
                rw [hm] at hn0
                exact absurd hn0 (by simp)
          · rw [if_neg e2] at h0
            exact absurd h0 (by simp)
/-! the class reads -/
theorem lnT : ln 675 = 120 ∧ ln 677 = 5 := by decide +kernel
/-- of the tape's cells alone -/
def tO (S S1 : Mem) : Prop := ∀ b, b ≠ 673 → b ≠ 676 → b ≠ 677 → S1 b = S b
theorem tO.refl (S : Mem) : tO S S := fun _ _ _ _ => rfl
theorem tO.trans {S S1 S2 : Mem} (h : tO S S1) (k : tO S1 S2) : tO S S2 := fun b q1 q2 q3 => (k b q1 q2 q3).trans (h b q1 q2 q3)
theorem tO.up {S : Mem} {k : Nat} {v : Int32} : tO S (up2 S 673 k v) := fun b q _ _ => up2_off q
theorem tO.rn {S S1 : Mem} {bl : List Int32} (h : tO S S1) (hR : RN S 674 bl) : RN S1 674 bl := hR.congr (h _ (by decide) (by decide) (by decide)) (h _ (by decide) (by decide) (by decide))
section
variable {S : Mem} {bl : List Int32} {p : Nat}
theorem t_read (hR : RN S 674 bl) (hl : bl.length ≤ 120) (hp : S 673 3 = Int32.ofNat p) (hp2 : p < 1000) : ft_isRead 673 S = some (if p < bl.length then 0 else 1) := by
  unfold ft_isRead
  rw [hp, show S (673 + 1) 1 = Int32.ofNat bl.length from hR.1]
  by_cases e : p < bl.length
  · rw [if_pos e, if_pos ((n_lt (by omega) (by omega)).mpr e)]
  · rw [if_neg e, if_neg (fun q => e ((n_lt (by omega) (by omega)).mp q))]
theorem t_at (hR : RN S 674 bl) (hl : bl.length ≤ 120) {q : Int32} (hq : bl[p]? = some q) : fn_at (673 + 1) (Int32.ofNat p) S = some q := n_at_ok (o := 674) hR hq (by show _ ≤ ln 675; rw [lnT.1]; exact hl) (by show ln 675 < _; rw [lnT.1]; decide)
theorem t_next (hR : RN S 674 bl) (hl : bl.length ≤ 120) (hp : S 673 3 = Int32.ofNat p) (hp2 : p < 1000) (c : Int32) : ft_isNext 673 c S = some (if bl[p]? = some c then 1 else 0) := by
  unfold ft_isNext
  rw [t_read hR hl hp hp2, obs]
  by_cases e : p < bl.length
  · have hq : bl[p]? = some bl[p] := List.getElem?_eq_getElem e
    rw [if_pos e, if_pos rfl, hp, t_at hR hl hq, obs, hq]
    by_cases g : bl[p] = c
    · rw [if_pos g, if_pos (by rw [g])]
    · rw [if_neg g, if_neg (fun q => g (Option.some.inj q))]
  · rw [if_neg e, if_neg n10, if_neg (fun q => e (List.getElem?_eq_some_iff.mp q).1)]
theorem t_dig (hR : RN S 674 bl) (hl : bl.length ≤ 120) (hp : S 673 3 = Int32.ofNat p) (hp2 : p < 1000) : (∃ d, dg bl p = some d ∧ ft_isDigitNext 673 S = some 1 ∧ fn_at (673 + 1) (S 673 3) S = some d) ∨ (dg bl p = none ∧ ft_isDigitNext 673 S = some 0) := by
  unfold ft_isDigitNext dg
  rw [t_read hR hl hp hp2, obs]
  by_cases e : p < bl.length
  · have hq : bl[p]? = some bl[p] := List.getElem?_eq_getElem e
    have ha := t_at hR hl hq
    rw [if_pos e, if_pos rfl, hp, ha, obs, hq, obs]
    by_cases g1 : bl[p] < 48
    · rw [if_pos g1, if_neg (fun q => q.1 g1)]
      exact Or.inr ⟨rfl, rfl⟩
    · rw [if_neg g1, obs]
      by_cases g2 : 57 < bl[p]
      · rw [if_pos g2, if_neg (fun q => q.2 g2)]
        exact Or.inr ⟨rfl, rfl⟩
      · rw [if_neg g2, if_pos ⟨g1, g2⟩]
        exact Or.inl ⟨_, rfl, rfl, rfl⟩
  · rw [if_neg e, if_neg n10, List.getElem?_eq_none (by omega)]
    exact Or.inr ⟨rfl, rfl⟩
theorem t_54 {ns : List Int32} {v2 s0 s1 : Int32} (hR : RN S 674 bl) (hN : RN S 676 ns) (hl : bl.length ≤ 120) (hn : ns.length < 5) (hs : s1 + s0 = Int32.ofNat p) (hp2 : p < 900) : ∃ S1, tO S S1 ∧ S1 673 2 = S 673 2 ∧ ((∃ v q, rdD bl p = some (v, q) ∧ ft_readNumber_54 673 v2 s0 s1 673 S = some (1, S1) ∧ S1 673 3 = Int32.ofNat q ∧ RN S1 676 (ns ++ [if v2 = 0 then v else -v])) ∨ (rdD bl p = none ∧ ft_readNumber_54 673 v2 s0 s1 673 S = some (0, S1) ∧ S1 673 3 = Int32.ofNat p)) := by
  have o1 : tO S (up2 S 673 3 (Int32.ofNat p)) := tO.up
  have r1 : RN (up2 S 673 3 (Int32.ofNat p)) 674 bl := o1.rn hR
  have hN1 : ∀ (S1 : Mem) (v : Int32), S1 676 = S 676 → S1 677 = S 677 → ∃ S2, fn_add (673 + 3) v S1 = some (1, S2) ∧ RN S2 676 (ns ++ [v]) ∧ Only (cN 676) S1 S2 := fun S1 v e1 e2 => n_add_ok (o := 676) v (hN.congr e1 e2) (by show _ < ln 677; rw [lnT.2]; exact hn) (by show ln 677 < _; rw [lnT.2]; decide)
  have oN : ∀ {S1 S2 : Mem}, Only (cN 676) S1 S2 → tO S1 S2 ∧ S2 673 = S1 673 := fun h => ⟨fun b _ q2 q3 => h b fun q => q.elim q2 q3, h 673 fun q => by rcases q with q | q <;> omega⟩
  unfold ft_readNumber_54 rdD
  rw [hs, obs]
  rcases t_dig (p := p) r1 hl up2_self (by omega) with ⟨d, d1, d2, d3⟩ | ⟨d1, d2⟩
  · have o2 : tO (up2 S 673 3 (Int32.ofNat p)) (up2 (up2 S 673 3 (Int32.ofNat p)) 673 3 (Int32.ofNat (p + 1))) := tO.up
    have r2 : RN (up2 (up2 S 673 3 (Int32.ofNat p)) 673 3 (Int32.ofNat (p + 1))) 674 bl := o2.rn r1
    rw [d2, obs, if_neg n10, d3, obs, up2_self, n_succ, obs, d1, obs]
    rcases t_dig (p := p + 1) r2 hl up2_self (by omega) with ⟨e, e1, e2, e3⟩ | ⟨e1, e2⟩
    · rw [e2, obs, if_neg n10, e3, obs, up2_self, n_succ, obs, e1]
      obtain ⟨X, hX⟩ : ∃ X, X = up2 (up2 (up2 S 673 3 (Int32.ofNat p)) 673 3 (Int32.ofNat (p + 1))) 673 3 (Int32.ofNat (p + 1 + 1)) := ⟨_, rfl⟩
      have oX : tO S X := by
        rw [hX]
        exact (o1.trans o2).trans tO.up
      have x2 : X 673 2 = S 673 2 := by rw [hX, up2_nf (by decide), up2_nf (by decide), up2_nf (by decide)]
      have x3 : X 673 3 = Int32.ofNat (p + 2) := by rw [hX, up2_self]
      rw [← hX]
      have x676 : X 676 = S 676 := by rw [hX, up2_off (by decide), up2_off (by decide), up2_off (by decide)]
      have x677 : X 677 = S 677 := by rw [hX, up2_off (by decide), up2_off (by decide), up2_off (by decide)]
      by_cases z : v2 = 0
      · obtain ⟨S2, q1, q2, q3⟩ := hN1 X (10 * (d - 48) + e - 48) x676 x677
        rw [if_pos z, q1, bd_some]
        refine ⟨S2, oX.trans (oN q3).1, by rw [(oN q3).2, x2], Or.inl ⟨_, _, rfl, rfl, by rw [(oN q3).2, x3], ?_⟩⟩
        rw [if_pos z]
        exact q2
      · obtain ⟨S2, q1, q2, q3⟩ := hN1 X (-(10 * (d - 48) + e - 48)) x676 x677
        rw [if_neg z, q1, bd_some]
        refine ⟨S2, oX.trans (oN q3).1, by rw [(oN q3).2, x2], Or.inl ⟨_, _, rfl, rfl, by rw [(oN q3).2, x3], ?_⟩⟩
        rw [if_neg z]
        exact q2
    · rw [e2, obs, if_pos rfl, e1]
      obtain ⟨X, hX⟩ : ∃ X, X = up2 (up2 S 673 3 (Int32.ofNat p)) 673 3 (Int32.ofNat (p + 1)) := ⟨_, rfl⟩
      have oX : tO S X := by
        rw [hX]
        exact o1.trans o2
      have x2 : X 673 2 = S 673 2 := by rw [hX, up2_nf (by decide), up2_nf (by decide)]
      have x3 : X 673 3 = Int32.ofNat (p + 1) := by rw [hX, up2_self]
      rw [← hX]
      have x676 : X 676 = S 676 := by rw [hX, up2_off (by decide), up2_off (by decide)]
      have x677 : X 677 = S 677 := by rw [hX, up2_off (by decide), up2_off (by decide)]
      by_cases z : v2 = 0
      · obtain ⟨S2, q1, q2, q3⟩ := hN1 X (d - 48) x676 x677
        rw [if_pos z, q1, bd_some]
        refine ⟨S2, oX.trans (oN q3).1, by rw [(oN q3).2, x2], Or.inl ⟨_, _, rfl, rfl, by rw [(oN q3).2, x3], ?_⟩⟩
        rw [if_pos z]
        exact q2
      · obtain ⟨S2, q1, q2, q3⟩ := hN1 X (-(d - 48)) x676 x677
        rw [if_neg z, q1, bd_some]
        refine ⟨S2, oX.trans (oN q3).1, by rw [(oN q3).2, x2], Or.inl ⟨_, _, rfl, rfl, by rw [(oN q3).2, x3], ?_⟩⟩
        rw [if_neg z]
        exact q2
  · rw [d2, obs, if_pos rfl, d1]
    exact ⟨_, o1, up2_nf (by decide), Or.inr ⟨rfl, rfl, up2_self⟩⟩
theorem t_num {ns : List Int32} (neg : Bool) (hR : RN S 674 bl) (hN : RN S 676 ns) (hl : bl.length ≤ 120) (hn : ns.length < 5) (hp : S 673 3 = Int32.ofNat p) (hp2 : p < 800) : ∃ S1, tO S S1 ∧ S1 673 2 = S 673 2 ∧ ((∃ v q, rdNum bl neg p = some (v, q) ∧ ft_readNumber 673 (if neg = true then 1 else 0) S = some (1, S1) ∧ S1 673 3 = Int32.ofNat q ∧ RN S1 676 (ns ++ [v])) ∨ (rdNum bl neg p = none ∧ ft_readNumber 673 (if neg = true then 1 else 0) S = some (0, S1) ∧ ∃ q, q < 900 ∧ S1 673 3 = Int32.ofNat q)) := by
  unfold ft_readNumber rdNum
  rw [t_next hR hl hp (by omega), obs]
  by_cases e : bl[p]? = some 32
  · have o1 : tO S (up2 S 673 3 (Int32.ofNat (p + 1))) := tO.up
    have r1 : RN (up2 S 673 3 (Int32.ofNat (p + 1))) 674 bl := o1.rn hR
    have hN1 : RN (up2 S 673 3 (Int32.ofNat (p + 1))) 676 ns := hN.congr (up2_off (by decide)) (up2_off (by decide))
    have k2 : (up2 S 673 3 (Int32.ofNat (p + 1))) 673 2 = S 673 2 := up2_nf (by decide)
    have k3 : (up2 S 673 3 (Int32.ofNat (p + 1))) 673 3 = Int32.ofNat (p + 1) := up2_self
    rw [if_pos e, if_pos e, if_neg n10, hp, n_succ, obs, k3]
    have plain : (∃ S1, tO S S1 ∧ S1 673 2 = S 673 2 ∧ ((∃ v q, rdD bl (p + 1) = some (v, q) ∧ ft_readNumber_54 673 0 0 (Int32.ofNat (p + 1)) 673 (up2 S 673 3 (Int32.ofNat (p + 1))) = some (1, S1) ∧ S1 673 3 = Int32.ofNat q ∧ RN S1 676 (ns ++ [v])) ∨ (rdD bl (p + 1) = none ∧ ft_readNumber_54 673 0 0 (Int32.ofNat (p + 1)) 673 (up2 S 673 3 (Int32.ofNat (p + 1))) = some (0, S1) ∧ ∃ q, q < 900 ∧ S1 673 3 = Int32.ofNat q))) := by
      obtain ⟨S1, q1, q2, q3⟩ := t_54 (p := p + 1) (v2 := 0) (s0 := 0) (s1 := Int32.ofNat (p + 1)) r1 hN1 hl hn (Int32.add_zero _) (by omega)
      refine ⟨S1, o1.trans q1, q2.trans k2, ?_⟩
      rcases q3 with ⟨v, q, a1, a2, a3, a4⟩ | ⟨a1, a2, a3⟩
      · rw [if_pos rfl] at a4
        exact Or.inl ⟨v, q, a1, a2, a3, a4⟩
      · exact Or.inr ⟨a1, a2, p + 1, by omega, a3⟩
    cases neg with
    | false =>
      rw [if_neg (show ¬ (false = true ∧ bl[p + 1]? = some 45) from fun q => absurd q.1 (by decide)), if_neg (show ¬ (false = true) by decide), if_pos rfl]
      exact plain
    | true =>
      rw [if_pos rfl, if_neg n10, t_next r1 hl k3 (by omega), obs]
      by_cases g : bl[p + 1]? = some 45
      · obtain ⟨S1, q1, q2, q3⟩ := t_54 (p := p + 2) (v2 := 1) (s0 := 1) (s1 := Int32.ofNat (p + 1)) r1 hN1 hl hn (n_succ _) (by omega)
        rw [if_pos g, if_neg n10, if_pos ⟨rfl, g⟩]
        refine ⟨S1, o1.trans q1, q2.trans k2, ?_⟩
        rcases q3 with ⟨v, q, a1, a2, a3, a4⟩ | ⟨a1, a2, a3⟩
        · rw [if_neg n10] at a4
          exact Or.inl ⟨-v, q, by rw [a1]; rfl, a2, a3, a4⟩
        · exact Or.inr ⟨by rw [a1]; rfl, a2, p + 2, by omega, a3⟩
      · rw [if_neg g, if_pos rfl, if_neg (fun q => g q.2)]
        exact plain
  · rw [if_neg e, if_neg e, if_pos rfl]
    exact ⟨S, tO.refl S, rfl, Or.inr ⟨rfl, rfl, p, by omega, hp⟩⟩
end
theorem cn_le {c : Int32} : cn c ≤ 5 := by
  unfold cn
  split
  · decide
  split <;> decide
/-- a number of a line -/
theorem t_93 {k93 : Nat → Int32 → Int32 → Mem → Option (Int32 × Mem)} {S : Mem} {c : Int32} {k : Nat} (hc : c = 97 ∨ c = 109 ∨ c = 115) (hk : S 673 2 = c) (h1 : 1 ≤ k) (h2 : k ≤ cn c) : ft_readLine_93b k93 673 (Int32.ofNat (cn c)) (Int32.ofNat k) S = bd (ft_readNumber 673 (if gF true c k = true then 1 else 0) S) fun x1 S1 => if x1 = 0 then (some (0, S1)) else (k93 673 (Int32.ofNat (cn c)) (Int32.ofNat (k + 1)) S1) := by
  have h5 := cn_le (c := c)
  unfold ft_readLine_93b
  rw [if_neg (fun q => by rw [n_lt (by omega) (by omega)] at q; omega), hk, n_succ]
  rcases hc with rfl | rfl | rfl
  · rw [if_pos rfl, if_neg (show ¬ gF true 97 k = true by unfold gF; simp)]
  · have : k = 1 ∨ k = 2 := by
      have : cn 109 = 2 := rfl
      omega
    rcases this with rfl | rfl
    · rw [if_neg (by decide), if_neg (by decide), if_neg (show ¬ gF true 109 1 = true by decide)]
    · rw [if_neg (by decide), if_pos (show Int32.ofNat 2 = Int32.ofNat (cn 109) from rfl), if_pos (show gF true 109 2 = true by decide)]
  · have : k = 1 := by
      have : cn 115 = 1 := rfl
      omega
    subst this
    rw [if_neg (by decide), if_pos (show Int32.ofNat 1 = Int32.ofNat (cn 115) from rfl), if_pos (show gF true 115 1 = true by decide)]
theorem t_nums {bl : List Int32} {c : Int32} (hc : c = 97 ∨ c = 109 ∨ c = 115) (hl : bl.length ≤ 120) : ∀ (m n k p : Nat) (ns : List Int32) (S : Mem), k + m = cn c + 1 → m < n → 1 ≤ k → ns.length + 1 = k → RN S 674 bl → RN S 676 ns → S 673 2 = c → S 673 3 = Int32.ofNat p → p ≤ 130 → ∃ S1, tO S S1 ∧ S1 673 2 = c ∧ ((∃ vs q, rdN (gF true c) bl m k p = some (vs, q) ∧ ft_readLine_93 n 673 (Int32.ofNat (cn c)) (Int32.ofNat k) S = some (1, S1) ∧ S1 673 3 = Int32.ofNat q ∧ RN S1 676 (ns ++ vs)) ∨ (rdN (gF true c) bl m k p = none ∧ ft_readLine_93 n 673 (Int32.ofNat (cn c)) (Int32.ofNat k) S = some (0, S1) ∧ ∃ q, q < 900 ∧ S1 673 3 = Int32.ofNat q))
  | _, 0, _, _, _, _, _, h, _, _, _, _, _, _, _ => absurd h (Nat.not_lt_zero _)
  | 0, n + 1, k, p, ns, S, h, _, _, _, hR, hN, h2, h3, _ => by
    have h5 := cn_le (c := c)
    refine ⟨S, tO.refl S, h2, Or.inl ⟨[], p, rfl, ?_, h3, by rw [List.append_nil]; exact hN⟩⟩
    show ft_readLine_93b (ft_readLine_93 n) 673 (Int32.ofNat (cn c)) (Int32.ofNat k) S = _
    unfold ft_readLine_93b
    rw [if_pos ((n_lt (by omega) (by omega)).mpr (by omega))]
  | m + 1, n + 1, k, p, ns, S, h, hn, h1, hns, hR, hN, h2, h3, hp => by
    have h5 := cn_le (c := c)
    obtain ⟨S1, q1, q2, q3⟩ := t_num (p := p) (gF true c k) hR hN hl (by omega) h3 (by omega)
    have e : ∀ x, ft_readLine_93 (n + 1) 673 (Int32.ofNat (cn c)) (Int32.ofNat k) S = x ↔ (bd (ft_readNumber 673 (if gF true c k = true then 1 else 0) S) fun x1 S1 => if x1 = 0 then (some (0, S1)) else (ft_readLine_93 n 673 (Int32.ofNat (cn c)) (Int32.ofNat (k + 1)) S1)) = x := fun x => by
      rw [← t_93 (k93 := ft_readLine_93 n) hc h2 h1 (by omega)]
      exact Iff.rfl
    have er : rdN (gF true c) bl (m + 1) k p = (rdNum bl (gF true c k) p).bind fun r => (rdN (gF true c) bl m (k + 1) r.2).map fun t => (r.1 :: t.1, t.2) := rfl
    rw [er]
    simp only [e]
    rcases q3 with ⟨v, q, a1, a2, a3, a4⟩ | ⟨a1, a2, a3⟩
    · obtain ⟨-, -, o3, -⟩ := rdNum_some a1
      obtain ⟨S2, p1, p2, p3⟩ := t_nums hc hl m n (k + 1) q (ns ++ [v]) S1 (by omega) (by omega) (by omega) (by rw [List.length_append]; show ns.length + 1 + 1 = k + 1; omega) (q1.rn hR) a4 (q2.trans h2) a3 (by omega)
      refine ⟨S2, q1.trans p1, p2, ?_⟩
      rw [a1, obs, a2, bd_some, if_neg n10]
      rcases p3 with ⟨vs, q', b1, b2, b3, b4⟩ | ⟨b1, b2, b3⟩
      · refine Or.inl ⟨v :: vs, q', by rw [b1]; rfl, b2, b3, ?_⟩
        rw [List.append_assoc] at b4
        exact b4
      · exact Or.inr ⟨by rw [b1]; rfl, b2, b3⟩
    · refine ⟨S1, q1, q2.trans h2, ?_⟩
      rw [a1, a2, bd_some, if_pos rfl]
      exact Or.inr ⟨rfl, rfl, a3⟩
theorem t_line {S : Mem} {bl : List Int32} {p : Nat} (hR : RN S 674 bl) (hl : bl.length ≤ 120) (hp : S 673 3 = Int32.ofNat p) (hp2 : p ≤ 125) : ∃ S1, tO S S1 ∧ ((∃ c ns q, rdLine true bl p = some (c, ns, q) ∧ ft_readLine 673 S = some (1, S1) ∧ S1 673 2 = c ∧ S1 673 3 = Int32.ofNat q ∧ RN S1 676 ns) ∨ (rdLine true bl p = none ∧ ft_readLine 673 S = some (0, S1) ∧ ∃ q, q < 900 ∧ S1 673 3 = Int32.ofNat q)) := by
  obtain ⟨S0, hS0⟩ : ∃ S0, S0 = up2 S (673 + 3) 1 0 := ⟨_, rfl⟩
  have o0 : tO S S0 := fun b _ q2 _ => by
    rw [hS0]
    exact up2_off q2
  have r0 : RN S0 674 bl := o0.rn hR
  have p0 : S0 673 3 = Int32.ofNat p := by
    rw [hS0, up2_off (by decide)]
    exact hp
  have n0 : RN S0 676 [] := RN.len0 (by rw [hS0]; exact up2_self)
  unfold ft_readLine rdLine
  rw [← hS0, obs, t_read r0 hl p0 (by omega), obs]
  by_cases e : p < bl.length
  · have hq : bl[p]? = some bl[p] := List.getElem?_eq_getElem e
    generalize bl[p] = c at hq
    rw [if_pos e, if_pos rfl, p0, t_at r0 hl hq, obs, hq, obs]
    unfold ft_readLine_31
    have key : (c = 97 ∨ c = 109 ∨ c = 115) → ∃ S1, tO S S1 ∧ ((∃ c' ns q, (rdN (gF true c) bl (cn c) 1 (p + 1)).map (fun r => (c, r.1, r.2)) = some (c', ns, q) ∧ ft_readLine_93 LF 673 (Int32.ofNat (cn c)) 1 (up2 (up2 S0 673 2 c) 673 3 (Int32.ofNat (p + 1))) = some (1, S1) ∧ S1 673 2 = c' ∧ S1 673 3 = Int32.ofNat q ∧ RN S1 676 ns) ∨ ((rdN (gF true c) bl (cn c) 1 (p + 1)).map (fun r => (c, r.1, r.2)) = none ∧ ft_readLine_93 LF 673 (Int32.ofNat (cn c)) 1 (up2 (up2 S0 673 2 c) 673 3 (Int32.ofNat (p + 1))) = some (0, S1) ∧ ∃ q, q < 900 ∧ S1 673 3 = Int32.ofNat q)) := fun hc => by
      have h5 := cn_le (c := c)
      have o2 : tO S0 (up2 (up2 S0 673 2 c) 673 3 (Int32.ofNat (p + 1))) := (tO.up (k := 2) (v := c)).trans tO.up
      obtain ⟨S1, q1, q2, q3⟩ := t_nums hc hl (cn c) LF 1 (p + 1) [] (up2 (up2 S0 673 2 c) 673 3 (Int32.ofNat (p + 1))) (by omega) (by show cn c < 3000; omega) (Nat.le_refl _) rfl (o2.rn r0) (n0.congr (by rw [up2_off (by decide), up2_off (by decide)]) (by rw [up2_off (by decide), up2_off (by decide)])) (by rw [up2_nf (by decide), up2_self]) up2_self (by omega)
      refine ⟨S1, (o0.trans o2).trans q1, ?_⟩
      rcases q3 with ⟨vs, q, a1, a2, a3, a4⟩ | ⟨a1, a2, a3⟩
      · exact Or.inl ⟨c, vs, q, by rw [a1]; rfl, a2, q2, a3, a4⟩
      · exact Or.inr ⟨by rw [a1]; rfl, a2, a3⟩
    have x2 : up2 S0 673 2 c 673 2 = c := up2_self
    have x3 : up2 S0 673 2 c 673 3 = Int32.ofNat p := by
      rw [up2_nf (by decide)]
      exact p0
    rw [obs, x2, x3, n_succ]
    by_cases c1 : c = 97
    · rw [if_pos (Or.inl c1), if_pos c1, obs]
      have e5 : cn c = 5 := by rw [c1]; rfl
      have := key (Or.inl c1)
      rw [e5] at this ⊢
      exact this
    rw [if_neg c1]
    by_cases c2 : c = 109
    · rw [if_pos (Or.inr (Or.inl c2)), if_pos c2, obs]
      have e5 : cn c = 2 := by rw [c2]; rfl
      have := key (Or.inr (Or.inl c2))
      rw [e5] at this ⊢
      exact this
    rw [if_neg c2]
    by_cases c3 : c = 115
    · rw [if_pos (Or.inr (Or.inr c3)), if_pos c3, obs]
      have e5 : cn c = 1 := by rw [c3]; rfl
      have := key (Or.inr (Or.inr c3))
      rw [e5] at this ⊢
      exact this
    rw [if_neg c3, if_neg (fun q => q.elim c1 fun q => q.elim c2 c3)]
    exact ⟨_, o0.trans tO.up, Or.inr ⟨rfl, rfl, p, by omega, x3⟩⟩
  · rw [if_neg e, if_neg n10, List.getElem?_eq_none (by omega)]
    unfold ft_readLine_31
    have x3 : up2 S0 673 2 (-1) 673 3 = Int32.ofNat p := by
      rw [up2_nf (by decide)]
      exact p0
    rw [obs, up2_self, if_neg (by decide), if_neg (by decide), if_neg (by decide)]
    exact ⟨_, o0.trans tO.up, Or.inr ⟨rfl, rfl, p, by omega, x3⟩⟩
/-- the form: no fault (-1), or a place -/
theorem t_form {bl : List Int32} (hl : bl.length ≤ 120) : ∀ (m n k p : Nat) (S : Mem), k + m = 120 → m < n → RN S 674 bl → S 673 3 = Int32.ofNat p → p ≤ 121 → ∃ S1, tO S S1 ∧ ((∃ l, lns true bl m p = some l ∧ ft_faultOfForm_7 n 673 (Int32.ofNat k) S = some (-1, S1)) ∨ (lns true bl m p = none ∧ ∃ q, q < 900 ∧ ft_faultOfForm_7 n 673 (Int32.ofNat k) S = some (Int32.ofNat q, S1)))
  | _, 0, _, _, _, _, h, _, _, _ => absurd h (Nat.not_lt_zero _)
  | 0, n + 1, k, p, S, h, _, hR, hp, hp2 => by
    have e : k = 120 := by omega
    subst e
    refine ⟨S, tO.refl S, Or.inr ⟨rfl, p, by omega, ?_⟩⟩
    show ft_faultOfForm_7b (ft_faultOfForm_7 n) 673 (Int32.ofNat 120) S = _
    unfold ft_faultOfForm_7b
    rw [if_pos (by decide), hp]
  | m + 1, n + 1, k, p, S, h, hn, hR, hp, hp2 => by
    obtain ⟨S1, q1, q2⟩ := t_line hR hl hp (by omega)
    have el : lns true bl (m + 1) p = (rdLine true bl p).bind fun r => if bl.length ≤ r.2.2 then some [(r.1, r.2.1)] else if bl[r.2.2]? = some 59 then (lns true bl m (r.2.2 + 1)).map fun l => (r.1, r.2.1) :: l else none := rfl
    have ef : ft_faultOfForm_7 (n + 1) 673 (Int32.ofNat k) S = ft_faultOfForm_7b (ft_faultOfForm_7 n) 673 (Int32.ofNat k) S := rfl
    rw [el, ef]
    unfold ft_faultOfForm_7b
    rw [if_neg (fun q => by rw [show (120 : Int32) = Int32.ofNat 120 from rfl, n_le (by decide) (by omega)] at q; omega)]
    rcases q2 with ⟨c, ns, q, a1, a2, a3, a4, a5⟩ | ⟨a1, a2, q, a3, a4⟩
    · obtain ⟨-, l2, l3, -⟩ := rdLine_len a1
      have r1 := q1.rn hR
      rw [a1, obs, a2, bd_some, if_neg n10, t_read r1 hl a4 (by omega), obs]
      dsimp only
      by_cases e : q < bl.length
      · have hq : bl[q]? = some bl[q] := List.getElem?_eq_getElem e
        rw [if_pos e, if_pos rfl, a4, t_at r1 hl hq, obs, if_neg (show ¬ bl.length ≤ q by omega), hq]
        by_cases g : bl[q] = 59
        · obtain ⟨S2, p1, p2⟩ := t_form hl m n (k + 1) (q + 1) (up2 S1 673 3 (Int32.ofNat (q + 1))) (by omega) (by omega) (tO.up.rn r1) up2_self (by omega)
          rw [if_pos g, if_pos (by rw [g]), n_succ, n_succ, obs]
          refine ⟨S2, (q1.trans tO.up).trans p1, ?_⟩
          rcases p2 with ⟨l, b1, b2⟩ | ⟨b1, b2⟩
          · exact Or.inl ⟨(c, ns) :: l, by rw [b1]; rfl, b2⟩
          · exact Or.inr ⟨by rw [b1]; rfl, b2⟩
        · rw [if_neg g, if_neg (fun x => g (Option.some.inj x))]
          exact ⟨S1, q1, Or.inr ⟨rfl, q, by omega, rfl⟩⟩
      · rw [if_neg e, if_neg n10, if_pos (show bl.length ≤ q by omega)]
        exact ⟨S1, q1, Or.inl ⟨_, rfl, rfl⟩⟩
    · rw [a1, a2, bd_some, if_pos rfl, a4]
      exact ⟨S1, q1, Or.inr ⟨rfl, q, a3, rfl⟩⟩
