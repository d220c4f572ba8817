/-! 60: texts: the reference reads -/
/-- of the reading's cells alone -/
def pO (S S1 : Mem) : Prop := (∀ b, b ≠ 697 → b ≠ 716 → S1 b = S b) ∧ ∀ k, k ≠ 19 → k ≠ 20 → S1 697 k = S 697 k
theorem pO.refl (S : Mem) : pO S S := ⟨fun _ _ _ => rfl, fun _ _ _ => rfl⟩
theorem pO.trans {S S1 S2 : Mem} (h : pO S S1) (k : pO S1 S2) : pO S S2 := ⟨fun b q1 q2 => (k.1 b q1 q2).trans (h.1 b q1 q2), fun j q1 q2 => (k.2 j q1 q2).trans (h.2 j q1 q2)⟩
theorem pO.up {S : Mem} {k : Nat} {v : Int32} (h : k = 19 ∨ k = 20) : pO S (up2 S 697 k v) := ⟨fun b q _ => up2_off q, fun j q1 q2 => up2_nf (by rcases h with h | h <;> omega)⟩
theorem pO.told {S : Mem} {k : Nat} {v : Int32} : pO S (up2 S 716 k v) := ⟨fun b _ q => up2_off q, fun j _ _ => by rw [up2_off (by decide)]⟩
theorem pO.tape {S S1 : Mem} {bl : List Int32} (h : pO S S1) (hT : MTp S bl) : MTp S1 bl := hT.congr (h.2 11 (by decide) (by decide)) (h.1 703 (by decide) (by decide))
/-- no fault yet, and where -/
def mG (S : Mem) (p : Nat) : Prop := S 697 19 = Int32.ofNat p ∧ S 697 20 = -1
/-- a fault -/
def mB (S : Mem) : Prop := 0 ≤ S 697 20
theorem lnM : ln 716 = 5 := by decide +kernel
section
variable {S : Mem} {bl : List Int32} {p : Nat}
theorem m_sees_ok (hT : MTp S bl) (hl : bl.length ≤ 120) (hG : mG S p) (hp : p < 1000) (l m : Int32) : (∃ q, bl[p]? = some q ∧ (¬ q < l ∧ ¬ m < q) ∧ fm_sees l m S = some 1) ∨ ((∀ q, bl[p]? = some q → ¬ (¬ q < l ∧ ¬ m < q)) ∧ fm_sees l m S = some 0) := by
  unfold fm_sees
  rw [hG.2, if_neg (by decide), hG.1, hT.1]
  by_cases e : p < bl.length
  · have hq : bl[p]? = some bl[p] := List.getElem?_eq_getElem e
    have hq2 : S 703 p = bl[p] := by
      have := hT.2 p e
      rw [hq] at this
      exact (Option.some.inj this).symm
    rw [if_neg (fun q => by rw [n_le (by omega) (by omega)] at q; omega), ald_n (by rw [ln703.1]; omega) (by rw [ln703.1]; decide), obs, hq2, in_ok, obs]
    by_cases g : ¬ bl[p] < l ∧ ¬ m < bl[p]
    · rw [if_pos g, if_neg n10]
      exact Or.inl ⟨_, hq, g, rfl⟩
    · rw [if_neg g, if_pos rfl]
      refine Or.inr ⟨fun q h => ?_, rfl⟩
      rw [hq] at h
      rw [← Option.some.inj h]
      exact g
  · rw [if_pos ((n_le (by omega) (by omega)).mpr (by omega))]
    refine Or.inr ⟨fun q h => ?_, rfl⟩
    exact absurd (List.getElem?_eq_some_iff.mp h).1 e
theorem m_sees_f (hB : mB S) (l m : Int32) : fm_sees l m S = some 0 := by
  unfold fm_sees
  rw [if_pos (show 0 ≤ S 697 20 from hB)]
theorem m_must_ok (hT : MTp S bl) (hl : bl.length ≤ 120) (hG : mG S p) (hp : p < 1000) (l m : Int32) : (∃ q S1, bl[p]? = some q ∧ (¬ q < l ∧ ¬ m < q) ∧ fm_must l m S = some (q, S1) ∧ pO S S1 ∧ mG S1 (p + 1) ∧ S1 716 = S 716) ∨ ((∀ q, bl[p]? = some q → ¬ (¬ q < l ∧ ¬ m < q)) ∧ ∃ S1, fm_must l m S = some (l, S1) ∧ pO S S1 ∧ mB S1 ∧ S1 716 = S 716) := by
  unfold fm_must
  rcases m_sees_ok hT hl hG hp l m with ⟨q, a1, a2, a3⟩ | ⟨a1, a2⟩
  · have hlt := (List.getElem?_eq_some_iff.mp a1).1
    have hq2 : (up2 S 697 19 (Int32.ofNat (p + 1))) 703 p = q := by
      rw [up2_off (by decide)]
      have := hT.2 p hlt
      rw [a1] at this
      exact (Option.some.inj this).symm
    rw [a3, obs, if_neg n10, hG.1, n_succ, obs, ald_n (by rw [ln703.1]; omega) (by rw [ln703.1]; decide), obs, hq2]
    exact Or.inl ⟨q, _, a1, a2, rfl, pO.up (Or.inl rfl), ⟨up2_self, by rw [up2_nf (by decide)]; exact hG.2⟩, up2_off (by decide)⟩
  · rw [a2, obs, if_pos rfl, hG.2, if_neg (by decide), hG.1, obs]
    refine Or.inr ⟨a1, _, rfl, pO.up (Or.inr rfl), ?_, up2_off (by decide)⟩
    unfold mB
    rw [up2_self]
    exact nn0 (by omega)
theorem m_must_f (hB : mB S) (l m : Int32) : ∃ S1, fm_must l m S = some (l, S1) ∧ pO S S1 ∧ mB S1 ∧ S1 716 = S 716 := by
  unfold fm_must
  rw [m_sees_f hB, obs, if_pos rfl, if_pos (show 0 ≤ S 697 20 from hB), obs]
  refine ⟨_, rfl, pO.up (Or.inr rfl), ?_, up2_off (by decide)⟩
  unfold mB
  rw [up2_self]
  exact hB
theorem m_44_f (hB : mB S) (v2 s0 s1 : Int32) : ∃ v S1, fm_number_44 v2 s0 s1 S = some (v, S1) ∧ pO S S1 ∧ mB S1 ∧ S1 716 = S 716 := by
  have hB0 : mB (up2 S 697 19 (s1 + s0)) := by
    unfold mB
    rw [up2_nf (by decide)]
    exact hB
  obtain ⟨S1, q1, q2, q3, q4⟩ := m_must_f hB0 48 57
  unfold fm_number_44
  rw [obs, q1, bd_some, m_sees_f q3, obs, if_pos rfl]
  have o := (pO.up (S := S) (k := 19) (v := s1 + s0) (Or.inl rfl)).trans q2
  have e := q4.trans (up2_off (S := S) (a := 697) (f := 19) (v := s1 + s0) (by decide))
  split
  · exact ⟨_, _, rfl, o, q3, e⟩
  · exact ⟨_, _, rfl, o, q3, e⟩
theorem m_num_f (hB : mB S) (v1 : Int32) : ∃ v S1, fm_number v1 S = some (v, S1) ∧ pO S S1 ∧ mB S1 ∧ S1 716 = S 716 := by
  obtain ⟨S1, q1, q2, q3, q4⟩ := m_must_f hB 32 32
  unfold fm_number
  rw [q1, bd_some]
  have go : ∀ s0 v2 : Int32, ∃ v S2, fm_number_44 v2 s0 (S1 697 19) S1 = some (v, S2) ∧ pO S S2 ∧ mB S2 ∧ S2 716 = S 716 := fun s0 v2 => by
    obtain ⟨v, S2, p1, p2, p3, p4⟩ := m_44_f q3 v2 s0 (S1 697 19)
    exact ⟨v, S2, p1, q2.trans p2, p3, p4.trans q4⟩
  by_cases z : v1 = 0
  · rw [if_pos z]
    exact go 0 0
  · rw [if_neg z, m_sees_f q3, obs, if_pos rfl]
    exact go 0 0
theorem rng_eq {q c : Int32} : (¬ q < c ∧ ¬ c < q) ↔ q = c := by
  refine ⟨fun h => ?_, fun h => by rw [h]; exact ⟨fun q => Int32.lt_irrefl q, fun q => Int32.lt_irrefl q⟩⟩
  apply Int32.toInt_inj.mp
  have h1 := h.1
  have h2 := h.2
  rw [Int32.lt_iff_toInt_lt] at h1 h2
  omega
theorem dg_of {q : Int32} (h : bl[p]? = some q) (hr : ¬ q < 48 ∧ ¬ 57 < q) : dg bl p = some q := by
  unfold dg
  rw [h, obs, if_pos hr]
theorem dg_no (h : ∀ q, bl[p]? = some q → ¬ (¬ q < 48 ∧ ¬ 57 < q)) : dg bl p = none := by
  unfold dg
  cases hb : bl[p]? with
  | none => rfl
  | some q =>
    rw [obs, if_neg (h q hb)]
theorem m_44 {v2 s0 s1 : Int32} (hT : MTp S bl) (hl : bl.length ≤ 120) (hs : s1 + s0 = Int32.ofNat p) (h20 : S 697 20 = -1) (hp : p < 900) : (∃ v q S1, rdD bl p = some (v, q) ∧ fm_number_44 v2 s0 s1 S = some (if v2 = 0 then v else -v, S1) ∧ pO S S1 ∧ mG S1 q ∧ S1 716 = S 716) ∨ (rdD bl p = none ∧ ∃ v S1, fm_number_44 v2 s0 s1 S = some (v, S1) ∧ pO S S1 ∧ mB S1 ∧ S1 716 = S 716) := by
  have o0 : pO S (up2 S 697 19 (Int32.ofNat p)) := pO.up (Or.inl rfl)
  have G0 : mG (up2 S 697 19 (Int32.ofNat p)) p := ⟨up2_self, by rw [up2_nf (by decide)]; exact h20⟩
  have e0 : (up2 S 697 19 (Int32.ofNat p)) 716 = S 716 := up2_off (by decide)
  unfold fm_number_44 rdD
  rw [hs, obs]
  rcases m_must_ok (o0.tape hT) hl G0 (by omega) 48 57 with ⟨d, S1, a1, a2, a3, a4, a5, a6⟩ | ⟨a1, S1, a3, a4, a5, a6⟩
  · rw [a3, bd_some, dg_of a1 a2, obs]
    have T1 := (o0.trans a4).tape hT
    rcases m_sees_ok T1 hl a5 (by omega) 48 57 with ⟨e, b1, b2, b3⟩ | ⟨b1, b3⟩
    · rw [b3, obs, if_neg n10, dg_of b1 b2]
      rcases m_must_ok T1 hl a5 (by omega) 48 57 with ⟨e', S2, c1, c2, c3, c4, c5, c6⟩ | ⟨c1, -⟩
      · have ee : e = e' := by
          rw [b1] at c1
          exact Option.some.inj c1
        rw [c3, bd_some]
        refine Or.inl ⟨_, _, S2, rfl, ?_, (o0.trans a4).trans c4, c5, c6.trans (a6.trans e0)⟩
        rw [ee]
        split <;> rfl
      · exact absurd b2 (c1 e b1)
    · rw [b3, obs, if_pos rfl, dg_no b1]
      refine Or.inl ⟨_, _, S1, rfl, ?_, o0.trans a4, a5, a6.trans e0⟩
      split <;> rfl
  · rw [a3, bd_some, m_sees_f a5, obs, if_pos rfl, dg_no a1]
    refine Or.inr ⟨rfl, ?_⟩
    split
    · exact ⟨_, S1, rfl, o0.trans a4, a5, a6.trans e0⟩
    · exact ⟨_, S1, rfl, o0.trans a4, a5, a6.trans e0⟩
theorem m_num (neg : Bool) (hT : MTp S bl) (hl : bl.length ≤ 120) (hG : mG S p) (hp : p < 800) : (∃ v q S1, rdNum bl neg p = some (v, q) ∧ fm_number (if neg = true then 1 else 0) S = some (v, S1) ∧ pO S S1 ∧ mG S1 q ∧ S1 716 = S 716) ∨ (rdNum bl neg p = none ∧ ∃ v S1, fm_number (if neg = true then 1 else 0) S = some (v, S1) ∧ pO S S1 ∧ mB S1 ∧ S1 716 = S 716) := by
  unfold fm_number rdNum
  rcases m_must_ok hT hl hG (by omega) 32 32 with ⟨q, S1, a1, a2, a3, a4, a5, a6⟩ | ⟨a1, S1, a3, a4, a5, a6⟩
  · have e32 : bl[p]? = some 32 := by
      rw [a1, rng_eq.mp a2]
    have T1 := a4.tape hT
    have plain : (∃ v q S2, rdD bl (p + 1) = some (v, q) ∧ fm_number_44 0 0 (S1 697 19) S1 = some (v, S2) ∧ pO S S2 ∧ mG S2 q ∧ S2 716 = S 716) ∨ (rdD bl (p + 1) = none ∧ ∃ v S2, fm_number_44 0 0 (S1 697 19) S1 = some (v, S2) ∧ pO S S2 ∧ mB S2 ∧ S2 716 = S 716) := by
      rcases m_44 (p := p + 1) (v2 := 0) (s0 := 0) (s1 := S1 697 19) T1 hl (by rw [a5.1]; exact Int32.add_zero _) a5.2 (by omega) with ⟨v, q, S2, b1, b2, b3, b4, b5⟩ | ⟨b1, v, S2, b2, b3, b4, b5⟩
      · rw [if_pos rfl] at b2
        exact Or.inl ⟨v, q, S2, b1, b2, a4.trans b3, b4, b5.trans a6⟩
      · exact Or.inr ⟨b1, v, S2, b2, a4.trans b3, b4, b5.trans a6⟩
    rw [a3, bd_some, if_pos e32]
    cases neg with
    | false =>
      rw [if_neg (show ¬ (false = true ∧ bl[p + 1]? = some 45) from fun q => absurd q.1 (by decide)), if_neg (show ¬ (false = true) by decide), if_pos rfl]
      exact plain
    | true =>
      rw [if_pos rfl, if_neg n10]
      rcases m_sees_ok T1 hl a5 (by omega) 45 45 with ⟨q2, b1, b2, b3⟩ | ⟨b1, b3⟩
      · have e45 : bl[p + 1]? = some 45 := by rw [b1, rng_eq.mp b2]
        rw [b3, obs, if_neg n10, if_pos ⟨rfl, e45⟩]
        rcases m_44 (p := p + 2) (v2 := 1) (s0 := 1) (s1 := S1 697 19) T1 hl (by rw [a5.1]; exact n_succ _) a5.2 (by omega) with ⟨v, q, S2, c1, c2, c3, c4, c5⟩ | ⟨c1, v, S2, c2, c3, c4, c5⟩
        · rw [if_neg n10] at c2
          exact Or.inl ⟨-v, q, S2, by rw [c1]; rfl, c2, a4.trans c3, c4, c5.trans a6⟩
        · exact Or.inr ⟨by rw [c1]; rfl, v, S2, c2, a4.trans c3, c4, c5.trans a6⟩
      · rw [b3, obs, if_pos rfl, if_neg (fun q => b1 45 q.2 (rng_eq.mpr rfl))]
        exact plain
  · rw [a3, bd_some, if_neg (fun q => a1 32 q (rng_eq.mpr rfl))]
    refine Or.inr ⟨rfl, ?_⟩
    have go : ∃ v S2, fm_number_44 0 0 (S1 697 19) S1 = some (v, S2) ∧ pO S S2 ∧ mB S2 ∧ S2 716 = S 716 := by
      obtain ⟨v, S2, p1, p2, p3, p4⟩ := m_44_f a5 0 0 (S1 697 19)
      exact ⟨v, S2, p1, a4.trans p2, p3, p4.trans a6⟩
    cases neg with
    | false =>
      rw [if_neg (show ¬ (false = true) by decide), if_pos rfl]
      exact go
    | true =>
      rw [if_pos rfl, if_neg n10, m_sees_f a5, obs, if_pos rfl]
      exact go
end
/-- a number of a line -/
theorem m_74 {k74 : Int32 → Int32 → Int32 → Mem → Option (Int32 × Mem)} {S : Mem} {c : Int32} {i : Nat} (hc : c = 97 ∨ c = 109 ∨ c = 115) (h2 : i < cn c) : fm_line_74b k74 c (Int32.ofNat (cn c)) (Int32.ofNat i) S = bd (fm_number (if gF false c (1 + i) = true then 1 else 0) S) fun x1 S1 => (ast S1 716 (Int32.ofNat i) x1).bind fun S2 => k74 c (Int32.ofNat (cn c)) (Int32.ofNat (i + 1)) S2 := by
  have h5 := cn_le (c := c)
  unfold fm_line_74b
  rw [if_neg (fun q => by rw [n_le (by omega) (by omega)] at q; omega), n_succ]
  rcases hc with rfl | rfl | rfl
  · rw [if_neg (by decide), if_neg (show ¬ gF false 97 (1 + i) = true by unfold gF; simp)]
  · have : i = 0 ∨ i = 1 := by
      have : cn 109 = 2 := rfl
      omega
    rcases this with rfl | rfl
    · rw [if_pos rfl, if_neg (by decide), if_neg (show ¬ gF false 109 (1 + 0) = true by decide)]
    · rw [if_pos rfl, if_pos (show Int32.ofNat 1 = 1 from rfl), if_pos (show gF false 109 (1 + 1) = true by decide)]
  · rw [if_neg (by decide), if_neg (show ¬ gF false 115 (1 + i) = true by unfold gF; simp)]
theorem m_nums_f {c : Int32} (hc : c = 97 ∨ c = 109 ∨ c = 115) : ∀ (m n i : Nat) (S : Mem), i + m = cn c → m < n → mB S → ∃ S1, fm_line_74 n c (Int32.ofNat (cn c)) (Int32.ofNat i) S = some (c, S1) ∧ pO S S1 ∧ mB S1
  | _, 0, _, _, _, h, _ => absurd h (Nat.not_lt_zero _)
  | 0, n + 1, i, S, h, _, hB => by
    have h5 := cn_le (c := c)
    refine ⟨S, ?_, pO.refl S, hB⟩
    show fm_line_74b (fm_line_74 n) c (Int32.ofNat (cn c)) (Int32.ofNat i) S = _
    unfold fm_line_74b
    rw [if_pos ((n_le (by omega) (by omega)).mpr (by omega))]
  | m + 1, n + 1, i, S, h, hn, hB => by
    have h5 := cn_le (c := c)
    obtain ⟨v, S1, q1, q2, q3, -⟩ := m_num_f hB (if gF false c (1 + i) = true then 1 else 0)
    have hB1 : mB (up2 S1 716 i v) := by
      unfold mB
      rw [up2_off (by decide)]
      exact q3
    obtain ⟨S2, p1, p2, p3⟩ := m_nums_f hc m n (i + 1) (up2 S1 716 i v) (by omega) (by omega) hB1
    refine ⟨S2, ?_, (q2.trans pO.told).trans p2, p3⟩
    show fm_line_74b (fm_line_74 n) c (Int32.ofNat (cn c)) (Int32.ofNat i) S = _
    rw [m_74 hc (by omega), q1, bd_some, ast_n (by rw [lnM]; omega) (by rw [lnM]; decide), obs]
    exact p1
theorem m_nums {bl : List Int32} {c : Int32} (hc : c = 97 ∨ c = 109 ∨ c = 115) (hl : bl.length ≤ 120) : ∀ (m n i p : Nat) (S : Mem), i + m = cn c → m < n → MTp S bl → mG S p → p ≤ 130 → (∃ vs q S1, rdN (gF false c) bl m (1 + i) p = some (vs, q) ∧ fm_line_74 n c (Int32.ofNat (cn c)) (Int32.ofNat i) S = some (c, S1) ∧ pO S S1 ∧ mG S1 q ∧ (∀ j, j < i → S1 716 j = S 716 j) ∧ ∀ j v, vs[j]? = some v → S1 716 (i + j) = v) ∨ (rdN (gF false c) bl m (1 + i) p = none ∧ ∃ S1, fm_line_74 n c (Int32.ofNat (cn c)) (Int32.ofNat i) S = some (c, S1) ∧ pO S S1 ∧ mB S1)
  | _, 0, _, _, _, _, h, _, _, _ => absurd h (Nat.not_lt_zero _)
  | 0, n + 1, i, p, S, h, _, hT, hG, _ => by
    have h5 := cn_le (c := c)
    refine Or.inl ⟨[], p, S, rfl, ?_, pO.refl S, hG, fun _ _ => rfl, fun j v hv => absurd (List.getElem?_eq_some_iff.mp hv).1 (Nat.not_lt_zero _)⟩
    show fm_line_74b (fm_line_74 n) c (Int32.ofNat (cn c)) (Int32.ofNat i) S = _
    unfold fm_line_74b
    rw [if_pos ((n_le (by omega) (by omega)).mpr (by omega))]
  | m + 1, n + 1, i, p, S, h, hn, hT, hG, hp => by
    have h5 := cn_le (c := c)
    have er : rdN (gF false c) bl (m + 1) (1 + i) p = (rdNum bl (gF false c (1 + i)) p).bind fun r => (rdN (gF false c) bl m (1 + i + 1) r.2).map fun t => (r.1 :: t.1, t.2) := rfl
    have ef : fm_line_74 (n + 1) c (Int32.ofNat (cn c)) (Int32.ofNat i) S = fm_line_74b (fm_line_74 n) c (Int32.ofNat (cn c)) (Int32.ofNat i) S := rfl
    rw [er, ef, m_74 hc (by omega)]
    rcases m_num (gF false c (1 + i)) hT hl hG (by omega) with ⟨v, q, S1, a1, a2, a3, a4, a5⟩ | ⟨a1, v, S1, a2, a3, a4, a5⟩
    · obtain ⟨-, -, o3, -⟩ := rdNum_some a1
      have o := a3.trans (pO.told (k := i) (v := v))
      have G1 : mG (up2 S1 716 i v) q := ⟨by rw [up2_off (by decide)]; exact a4.1, by rw [up2_off (by decide)]; exact a4.2⟩
      rw [a1, obs, a2, bd_some, ast_n (by rw [lnM]; omega) (by rw [lnM]; decide), obs, show 1 + i + 1 = 1 + (i + 1) by omega]
      rcases m_nums hc hl m n (i + 1) q (up2 S1 716 i v) (by omega) (by omega) (o.tape hT) G1 (by omega) with ⟨vs, q', S2, b1, b2, b3, b4, b5, b6⟩ | ⟨b1, S2, b2, b3, b4⟩
      · refine Or.inl ⟨v :: vs, q', S2, by rw [b1]; rfl, b2, o.trans b3, b4, fun j hj => ?_, fun j x hx => ?_⟩
        · rw [b5 j (by omega), up2_nf (by omega), a5]
        · cases j with
          | zero =>
            have ev : v = x := Option.some.inj hx
            rw [Nat.add_zero, b5 i (Nat.lt_succ_self _), up2_self, ev]
          | succ j =>
            have := b6 j x hx
            rw [show i + (j + 1) = i + 1 + j by omega]
            exact this
      · exact Or.inr ⟨by rw [b1]; rfl, S2, b2, o.trans b3, b4⟩
    · have hB1 : mB (up2 S1 716 i v) := by
        unfold mB
        rw [up2_off (by decide)]
        exact a4
      obtain ⟨S2, p1, p2, p3⟩ := m_nums_f hc m n (i + 1) (up2 S1 716 i v) (by omega) (by omega) hB1
      rw [a1, a2, bd_some, ast_n (by rw [lnM]; omega) (by rw [lnM]; decide), obs]
      exact Or.inr ⟨rfl, S2, p1, (a3.trans pO.told).trans p2, p3⟩
theorem m_pick {S : Mem} {c : Int32} (hc : c = 97 ∨ c = 109 ∨ c = 115) : (if c = 97 then (fm_line_74 LF c 5 0 S) else (if c = 109 then (fm_line_74 LF c 2 0 S) else (fm_line_74 LF c 1 0 S))) = fm_line_74 LF c (Int32.ofNat (cn c)) (Int32.ofNat 0) S := by
  rcases hc with rfl | rfl | rfl
  · rw [if_pos rfl]
    rfl
  · rw [if_neg (by decide), if_pos rfl]
    rfl
  · rw [if_neg (by decide), if_neg (by decide)]
    rfl
theorem m_line_f {S : Mem} (hB : mB S) : ∃ c S1, fm_line S = some (c, S1) ∧ pO S S1 ∧ mB S1 := by
  obtain ⟨S1, q1, q2, q3, -⟩ := m_must_f hB 97 97
  obtain ⟨S2, p1, p2, p3⟩ := m_nums_f (c := 97) (Or.inl rfl) (cn 97) LF 0 S1 (Nat.zero_add _) (by decide) q3
  unfold fm_line
  rw [m_sees_f hB, obs, if_pos rfl, m_sees_f hB, obs, if_pos rfl, q1, bd_some, m_pick (Or.inl rfl), p1]
  exact ⟨97, S2, rfl, q2.trans p2, p3⟩
theorem m_line_ok {S : Mem} {bl : List Int32} {p : Nat} (hT : MTp S bl) (hl : bl.length ≤ 120) (hG : mG S p) (hp : p ≤ 125) : (∃ c ns q S1, rdLine false bl p = some (c, ns, q) ∧ fm_line S = some (c, S1) ∧ pO S S1 ∧ mG S1 q ∧ ∀ j v, ns[j]? = some v → S1 716 j = v) ∨ (rdLine false bl p = none ∧ ∃ c S1, fm_line S = some (c, S1) ∧ pO S S1 ∧ mB S1) := by
  have key : ∀ {c : Int32} {S1 : Mem}, (c = 97 ∨ c = 109 ∨ c = 115) → bl[p]? = some c → pO S S1 → mG S1 (p + 1) → (∃ c' ns q S2, rdLine false bl p = some (c', ns, q) ∧ fm_line_74 LF c (Int32.ofNat (cn c)) (Int32.ofNat 0) S1 = some (c', S2) ∧ pO S S2 ∧ mG S2 q ∧ ∀ j v, ns[j]? = some v → S2 716 j = v) ∨ (rdLine false bl p = none ∧ ∃ c' S2, fm_line_74 LF c (Int32.ofNat (cn c)) (Int32.ofNat 0) S1 = some (c', S2) ∧ pO S S2 ∧ mB S2) := fun {c S1} hc hb ho hg1 => by
    have h5 := cn_le (c := c)
    have er : rdLine false bl p = (rdN (gF false c) bl (cn c) 1 (p + 1)).map fun r => (c, r.1, r.2) := by
      unfold rdLine
      rw [hb, obs, if_pos hc]
    rw [er]
    rcases m_nums hc hl (cn c) LF 0 (p + 1) S1 (Nat.zero_add _) (by show cn c < 3000; omega) (ho.tape hT) hg1 (by omega) with ⟨vs, q, S2, b1, b2, b3, b4, -, b6⟩ | ⟨b1, S2, b2, b3, b4⟩
    · refine Or.inl ⟨c, vs, q, S2, ?_, b2, ho.trans b3, b4, fun j v hv => ?_⟩
      · rw [show (1 : Nat) = 1 + 0 from rfl, b1]
        rfl
      · have := b6 j v hv
        rwa [Nat.zero_add] at this
    · refine Or.inr ⟨?_, c, S2, b2, ho.trans b3, b4⟩
      rw [show (1 : Nat) = 1 + 0 from rfl, b1]
      rfl
  have step : ∀ {c : Int32}, (c = 97 ∨ c = 109 ∨ c = 115) → bl[p]? = some c → fm_line_22 S = fm_line_74 LF c (Int32.ofNat (cn c)) (Int32.ofNat 0) (up2 S 697 19 (Int32.ofNat (p + 1))) := fun {c} hc hb => by
    have hlt := (List.getElem?_eq_some_iff.mp hb).1
    have hq2 : (up2 S 697 19 (Int32.ofNat (p + 1))) 703 p = c := by
      rw [up2_off (by decide)]
      have := hT.2 p hlt
      rw [hb] at this
      exact (Option.some.inj this).symm
    unfold fm_line_22
    rw [hG.1, n_succ, obs, ald_n (by rw [ln703.1]; omega) (by rw [ln703.1]; decide), obs, hq2, m_pick hc]
  have G1 : mG (up2 S 697 19 (Int32.ofNat (p + 1))) (p + 1) := ⟨up2_self, by rw [up2_nf (by decide)]; exact hG.2⟩
  unfold fm_line
  rcases m_sees_ok hT hl hG (by omega) 109 109 with ⟨q, a1, a2, a3⟩ | ⟨a1, a3⟩
  · have e := rng_eq.mp a2
    subst e
    rw [a3, obs, if_neg n10, step (Or.inr (Or.inl rfl)) a1]
    exact key (Or.inr (Or.inl rfl)) a1 (pO.up (Or.inl rfl)) G1
  · rw [a3, obs, if_pos rfl]
    rcases m_sees_ok hT hl hG (by omega) 115 115 with ⟨q, b1, b2, b3⟩ | ⟨b1, b3⟩
    · have e := rng_eq.mp b2
      subst e
      rw [b3, obs, if_neg n10, step (Or.inr (Or.inr rfl)) b1]
      exact key (Or.inr (Or.inr rfl)) b1 (pO.up (Or.inl rfl)) G1
    · rw [b3, obs, if_pos rfl]
      rcases m_must_ok hT hl hG (by omega) 97 97 with ⟨q, S1, c1, c2, c3, c4, c5, -⟩ | ⟨c1, S1, c3, c4, c5, -⟩
      · have e := rng_eq.mp c2
        subst e
        rw [c3, bd_some, m_pick (Or.inl rfl)]
        exact key (Or.inl rfl) c1 c4 c5
      · obtain ⟨S2, p1, p2, p3⟩ := m_nums_f (c := 97) (Or.inl rfl) (cn 97) LF 0 S1 (Nat.zero_add _) (by decide) c5
        rw [c3, bd_some, m_pick (Or.inl rfl), p1]
        refine Or.inr ⟨?_, 97, S2, rfl, c4.trans p2, p3⟩
        unfold rdLine
        cases hb : bl[p]? with
        | none => rfl
        | some x =>
          rw [obs, if_neg]
          intro q
          rcases q with q | q | q
          · exact c1 x hb (rng_eq.mpr q)
          · exact a1 x hb (rng_eq.mpr q)
          · exact b1 x hb (rng_eq.mpr q)
/-- behind a line: what is to come -/
theorem m_form_loop {bl : List Int32} (hl : bl.length ≤ 120) : ∀ (m n q : Nat) (S : Mem), bl.length < q + 1 + m → m + 1 < n → MTp S bl → mG S q → q ≤ bl.length → (∃ S1, ((bl.length ≤ q) ∨ (bl[q]? = some 59 ∧ ∃ l, lns false bl m (q + 1) = some l)) ∧ fm_isForm_15 n S = some (1, S1) ∧ pO S S1 ∧ S1 697 20 = -1) ∨ (¬ (bl.length ≤ q) ∧ (bl[q]? = some 59 → lns false bl m (q + 1) = none) ∧ ∃ S1, fm_isForm_15 n S = some (0, S1) ∧ pO S S1)
  | _, 0, _, _, _, h, _, _, _ => absurd h (Nat.not_lt_zero _)
  | m, n + 1, q, S, hm, hn, hT, hG, hq => by
    have ef : fm_isForm_15 (n + 1) S = fm_isForm_15b (fm_isForm_15 n) S := rfl
    rw [ef]
    unfold fm_isForm_15b
    rw [hG.2, if_neg (by decide), hT.1, hG.1]
    by_cases e : bl.length ≤ q
    · rw [if_pos ((n_le (by omega) (by omega)).mpr e), if_neg (by decide)]
      exact Or.inl ⟨S, Or.inl e, rfl, pO.refl S, hG.2⟩
    · rw [if_neg (fun x => e ((n_le (by omega) (by omega)).mp x))]
      have bad : ∀ {S1 : Mem}, pO S S1 → mB S1 → ∃ S2, fm_isForm_15 n S1 = some (0, S2) ∧ pO S S2 := fun {S1} ho hB => by
        obtain ⟨n, rfl⟩ : ∃ n', n = n' + 1 := ⟨n - 1, by omega⟩
        refine ⟨S1, ?_, ho⟩
        show fm_isForm_15b (fm_isForm_15 n) S1 = _
        unfold fm_isForm_15b
        rw [if_pos (show 0 ≤ S1 697 20 from hB), if_pos (show 0 ≤ S1 697 20 from hB)]
      rcases m_must_ok hT hl hG (by omega) 59 59 with ⟨x, S1, c1, c2, c3, c4, c5, -⟩ | ⟨c1, S1, c3, c4, c5, -⟩
      · have ex := rng_eq.mp c2
        subst ex
        rw [c3, bd_some]
        cases m with
        | zero => omega
        | succ m =>
          have el : lns false bl (m + 1) (q + 1) = (rdLine false bl (q + 1)).bind fun r => if bl.length ≤ r.2.2 then some [(r.1, r.2.1)] else if bl[r.2.2]? = some 59 then (lns false bl m (r.2.2 + 1)).map fun l => (r.1, r.2.1) :: l else none := rfl
          rw [el]
          rcases m_line_ok (c4.tape hT) hl c5 (by omega) with ⟨c, ns, q', S2, d1, d2, d3, d4, -⟩ | ⟨d1, c, S2, d2, d3, d4⟩
          · obtain ⟨-, l2, l3, -⟩ := rdLine_len d1
            rw [d2, bd_some, d1, obs]
            dsimp only
            rcases m_form_loop hl m n q' S2 (by omega) (by omega) ((c4.trans d3).tape hT) d4 l3 with ⟨S3, f1, f2, f3, f20⟩ | ⟨f1, f2, S3, f3, f4⟩
            · refine Or.inl ⟨S3, Or.inr ⟨c1, ?_⟩, f2, (c4.trans d3).trans f3, f20⟩
              rcases f1 with f1 | ⟨f1, l, fl⟩
              · exact ⟨_, if_pos f1⟩
              · have hnl := (List.getElem?_eq_some_iff.mp f1).1
                rw [if_neg (by omega), if_pos f1, fl]
                exact ⟨_, rfl⟩
            · refine Or.inr ⟨e, fun _ => ?_, S3, f3, (c4.trans d3).trans f4⟩
              rw [if_neg f1]
              by_cases g : bl[q']? = some 59
              · rw [if_pos g, f2 g]
                rfl
              · rw [if_neg g]
          · obtain ⟨S3, f1, f2⟩ := bad (c4.trans d3) d4
            rw [d2, bd_some, d1]
            exact Or.inr ⟨e, fun _ => rfl, S3, f1, f2⟩
      · obtain ⟨c, S2, d2, d3, d4⟩ := m_line_f c5
        obtain ⟨S3, f1, f2⟩ := bad (c4.trans d3) d4
        rw [c3, bd_some, d2, bd_some]
        exact Or.inr ⟨e, fun h => absurd (rng_eq.mpr rfl) (c1 59 h), S3, f1, f2⟩
theorem m_form_ok {S : Mem} {bl : List Int32} (hT : MTp S bl) (hl : bl.length ≤ 120) : (∃ l S1, lns false bl 122 0 = some l ∧ fm_isForm S = some (1, S1) ∧ pO S S1 ∧ S1 697 20 = -1) ∨ (lns false bl 122 0 = none ∧ ∃ S1, fm_isForm S = some (0, S1) ∧ pO S S1) := by
  have o : pO S (up2 (up2 S 697 19 0) 697 20 (-1)) := (pO.up (Or.inl rfl)).trans (pO.up (Or.inr rfl))
  have G : mG (up2 (up2 S 697 19 0) 697 20 (-1)) 0 := ⟨by rw [up2_nf (by decide), up2_self]; rfl, up2_self⟩
  have el : lns false bl 122 0 = (rdLine false bl 0).bind fun r => if bl.length ≤ r.2.2 then some [(r.1, r.2.1)] else if bl[r.2.2]? = some 59 then (lns false bl 121 (r.2.2 + 1)).map fun l => (r.1, r.2.1) :: l else none := rfl
  unfold fm_isForm
  rw [obs, obs, el]
  rcases m_line_ok (o.tape hT) hl G (by decide) with ⟨c, ns, q, S2, d1, d2, d3, d4, -⟩ | ⟨d1, c, S2, d2, d3, d4⟩
  · obtain ⟨-, l2, l3, -⟩ := rdLine_len d1
    rw [d2, bd_some, d1, obs]
    dsimp only
    rcases m_form_loop hl 121 LF q S2 (by omega) (by decide) ((o.trans d3).tape hT) d4 l3 with ⟨S3, f1, f2, f3, f20⟩ | ⟨f1, f2, S3, f3, f4⟩
    · rcases f1 with f1 | ⟨f1, l, fl⟩
      · rw [if_pos f1]
        exact Or.inl ⟨_, S3, rfl, f2, (o.trans d3).trans f3, f20⟩
      · have hnl := (List.getElem?_eq_some_iff.mp f1).1
        rw [if_neg (by omega), if_pos f1, fl]
        exact Or.inl ⟨_, S3, rfl, f2, (o.trans d3).trans f3, f20⟩
    · rw [if_neg f1]
      refine Or.inr ⟨?_, S3, f3, (o.trans d3).trans f4⟩
      by_cases g : bl[q]? = some 59
      · rw [if_pos g, f2 g]
        rfl
      · rw [if_neg g]
  · rw [d2, bd_some, d1]
    refine Or.inr ⟨rfl, S2, ?_, o.trans d3⟩
    show fm_isForm_15b (fm_isForm_15 2999) S2 = _
    unfold fm_isForm_15b
    rw [if_pos (show 0 ≤ S2 697 20 from d4), if_pos (show 0 ≤ S2 697 20 from d4)]
/-- as many lines as there can be: more make no difference -/
theorem lns_more {sn : Bool} {bl : List Int32} : ∀ (n m p : Nat), bl.length < p + 2 * n → bl.length < p + 2 * m → p ≤ bl.length → lns sn bl n p = lns sn bl m p
  | 0, _, _, h, _, h3 => by omega
  | _, 0, _, _, h, h3 => by omega
  | n + 1, m + 1, p, h1, h2, h3 => by
    show (rdLine sn bl p).bind (fun r => if bl.length ≤ r.2.2 then some [(r.1, r.2.1)] else if bl[r.2.2]? = some 59 then (lns sn bl n (r.2.2 + 1)).map fun l => (r.1, r.2.1) :: l else none) = (rdLine sn bl p).bind (fun r => if bl.length ≤ r.2.2 then some [(r.1, r.2.1)] else if bl[r.2.2]? = some 59 then (lns sn bl m (r.2.2 + 1)).map fun l => (r.1, r.2.1) :: l else none)
    cases hr : rdLine sn bl p with
    | none => rfl
    | some r =>
      obtain ⟨-, l2, l3, -⟩ := rdLine_len (c := r.1) (ns := r.2.1) (q := r.2.2) hr
      rw [obs, obs]
      by_cases e1 : bl.length ≤ r.2.2
      · rw [if_pos e1, if_pos e1]
      · rw [if_neg e1, if_neg e1, lns_more n m (r.2.2 + 1) (by omega) (by omega) (by omega)]
