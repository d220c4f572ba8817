/-! 37: the class: a world copied -/
/-- the whole numbers of an actor copied -/
def aT (S : Mem) (A B : Nat) : Mem := up2 (up2 (up2 (up2 (up2 (up2 (up2 S A 0 (S B 0)) A 1 (S B 1)) A 2 (S B 2)) A 3 (S B 3)) A 4 (S B 4)) A 5 (S B 5)) A 6 (S B 6)
theorem aT_off {S : Mem} {A B b : Nat} (h : b ≠ A) : aT S A B b = S b := by
  unfold aT
  rw [up2_off h, up2_off h, up2_off h, up2_off h, up2_off h, up2_off h, up2_off h]
theorem aT_at {S : Mem} {A B : Nat} : ∀ k, k < 7 → aT S A B A k = S B k
  | 0, _ => by
    unfold aT
    rw [up2_nf (by decide), up2_nf (by decide), up2_nf (by decide), up2_nf (by decide), up2_nf (by decide), up2_nf (by decide), up2_self]
  | 1, _ => by
    unfold aT
    rw [up2_nf (by decide), up2_nf (by decide), up2_nf (by decide), up2_nf (by decide), up2_nf (by decide), up2_self]
  | 2, _ => by
    unfold aT
    rw [up2_nf (by decide), up2_nf (by decide), up2_nf (by decide), up2_nf (by decide), up2_self]
  | 3, _ => by
    unfold aT
    rw [up2_nf (by decide), up2_nf (by decide), up2_nf (by decide), up2_self]
  | 4, _ => by
    unfold aT
    rw [up2_nf (by decide), up2_nf (by decide), up2_self]
  | 5, _ => by
    unfold aT
    rw [up2_nf (by decide), up2_self]
  | 6, _ => by
    unfold aT
    rw [up2_self]
  | k + 7, h => by omega
theorem bol_ok {v : Int32} (h : v = 0 ∨ v = 1) : bol v = some v := if_pos h
theorem a_copy_ok {S : Mem} {A B : Nat} {x : Act} (hR : RA S B x) (hb : IsB x) (hd : A + 13 ≤ B ∨ B + 13 ≤ A) (hl : ∀ C, C = A ∨ C = B → ln (C + 1 + 1) = 5 ∧ ln (C + 3 + 1) = 12 ∧ ln (C + 3 + 2) = 12 ∧ ln (C + 6 + 1) = 6 ∧ ln (C + 6 + 2) = 6 ∧ ln (C + 9 + 1) = 12 ∧ ln (C + 11 + 1) = 10) (b1 : (aStk x).length ≤ 5) (b2 : (aMail x).length ≤ 12) (b3 : (aStash x).length ≤ 6) (b4 : (aWat x).length ≤ 12) (b5 : (aNot x).length ≤ 10) : ∃ S1, fa_copyFrom A B S = some S1 ∧ RA S1 A x ∧ Only (inA A) S S1 := by
  obtain ⟨l1, l2, l3, l4, l5, l6, l7⟩ := hl A (Or.inl rfl)
  obtain ⟨m1, m2, m3, m4, m5, m6, m7⟩ := hl B (Or.inr rfl)
  have hBA : B ≠ A := by omega
  obtain ⟨r1, r2, r3, r4, r5, r6⟩ := hR
  have hT : Only (inA A) S (aT S A B) := fun b hb => aT_off fun e => hb ⟨by omega, by omega⟩
  have hin2 : ∀ k, k < 12 → ∀ b, cN (A + k) b → inA A b := fun k hk => cN_inA hk
  have hin3 : ∀ k, k < 11 → ∀ b, cP (A + k) b → inA A b := fun k hk => cP_inA hk
  have out : ∀ {U : Mem}, Only (inA A) S U → ∀ j, j < 13 → U (B + j) = S (B + j) := fun hU j hj => hU _ fun q => by
    have := q.1
    have := q.2
    omega
  have t1 := out hT
  obtain ⟨S8, c1, d1, e1⟩ := n_copy_ok (o := A + 1) (p := B + 1) (r2.congr (t1 1 (by decide)) (t1 2 (by decide))) (by rw [l1]; exact b1) (by rw [m1]; exact b1) (by rw [l1]; decide) (by rw [m1]; decide) (by omega)
  have hU8 := hT.trans (e1.mono (hin2 1 (by decide)))
  have t2 := out hU8
  obtain ⟨S9, c2, d2, e2⟩ := p_copy_ok (o := A + 3) (p := B + 3) (r3.congr (t2 3 (by decide)) (t2 4 (by decide)) (t2 5 (by decide))) (by rw [l2]; exact b2) (by rw [m2]; exact b2) (by rw [l3, l2]) (by rw [m3, m2]) (by rw [l2]; decide) (by rw [m2]; decide) (by omega)
  have hU9 := hU8.trans (e2.mono (hin3 3 (by decide)))
  have t3 := out hU9
  obtain ⟨S10, c3, d3, e3⟩ := p_copy_ok (o := A + 6) (p := B + 6) (r4.congr (t3 6 (by decide)) (t3 7 (by decide)) (t3 8 (by decide))) (by rw [l4]; exact b3) (by rw [m4]; exact b3) (by rw [l5, l4]) (by rw [m5, m4]) (by rw [l4]; decide) (by rw [m4]; decide) (by omega)
  have hU10 := hU9.trans (e3.mono (hin3 6 (by decide)))
  have t4 := out hU10
  obtain ⟨S11, c4, d4, e4⟩ := n_copy_ok (o := A + 9) (p := B + 9) (r5.congr (t4 9 (by decide)) (t4 10 (by decide))) (by rw [l6]; exact b4) (by rw [m6]; exact b4) (by rw [l6]; decide) (by rw [m6]; decide) (by omega)
  have hU11 := hU10.trans (e4.mono (hin2 9 (by decide)))
  have t5 := out hU11
  obtain ⟨S12, c5, d5, e5⟩ := n_copy_ok (o := A + 11) (p := B + 11) (r6.congr (t5 11 (by decide)) (t5 12 (by decide))) (by rw [l7]; exact b5) (by rw [m7]; exact b5) (by rw [l7]; decide) (by rw [m7]; decide) (by omega)
  have f5 : ∀ b, b < A + 11 → S12 b = S11 b := fun b hb => e5 b fun q => by rcases q with q | q <;> omega
  have f4 : ∀ b, b < A + 9 → S12 b = S10 b := fun b hb => (f5 b (by omega)).trans (e4 b fun q => by rcases q with q | q <;> omega)
  have f3 : ∀ b, b < A + 6 → S12 b = S9 b := fun b hb => (f4 b (by omega)).trans (e3 b fun q => by rcases q with q | q | q <;> omega)
  have f2 : ∀ b, b < A + 3 → S12 b = S8 b := fun b hb => (f3 b (by omega)).trans (e2 b fun q => by rcases q with q | q | q <;> omega)
  have f1 : ∀ b, b < A + 1 → S12 b = aT S A B b := fun b hb => (f2 b (by omega)).trans (e1 b fun q => by rcases q with q | q <;> omega)
  refine ⟨S12, ?_, ⟨fun k hk => ?_, d1.congr (f2 _ (by omega)) (f2 _ (by omega)), d2.congr (f3 _ (by omega)) (f3 _ (by omega)) (f3 _ (by omega)), d3.congr (f4 _ (by omega)) (f4 _ (by omega)) (f4 _ (by omega)), d4.congr (f5 _ (by omega)) (f5 _ (by omega)), d5⟩, hU11.trans (e5.mono (hin2 11 (by decide)))⟩
  · have hz : bol (S B 6) = some (S B 6) := bol_ok (by
      rw [r1 6 (by decide)]
      exact hb)
    have hu : fa_copyFrom A B S = (fn_copyFrom (A + 1) (B + 1) (aT S A B)).bind fun S8 => (fp_copyFrom (A + 3) (B + 3) S8).bind fun S9 => (fp_copyFrom (A + 6) (B + 6) S9).bind fun S10 => (fn_copyFrom (A + 9) (B + 9) S10).bind fun S11 => (fn_copyFrom (A + 11) (B + 11) S11).bind fun S12 => some S12 := by
      unfold fa_copyFrom aT
      rw [obs, obs, obs, obs, obs, obs]
      simp only [up2_off hBA]
      rw [hz, obs, obs]
    rw [hu, c1, obs, c2, obs, c3, obs, c4, obs, c5, obs]
  · rw [f1 A (by omega), aT_at k hk]
    exact r1 k hk
theorem w_copy_tail {S S0 : Mem} {W V : Nat} {w : Wst} (hW : IsW W) (hV : IsW V) (hd : W + 168 ≤ V ∨ V + 168 ≤ W) (hR : RW S V w) (hI : Inv w) (h4 : S W 4 = Int32.ofNat (wN w)) (hA : ∀ a, a < wN w → RA S (W + 12 + 13 * a) (wA w a)) (hO : OW W S0 S) : ∃ S1, fw_copyFrom_45 W V S = some S1 ∧ RW S1 W w ∧ OW W S0 S1 := by
  have h12 := hI.1
  obtain ⟨l1, l2, l3, l4, l5⟩ := lnW hW
  obtain ⟨m1, m2, m3, m4, m5⟩ := lnW hV
  obtain ⟨r1, r2, r3, r4, r5, r6⟩ := hR
  have hVW : V ≠ W := by omega
  obtain ⟨S1, c1, d1, e1⟩ := c_copy_ok (o := W + 2) (p := V + 2) l1 m1 r4 hI.2.2.1.1 (by omega)
  have g1 : ∀ b, (b < W + 2 ∨ W + 6 ≤ b) → S1 b = S b := fun b hb => e1 b fun q => by rcases q with q | q | q | q <;> omega
  obtain ⟨S2, c2, d2, e2⟩ := p_copy_ok (o := W + 6) (p := V + 6) (r5.congr (g1 _ (by omega)) (g1 _ (by omega)) (g1 _ (by omega))) (by rw [l2]; exact hI.2.2.2.1.1) (by rw [m2]; exact hI.2.2.2.1.1) (by rw [l3, l2]) (by rw [m3, m2]) (by rw [l2]; decide) (by rw [m2]; decide) (by omega)
  have g2 : ∀ b, (b < W + 6 ∨ W + 9 ≤ b) → S2 b = S1 b := fun b hb => e2 b fun q => by rcases q with q | q | q <;> omega
  obtain ⟨S3, c3, d3, e3⟩ := p_copy_ok (o := W + 9) (p := V + 9) (r6.congr ((g2 _ (by omega)).trans (g1 _ (by omega))) ((g2 _ (by omega)).trans (g1 _ (by omega))) ((g2 _ (by omega)).trans (g1 _ (by omega)))) (by rw [l4]; exact hI.2.2.2.2.1.1) (by rw [m4]; exact hI.2.2.2.2.1.1) (by rw [l5, l4]) (by rw [m5, m4]) (by rw [l4]; decide) (by rw [m4]; decide) (by omega)
  have g3 : ∀ b, (b < W + 9 ∨ W + 12 ≤ b) → S3 b = S2 b := fun b hb => e3 b fun q => by rcases q with q | q | q <;> omega
  have g123 : ∀ b, (b < W + 2 ∨ W + 12 ≤ b) → S3 b = S b := fun b hb => (g3 b (by omega)).trans ((g2 b (by omega)).trans (g1 b (by omega)))
  have hV3 : S3 V = S V := g123 V (by omega)
  have hW3 : S3 W = S W := g123 W (by omega)
  refine ⟨up2 (up2 (up2 (up2 (up2 (up2 S3 W 5 (S3 V 5)) W 6 (S3 V 6)) W 7 (S3 V 7)) W 8 (S3 V 8)) W 9 (S3 V 9)) W 10 (S3 V 10), ?_, ?_, ?_⟩
  · unfold fw_copyFrom_45
    rw [c1, obs, c2, obs, c3, obs, obs, obs, obs, obs, obs, obs]
    simp only [up2_off hVW]
  · have off : ∀ b, b ≠ W → up2 (up2 (up2 (up2 (up2 (up2 S3 W 5 (S3 V 5)) W 6 (S3 V 6)) W 7 (S3 V 7)) W 8 (S3 V 8)) W 9 (S3 V 9)) W 10 (S3 V 10) b = S3 b := fun b hb => by
      rw [up2_off hb, up2_off hb, up2_off hb, up2_off hb, up2_off hb, up2_off hb]
    refine ⟨?_, fun k h5 h10 => ?_, fun a ha => (hA a ha).congr fun b q1 q2 => (off b (by omega)).trans (g123 b (by omega)), d1.congr ?_ ?_ ?_ ?_, d2.congr ?_ ?_ ?_, d3.congr (off _ (by omega)) (off _ (by omega)) (off _ (by omega))⟩
    · rw [up2_nf (by decide), up2_nf (by decide), up2_nf (by decide), up2_nf (by decide), up2_nf (by decide), up2_nf (by decide), hW3]
      exact h4
    · rw [hV3]
      have hk : k = 5 ∨ k = 6 ∨ k = 7 ∨ k = 8 ∨ k = 9 ∨ k = 10 := by omega
      rcases hk with rfl | rfl | rfl | rfl | rfl | rfl
      · rw [up2_nf (by decide), up2_nf (by decide), up2_nf (by decide), up2_nf (by decide), up2_nf (by decide), up2_self]
        exact r2 5 (by decide) (by decide)
      · rw [up2_nf (by decide), up2_nf (by decide), up2_nf (by decide), up2_nf (by decide), up2_self]
        exact r2 6 (by decide) (by decide)
      · rw [up2_nf (by decide), up2_nf (by decide), up2_nf (by decide), up2_self]
        exact r2 7 (by decide) (by decide)
      · rw [up2_nf (by decide), up2_nf (by decide), up2_self]
        exact r2 8 (by decide) (by decide)
      · rw [up2_nf (by decide), up2_self]
        exact r2 9 (by decide) (by decide)
      · rw [up2_self]
        exact r2 10 (by decide) (by decide)
    · rw [off _ (by omega), g3 _ (by omega), g2 _ (by omega)]
    · rw [off _ (by omega), g3 _ (by omega), g2 _ (by omega)]
    · rw [off _ (by omega), g3 _ (by omega), g2 _ (by omega)]
    · rw [off _ (by omega), g3 _ (by omega), g2 _ (by omega)]
    · rw [off _ (by omega), g3 _ (by omega)]
    · rw [off _ (by omega), g3 _ (by omega)]
    · rw [off _ (by omega), g3 _ (by omega)]
  · exact hO.trans (((OW.cell e1 cT_W).trans ((OW.cell e2 (cP_W (by decide) (by decide))).trans (OW.cell e3 (cP_W (by decide) (by decide))))).trans ((((((OW.refl.up (k := 5) (by decide)).up (k := 6) (by decide)).up (k := 7) (by decide)).up (k := 8) (by decide)).up (k := 9) (by decide)).up (k := 10) (by decide)))
theorem w_copy_loop {S0 : Mem} {W V : Nat} {w : Wst} (hW : IsW W) (hV : IsW V) (hd : W + 168 ≤ V ∨ V + 168 ≤ W) (hI : Inv w) : ∀ (m n a : Nat) (S : Mem), a + m = wN w → m < n → RW S V w → S W 4 = Int32.ofNat (wN w) → (∀ b, b < a → RA S (W + 12 + 13 * b) (wA w b)) → OW W S0 S → ∃ S1, fw_copyFrom_10 n W V (Int32.ofNat a) S = some S1 ∧ RW S1 W w ∧ OW W S0 S1
  | _, 0, _, _, _, h, _, _, _, _ => absurd h (Nat.not_lt_zero _)
  | 0, n + 1, a, S, ha, _, hR, h4, hA, hO => by
    have h12 := hI.1
    show ∃ S1, fw_copyFrom_10b (fw_copyFrom_10 n) W V (Int32.ofNat a) S = some S1 ∧ _
    unfold fw_copyFrom_10b
    rw [h4, if_pos ((n_le (by omega) (by omega)).mpr (by omega))]
    exact w_copy_tail hW hV hd hR hI h4 (fun b hb => hA b (by omega)) hO
  | m + 1, n + 1, a, S, ha, hn, hR, h4, hA, hO => by
    have h12 := hI.1
    have han : a < wN w := by omega
    obtain ⟨p1, p2, p3, p4, p5, p6, p7, p8, p9, p10, p11⟩ := hI.2.1 a han
    obtain ⟨S1, k1, k2, k3⟩ := a_copy_ok (A := W + 12 + 13 * a) (B := V + 12 + 13 * a) (hR.2.2.1 a han) p6 (by omega) (fun C hC => by
      rcases hC with rfl | rfl
      · exact lnA hW (by omega)
      · exact lnA hV (by omega)) p7.2.1 p8.1 p9.1 ((hI.2.1 a han).wat h12) p11
    have hc : ∀ b, ¬ inA (W + 12 + 13 * a) b → S1 b = S b := k3
    have hO2 : OW W S S1 := OW.cell k3 (inA_W (by omega))
    obtain ⟨S2, m1, m2, m3⟩ := w_copy_loop hW hV hd hI m n (a + 1) S1 (by omega) (by omega) (hR.congr h12 fun b q => hc b fun q2 => by
      have := q.1
      have := q.2
      have := q2.1
      have := q2.2
      omega) (by rw [hc W fun q2 => by have := q2.1; omega]; exact h4) (fun b hb => by
      by_cases e : b = a
      · rw [e]
        exact k2
      · exact (hA b (by omega)).congr fun q q1 q2 => hc q fun q3 => by
          have := q3.1
          have := q3.2
          omega) (hO.trans hO2)
    show ∃ S1, fw_copyFrom_10b (fw_copyFrom_10 n) W V (Int32.ofNat a) S = some S1 ∧ _
    unfold fw_copyFrom_10b
    rw [h4, if_neg (fun q => by rw [n_le (by omega) (by omega)] at q; omega), if_neg (fun q => by rw [n12, n_le (by decide) (by omega)] at q; omega), ix_n (by omega) (by decide), obs, obs, k1, obs, n_succ]
    exact ⟨S2, m1, m2, m3⟩
theorem IsW.dis {W V : Nat} (hW : IsW W) (hV : IsW V) (h : W ≠ V) : W + 168 ≤ V ∨ V + 168 ≤ W := by
  rcases hW with rfl | rfl | rfl | rfl <;> rcases hV with rfl | rfl | rfl | rfl <;> omega
theorem w_copy_ok {S : Mem} {W V : Nat} {w : Wst} (hW : IsW W) (hV : IsW V) (hne : W ≠ V) (hR : RW S V w) (hI : Inv w) : ∃ S1, fw_copyFrom W V S = some S1 ∧ RW S1 W w ∧ OW W S S1 := by
  have h12 := hI.1
  have hd := hW.dis hV hne
  obtain ⟨S1, k1, k2, k3⟩ := w_copy_loop (S0 := S) hW hV hd hI (wN w) LF 0 (up2 S W 4 (S V 4)) (Nat.zero_add _) (by show wN w < 3000; omega) (hR.congr h12 fun b q => up2_off (by have := q.1; have := q.2; omega)) (by rw [up2_self]; exact hR.1) (fun b hb => absurd hb (Nat.not_lt_zero _)) (OW.refl.up (by decide))
  refine ⟨S1, ?_, k2, k3⟩
  unfold fw_copyFrom
  rw [obs]
  exact k1
