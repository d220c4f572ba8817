/-! 52: calls: back, drawn, actor -/
section
variable {S : Mem} {w : Wst} {ik : Option Wst} {bl : List Int32} {hd : Nat → Hd}
/-- a handle behind a BACK -/
def hB (k : Wst) (x : Hd) : Hd := if x.1 = 1 ∧ ¬ nu x.2.1 < wN k then (0, x.2.1, []) else x
def hMix (k : Wst) (hd : Nat → Hd) (i : Nat) : Nat → Hd := fun h => if h < i then hB k (hd h) else hd h
theorem hMix_0 {k : Wst} {hd : Nat → Hd} : hMix k hd 0 = hd := by
  funext h
  exact if_neg (Nat.not_lt_zero _)
theorem hMix_at {k : Wst} {hd : Nat → Hd} {i : Nat} : hMix k hd i i = hd i := if_neg (Nat.lt_irrefl _)
theorem hMix_s {k : Wst} {hd : Nat → Hd} {i : Nat} : hMix k hd (i + 1) i = hB k (hd i) := if_pos (Nat.lt_succ_self _)
theorem hMix_n {k : Wst} {hd : Nat → Hd} {i h : Nat} (q : h ≠ i) : hMix k hd (i + 1) h = hMix k hd i h := by
  unfold hMix
  by_cases e : h < i
  · rw [if_pos (by omega), if_pos e]
  · rw [if_neg (by omega), if_neg e]
theorem hB_same {k : Wst} {x : Hd} (h : ¬ (x.1 = 1 ∧ ¬ nu x.2.1 < wN k)) : hB k x = x := if_neg h
theorem hB_off {k : Wst} {x : Hd} (h : x.1 = 1 ∧ ¬ nu x.2.1 < wN k) : hB k x = (0, x.2.1, []) := if_pos h
theorem x_back_loop {k : Wst} (hI : Inv k) (ho : ∀ h, h < 6 → (hd h).1 = 1 → ∃ a, a < 12 ∧ (hd h).2.1 = Int32.ofNat a) : ∀ (m n i : Nat) (S : Mem), i + m = 6 → m < n → RW S 1 k → CHd S (hMix k hd i) → ∃ S1, fx_back_23 n (Int32.ofNat i) S = some (Int32.ofNat (wN k), S1) ∧ CHd S1 (hMix k hd 6) ∧ ∀ b, (b < 679 ∨ 697 ≤ b) → S1 b = S b
  | _, 0, _, _, _, h, _, _ => absurd h (Nat.not_lt_zero _)
  | 0, n + 1, i, S, h, _, hR, hC => by
    have e : i = 6 := by omega
    subst e
    show ∃ S1, fx_back_23b (fx_back_23 n) (Int32.ofNat 6) S = _ ∧ _
    unfold fx_back_23b
    rw [if_pos (by decide), hR.1]
    exact ⟨S, rfl, hC, fun _ _ => rfl⟩
  | m + 1, n + 1, i, S, h, hn, hR, hC => by
    have h12 := hI.1
    have hi : i < 6 := by omega
    have hCi := hC i hi
    rw [hMix_at] at hCi
    have stay : ∀ (_ : hB k (hd i) = hd i), CHd S (hMix k hd (i + 1)) := fun q j hj => by
      by_cases e : j = i
      · rw [e, hMix_s, q]
        exact hCi
      · rw [hMix_n e]
        exact hC j hj
    show ∃ S1, fx_back_23b (fx_back_23 n) (Int32.ofNat i) S = _ ∧ _
    unfold fx_back_23b
    rw [if_neg (fun q => by rw [show (6 : Int32) = Int32.ofNat 6 from rfl, n_le (by decide) (by omega)] at q; omega), ix_n hi (by decide), obs, hCi.1, n_succ]
    by_cases g : (hd i).1 = 1
    · obtain ⟨a, ha, ea⟩ := ho i hi g
      rw [if_pos g, obs, hCi.2.1 g, ea, w_isActor_any hR hI (by omega), obs]
      by_cases g2 : a < wN k
      · rw [if_pos g2, if_neg n10]
        exact x_back_loop hI ho m n (i + 1) S (by omega) (by omega) hR (stay (hB_same fun q => q.2 (by rw [ea, nu_n (by omega)]; exact g2)))
      · have hb := hB_off (k := k) (x := hd i) ⟨g, by rw [ea, nu_n (by omega)]; exact g2⟩
        rw [if_neg g2, if_pos rfl, obs, obs]
        obtain ⟨S1, q1, q2, q3⟩ := x_back_loop hI ho m n (i + 1) (up2 S (679 + 3 * i) 1 0) (by omega) (by omega) (hR.congr h12 fun b q => up2_off (by have := q.2; omega)) (fun j hj => by
          by_cases e : j = i
          · rw [e, hMix_s, hb]
            refine ⟨up2_self, fun q => absurd (show (0 : Int32) = 1 from q) (by decide), fun q => absurd (show (0 : Int32) = 2 from q) (by decide)⟩
          · rw [hMix_n e, up2_off (by omega)]
            exact ⟨(hC j hj).1, (hC j hj).2.1, fun q => ((hC j hj).2.2 q).congr (up2_off (by omega)) (up2_off (by omega))⟩)
        exact ⟨S1, q1, q2, fun b hb => (q3 b hb).trans (up2_off (by omega))⟩
    · rw [if_neg g]
      exact x_back_loop hI ho m n (i + 1) S (by omega) (by omega) hR (stay (hB_same fun q => g q.1))
theorem m_back_loop {k : Wst} {en : Int32} (hI : Inv k) (ho : ∀ h, h < 6 → (hd h).1 = 1 → ∃ a, a < 12 ∧ (hd h).2.1 = Int32.ofNat a) : ∀ (m n i : Nat) (S : Mem), i + m = 6 → m < n → RM en (S 698) k → MHd S (hMix k hd i) → ∃ S1, fm_back_23 n (Int32.ofNat i) S = some (Int32.ofNat (wN k), S1) ∧ MHd S1 (hMix k hd 6) ∧ ∀ b, b ≠ 704 → S1 b = S b
  | _, 0, _, _, _, h, _, _ => absurd h (Nat.not_lt_zero _)
  | 0, n + 1, i, S, h, _, hR, hC => by
    have e : i = 6 := by omega
    subst e
    show ∃ S1, fm_back_23b (fm_back_23 n) (Int32.ofNat 6) S = _ ∧ _
    unfold fm_back_23b
    rw [if_pos (by decide), v924, obs, hR.1]
    exact ⟨S, rfl, hC, fun _ _ => rfl⟩
  | m + 1, n + 1, i, S, h, hn, hR, hC => by
    have h12 := hI.1
    have hi : i < 6 := by omega
    have hCi := hC i hi
    rw [hMix_at] at hCi
    have same : ∀ (_ : hB k (hd i) = hd i), ∃ S1, fm_back_23 n (Int32.ofNat (i + 1)) (up2 S 704 i (S 704 i)) = some (Int32.ofNat (wN k), S1) ∧ MHd S1 (hMix k hd 6) ∧ ∀ b, b ≠ 704 → S1 b = S b := fun q => by
      have e0 : up2 S 704 i (S 704 i) = S := by
        funext b j
        unfold up2 xup upd
        by_cases p : b = 704
        · rw [if_pos p, p]
          by_cases p2 : j = i
          · rw [if_pos p2, p2]
          · rw [if_neg p2]
        · rw [if_neg p]
      rw [e0]
      exact m_back_loop hI ho m n (i + 1) S (by omega) (by omega) hR fun j hj => by
        by_cases e : j = i
        · rw [e, hMix_s, q]
          exact hCi
        · rw [hMix_n e]
          exact hC j hj
    show ∃ S1, fm_back_23b (fm_back_23 n) (Int32.ofNat i) S = _ ∧ _
    unfold fm_back_23b
    rw [if_neg (fun q => by rw [show (6 : Int32) = Int32.ofNat 6 from rfl, n_le (by decide) (by omega)] at q; omega), c704 hi, obs, n_succ]
    by_cases g : S 704 i = 1
    · have g1 : (hd i).1 = 1 := by rw [← hCi.1]; exact g
      obtain ⟨a, ha, ea⟩ := ho i hi g1
      rw [if_pos g, c705 hi, obs, v924, obs, hR.1, hCi.2.1 g1, ea]
      by_cases g2 : a < wN k
      · rw [if_pos ((n_lt (by omega) (by omega)).mpr g2), obs, d704 hi, obs]
        exact same (hB_same fun q => q.2 (by rw [ea, nu_n (by omega)]; exact g2))
      · have hb := hB_off (k := k) (x := hd i) ⟨g1, by rw [ea, nu_n (by omega)]; exact g2⟩
        rw [if_neg (fun q => g2 ((n_lt (by omega) (by omega)).mp q)), d704 hi, obs]
        obtain ⟨S1, q1, q2, q3⟩ := m_back_loop (en := en) hI ho m n (i + 1) (up2 S 704 i 0) (by omega) (by omega) (by rw [up2_off (by decide)]; exact hR) (fun j hj => by
          by_cases e : j = i
          · rw [e, hMix_s, hb]
            exact ⟨up2_self, fun q => absurd (show (0 : Int32) = 1 from q) (by decide), fun q => absurd (show (0 : Int32) = 2 from q) (by decide)⟩
          · rw [hMix_n e, up2_nf e, up2_off (by omega), up2_off (by omega), up2_off (by omega)]
            exact hC j hj)
        exact ⟨S1, q1, q2, fun b hb => (q3 b hb).trans (up2_off hb)⟩
    · have g1 : ¬ (hd i).1 = 1 := by rw [← hCi.1]; exact g
      rw [if_neg g, obs, d704 hi, obs]
      exact same (hB_same fun q => g1 q.1)
theorem e_back (h : REL S w ik bl hd) : ∃ r S1 S2 w' hd', fx_back S = some (r, S1) ∧ fm_back S1 = some (r, S2) ∧ REL S2 w' ik bl hd' := by
  have h0 := h
  obtain ⟨⟨c1, c2, c3, c4⟩, ⟨m1, m2, m3, m4⟩, g1, g2, g3, g4, g5⟩ := h
  cases ik with
  | none =>
    have e1 : S 0 6 = 0 := c2
    have e2 : S 697 4 = 0 := m2
    unfold fx_back fm_back
    rw [e1, if_pos rfl]
    refine ⟨_, S, S, w, hd, rfl, ?_, h0⟩
    rw [e2, if_pos rfl]
  | some k =>
    obtain ⟨e1, r1⟩ := c2
    obtain ⟨e2, r2⟩ := m2
    have hk := g2 k rfl
    have h12 := hk.1.1
    have hw12 := g1.1.1
    have ho : ∀ h, h < 6 → (hd h).1 = 1 → ∃ a, a < 12 ∧ (hd h).2.1 = Int32.ofNat a := fun h hh q => by
      obtain ⟨a, ha, ea⟩ := (g5 h hh).2.1 q
      exact ⟨a, by omega, ea⟩
    obtain ⟨S1, q1, q2, q3⟩ := w_copy_ok (W := 1) (V := 337) (Or.inl rfl) (Or.inr (Or.inr (Or.inl rfl))) (by decide) r1 hk.1
    have hoff : ∀ b, (b < 1 ∨ 169 ≤ b) → S1 b = S b := fun b hb => q3.1 b fun q => by
      have := q.1
      have := q.2
      omega
    obtain ⟨S2, p1, p2, p3⟩ := x_back_loop hk.1 ho 6 LF 0 S1 (by decide) (by decide) q2 (by rw [hMix_0]; exact c4.congr fun b p1 p2 => hoff b (by omega))
    have S2off : ∀ b, (b = 0 ∨ (169 ≤ b ∧ b < 679) ∨ 697 ≤ b) → S2 b = S b := fun b hb => (p3 b (by omega)).trans (hoff b (by omega))
    have ht := take_ok (S := S2) (a := 701) (b := 698) (by decide) ln_4.2.2 ln698
    obtain ⟨S4, t1, t2, t3⟩ := m_back_loop (hd := hd) (en := wI k 10) hk.1 ho 6 LF 0 (xup S2 698 (tk (S2 701) (S2 698))) (by decide) (by decide) (by
      rw [xup_self, S2off 701 (by omega)]
      exact RM_tk r2 hk.1) (by
      rw [hMix_0]
      exact m4.congr (by rw [xup_ne (by decide), S2off _ (by omega)]) (by rw [xup_ne (by decide), S2off _ (by omega)]) (by rw [xup_ne (by decide), S2off _ (by omega)]) fun b p1 p2 => by rw [xup_ne (by omega), S2off _ (by omega)])
    have S4off : ∀ b, b ≠ 704 → b ≠ 698 → S4 b = S2 b := fun b n1 n2 => (t3 b n1).trans (xup_ne n2)
    unfold fx_back fm_back
    rw [e1, if_neg n10, q1, obs]
    refine ⟨_, S2, S4, k, hMix k hd 6, p1, ?_, ⟨q2.congr h12 fun b q => ?_, ⟨?_, r1.congr h12 fun b q => ?_⟩, c3.congr ?_ ?_, p2.congr fun b n1 n2 => S4off b (by omega) (by omega)⟩, ⟨?_, ⟨?_, ?_⟩, m3.congr ?_ ?_, t2⟩, hk, g2, g3, g4, fun j hj => ?_⟩
    · rw [S2off 697 (by omega), e2, if_neg n10, ht, obs]
      exact t1
    · have n1 := q.1
      have n2 := q.2
      rw [S4off b (by omega) (by omega), p3 b (by omega)]
    · rw [S4off 0 (by decide) (by decide), S2off 0 (by omega)]
      exact e1
    · have n1 := q.1
      have n2 := q.2
      rw [S4off b (by omega) (by omega), S2off b (by omega)]
    · rw [S4off _ (by decide) (by decide), S2off _ (by omega)]
    · rw [S4off _ (by decide) (by decide), S2off _ (by omega)]
    · rw [t3 698 (by decide), xup_self, S2off 701 (by omega)]
      exact RM_tk r2 hk.1
    · rw [S4off 697 (by decide) (by decide), S2off 697 (by omega)]
      exact e2
    · rw [S4off 701 (by decide) (by decide), S2off 701 (by omega)]
      exact r2
    · rw [S4off 697 (by decide) (by decide), S2off 697 (by omega)]
    · rw [S4off _ (by decide) (by decide), S2off _ (by omega)]
    · have hj6 : hMix k hd 6 j = hB k (hd j) := if_pos hj
      rw [hj6]
      by_cases q : (hd j).1 = 1 ∧ ¬ nu (hd j).2.1 < wN k
      · rw [hB_off q]
        exact ⟨Or.inl rfl, fun p => absurd (show (0 : Int32) = 1 from p) (by decide), fun p => absurd (show (0 : Int32) = 2 from p) (by decide)⟩
      · rw [hB_same q]
        obtain ⟨o1, o2, o3⟩ := g5 j hj
        refine ⟨o1, fun p => ?_, o3⟩
        obtain ⟨a, ha, ea⟩ := o2 p
        refine ⟨a, ?_, ea⟩
        by_cases g : a < wN k
        · exact g
        · exact absurd ⟨p, by rw [ea, nu_n (by omega)]; exact g⟩ q
/-! drawn messages -/
theorem drawn_num (m : Nat) (hm : m < 32768) : -99 ≤ (irm (Int32.ofNat m / 12) 199 - 99).toInt ∧ (irm (Int32.ofNat m / 12) 199 - 99).toInt ≤ 99 := by
  have h12 : (12 : Int32).toInt = 12 := by decide
  have h99 : (99 : Int32).toInt = 99 := by decide
  have hx : (Int32.ofNat m).toInt = m := n_int (by omega)
  have hd : (Int32.ofNat m / 12).toInt = (m : Int) / 12 := by rw [idiv_int (by omega) (by rw [h12]; decide), hx, h12]
  obtain ⟨k, hk, e⟩ := irm_n (v := Int32.ofNat m / 12) (n := 199) (by rw [hd]; omega) (by decide) (by decide)
  have e2 : irm (Int32.ofNat m / 12) 199 = Int32.ofNat k := e
  have e3 : (Int32.ofNat k - 99).toInt = (k : Int) - 99 := by
    rw [Int32.toInt_sub, n_int (by omega), h99]
    apply Int.bmod_eq_of_le_mul_two <;> omega
  rw [e2, e3]
  omega
theorem and_low (q : Int32) : ∃ m, m < 32768 ∧ q &&& 32767 = Int32.ofNat m := by
  have e : q = Int32.ofNat q.toBitVec.toNat := by
    apply Int32.toBitVec_inj.1
    show q.toBitVec = BitVec.ofNat 32 q.toBitVec.toNat
    rw [BitVec.ofNat_toNat, BitVec.setWidth_eq]
  refine ⟨q.toBitVec.toNat &&& 32767, Nat.lt_of_le_of_lt Nat.and_le_right (by decide), ?_⟩
  rw [← and_n, ← e]
  rfl
/-- G: the next seed -/
def sDrawX (G : Int32 → Int32) (w : Wst) : Int32 := (iush (G (wI w 9)) 16) &&& 32767
def sDraw1 (G : Int32 → Int32) (w : Wst) : Wst := sSend (wSI w 9 (G (wI w 9))) (nu (irm (sDrawX G w) (Int32.ofNat (wN w)))) (-1, irm (sDrawX G w / 12) 199 - 99)
def sDraw (G : Int32 → Int32) : Nat → Wst → Wst
  | 0, w => w
  | k + 1, w => sDraw G k (sDraw1 G w)
theorem draw_num (G : Int32 → Int32) (w : Wst) : okV (irm (sDrawX G w / 12) 199 - 99) := by
  obtain ⟨m, hm, e⟩ := and_low (iush (G (wI w 9)) 16)
  unfold sDrawX
  rw [e]
  exact drawn_num m hm
theorem draw_to (G : Int32 → Int32) (w : Wst) (h0 : 0 < wN w) (h12 : wN w ≤ 12) : ∃ j, j < wN w ∧ irm (sDrawX G w) (Int32.ofNat (wN w)) = Int32.ofNat j := by
  obtain ⟨m, hm, e⟩ := and_low (iush (G (wI w 9)) 16)
  unfold sDrawX
  rw [e]
  exact irm_n (by rw [n_int (by omega)]; omega) h0 (by omega)
theorem draw1_n (G : Int32 → Int32) (w : Wst) : wN (sDraw1 G w) = wN w := sSend_n ..
theorem draw1_10 (G : Int32 → Int32) (w : Wst) : wI (sDraw1 G w) 10 = wI w 10 := by
  have h := kp10 (sSend_kp (wSI w 9 (G (wI w 9))) (nu (irm (sDrawX G w) (Int32.ofNat (wN w)))) (-1, irm (sDrawX G w / 12) 199 - 99))
  exact h
theorem draw1_good (G : Int32 → Int32) {w : Wst} (hg : Good w) : Good (sDraw1 G w) := sSend_good (hg.int8 (by decide)) ⟨Or.inl rfl, Or.inl (draw_num G w)⟩
theorem draw_good (G : Int32 → Int32) : ∀ (k : Nat) (w : Wst), Good w → Good (sDraw G k w) ∧ wN (sDraw G k w) = wN w ∧ wI (sDraw G k w) 10 = wI w 10
  | 0, _, h => ⟨h, rfl, rfl⟩
  | k + 1, w, h => by
    obtain ⟨q1, q2, q3⟩ := draw_good G k (sDraw1 G w) (draw1_good G h)
    exact ⟨q1, q2.trans (draw1_n G w), q3.trans (draw1_10 G w)⟩
theorem nz_ok {n : Nat} (h0 : 0 < n) (h : n < 2 ^ 31) : nz (Int32.ofNat n) = some (Int32.ofNat n) := if_neg fun q => by
  rw [show (0 : Int32) = Int32.ofNat 0 from rfl, n_inj h (by decide)] at q
  omega
theorem x_draw_loop (G : Int32 → Int32) (hG : ∀ s, G s = s * 1103515245 + 12345) (b : Int32) : ∀ (m n i : Nat) (w : Wst) (S : Mem), i + m < 2 ^ 31 → m < n → 0 < wN w → Good w → RW S 1 w → ∃ S1, fx_drawn_36 n (Int32.ofNat (i + m)) b (Int32.ofNat i) S = some (wI (sDraw G m w) 8 - b, S1) ∧ RW S1 1 (sDraw G m w) ∧ Only (inW 1) S S1
  | _, 0, _, _, _, _, h, _, _, _ => absurd h (Nat.not_lt_zero _)
  | 0, n + 1, i, w, S, hi, _, _, hg, hR => by
    show ∃ S1, fx_drawn_36b (fx_drawn_36 n) (Int32.ofNat (i + 0)) b (Int32.ofNat i) S = _ ∧ _
    unfold fx_drawn_36b
    rw [if_pos ((n_le (a := i + 0) (by omega) (by omega)).mpr (by omega)), hR.2.1 8 (by decide) (by decide)]
    exact ⟨S, rfl, hR, Only.refl⟩
  | m + 1, n + 1, i, w, S, hi, hn, h0, hg, hR => by
    have h12 := hg.1.1
    have r1 : RW (up2 S 1 9 (G (wI w 9))) 1 (wSI w 9 (G (wI w 9))) := hR.int (by decide)
    obtain ⟨j, hj, ej⟩ := draw_to G w h0 h12
    have g1 : Good (wSI w 9 (G (wI w 9))) := hg.int8 (by decide)
    obtain ⟨S1, q1, q2, q3⟩ := w_send_ok (a := j) (-1, irm (sDrawX G w / 12) 199 - 99) (Or.inl rfl : IsW 1) r1 h12 hj (g1.1.b hj) (g1.1.mail hj)
    have hw : sDraw1 G w = sSend (wSI w 9 (G (wI w 9))) j (-1, irm (sDrawX G w / 12) 199 - 99) := by
      unfold sDraw1
      rw [ej, nu_n (by omega)]
    rw [← hw] at q2
    obtain ⟨S2, p1, p2, p3⟩ := x_draw_loop G hG b m n (i + 1) (sDraw1 G w) S1 (by omega) (by omega) (by rw [draw1_n]; exact h0) (draw1_good G hg) q2
    refine ⟨S2, ?_, p2, ((Only.refl.up ⟨Nat.le_refl _, by omega⟩).trans q3.1).trans p3⟩
    show fx_drawn_36b (fx_drawn_36 n) (Int32.ofNat (i + (m + 1))) b (Int32.ofNat i) S = _
    unfold fx_drawn_36b
    rw [if_neg (fun q => by rw [n_le (by omega) (by omega)] at q; omega), hR.2.1 9 (by decide) (by decide), ← hG, obs, up2_nf (by decide), hR.1, nz_ok h0 (by omega), obs, up2_self]
    have e9 : irm ((iush (G (wI w 9)) 16) &&& 32767) (Int32.ofNat (wN w)) = Int32.ofNat j := ej
    rw [e9, n_succ, show i + (m + 1) = i + 1 + m by omega]
    rw [show fw_send 1 (Int32.ofNat j) (-1) ((irm (((iush (G (wI w 9)) 16) &&& 32767) / 12) 199) - 99) (up2 S 1 9 (G (wI w 9))) = _ from q1, bd_some]
    exact p1
theorem m_draw_loop {en : Int32} (G : Int32 → Int32) (hG : ∀ s, G s = s * 1103515245 + 12345) (b : Int32) : ∀ (m n i : Nat) (w : Wst) (S : Mem) (f : Nat → Int32), i + m < 2 ^ 31 → m < n → 0 < wN w → Good w → RM en f w → ∃ f1, fm_drawn_37 n (Int32.ofNat (i + m)) b (Int32.ofNat i) (gM S f) = some (wI (sDraw G m w) 8 - b, gM S f1) ∧ RM en f1 (sDraw G m w)
  | _, 0, _, _, _, _, _, h, _, _, _ => absurd h (Nat.not_lt_zero _)
  | 0, n + 1, i, w, S, f, hi, _, _, hg, hR => by
    show ∃ f1, fm_drawn_37b (fm_drawn_37 n) (Int32.ofNat (i + 0)) b (Int32.ofNat i) (gM S f) = _ ∧ _
    unfold fm_drawn_37b
    rw [if_pos ((n_le (a := i + 0) (by omega) (by omega)).mpr (by omega)), g_927, obs, hR.2.1.2.2.1]
    exact ⟨f, rfl, hR⟩
  | m + 1, n + 1, i, w, S, f, hi, hn, h0, hg, hR => by
    have h12 := hg.1.1
    have r1 := hR.i9 (v := G (wI w 9)) hg.1
    obtain ⟨j, hj, ej⟩ := draw_to G w h0 h12
    have g1 : Good (wSI w 9 (G (wI w 9))) := hg.int8 (by decide)
    obtain ⟨f1, q1, q2, -⟩ := m_send_ok (S := S) (a := j) (m := (-1, irm (sDrawX G w / 12) 199 - 99)) r1 g1.1 hj (MM_num (draw_num G w))
    have hw : sDraw1 G w = sSend (wSI w 9 (G (wI w 9))) j (-1, irm (sDrawX G w / 12) 199 - 99) := by
      unfold sDraw1
      rw [ej, nu_n (by omega)]
    rw [← hw] at q2
    obtain ⟨f2, p1, p2⟩ := m_draw_loop G hG b m n (i + 1) (sDraw1 G w) S f1 (by omega) (by omega) (by rw [draw1_n]; exact h0) (draw1_good G hg) q2
    refine ⟨f2, ?_, p2⟩
    show fm_drawn_37b (fm_drawn_37 n) (Int32.ofNat (i + (m + 1))) b (Int32.ofNat i) (gM S f) = _
    unfold fm_drawn_37b
    have e924 : upd f 929 (G (wI w 9)) 924 = Int32.ofNat (wN w) := (upd_n (by decide)).trans hR.1
    rw [if_neg (fun q => by rw [n_le (by omega) (by omega)] at q; omega), g_929, obs, hR.2.1.2.2.2.2.1, ← hG, gs_929, obs, g_929, obs, upd_s, g_924, obs, e924, nz_ok h0 (by omega), obs]
    have e9 : irm ((iush (G (wI w 9)) 16) &&& 32767) (Int32.ofNat (wN w)) = Int32.ofNat j := ej
    rw [e9, n_succ, show i + (m + 1) = i + 1 + m by omega]
    rw [show fm_sends (Int32.ofNat j) (-1) ((irm (((iush (G (wI w 9)) 16) &&& 32767) / 12) 199) - 99) (gM S (upd f 929 (G (wI w 9)))) = _ from q1, bd_some]
    exact p1
theorem e_drawn (h : REL S w ik bl hd) (v : Int32) : ∃ r S1 S2 w', fx_drawn v S = some (r, S1) ∧ fm_drawn v S1 = some (r, S2) ∧ REL S2 w' ik bl hd := by
  have hg := h.2.2.1
  have h12 := hg.1.1
  obtain ⟨G, hG⟩ : ∃ G : Int32 → Int32, ∀ s, G s = s * 1103515245 + 12345 := ⟨_, fun _ => rfl⟩
  unfold fx_drawn fm_drawn
  by_cases h1 : v < 1
  · rw [if_pos h1]
    refine ⟨_, S, S, w, rfl, ?_, h⟩
    rw [in_ok, if_neg (fun q => q.1 h1), obs, if_pos rfl]
  · rw [if_neg h1]
    by_cases h2 : v ≤ 40
    · have hin : ∀ S1 : Mem, fm_in v 1 40 S1 = some 1 := fun S1 => by rw [in_ok, if_pos ⟨h1, Int32.not_lt.mpr h2⟩]
      obtain ⟨k, hk, rfl⟩ : ∃ k, k ≤ 40 ∧ v = Int32.ofNat k := by
        rcases nn_cases v with hv | ⟨k, hk, rfl⟩
        · exfalso
          rw [Int32.lt_iff_toInt_lt] at h1 hv
          have a0 : (0 : Int32).toInt = 0 := by decide
          have a1 : (1 : Int32).toInt = 1 := by decide
          omega
        · rw [show (40 : Int32) = Int32.ofNat 40 from rfl, n_le hk (by decide)] at h2
          exact ⟨k, h2, rfl⟩
      rw [if_pos h2, h.1.1.1]
      by_cases h0 : 0 < wN w
      · have hn0 : ¬ Int32.ofNat (wN w) = 0 := fun q => by
          rw [show (0 : Int32) = Int32.ofNat 0 from rfl, n_inj (by omega) (by decide)] at q
          omega
        obtain ⟨S1, q1, q2, q3⟩ := x_draw_loop G hG (S 1 8) k LF 0 w S (by omega) (by show k < 3000; omega) h0 hg h.1.1
        rw [Nat.zero_add] at q1
        have hf := fr.of (Or.inl rfl) q3
        have hr : RM (wI w 10) (S1 698) w := by
          rw [hf 698 (by omega)]
          exact h.2.1.1
        obtain ⟨f1, k1, k2⟩ := m_draw_loop G hG (S1 698 927) k LF 0 w S1 (S1 698) (by omega) (by show k < 3000; omega) h0 hg hr
        rw [gM_eta, Nat.zero_add] at k1
        have e8 : S1 698 927 = S 1 8 := by rw [hr.2.1.2.2.1, h.1.1.2.1 8 (by decide) (by decide)]
        obtain ⟨d1, d2, d3⟩ := draw_good G k w hg
        rw [if_neg hn0, show fx_drawn_36 LF (Int32.ofNat k) (S 1 8) 0 S = _ from q1]
        refine ⟨_, S1, gM S1 f1, sDraw G k w, rfl, ?_, h.world q2 hf mf_of ?_ d1 (Nat.le_of_eq d2.symm)⟩
        · rw [hin, obs, if_neg n10, v924, obs, hr.1, if_neg hn0, v927, obs, show fm_drawn_37 LF (Int32.ofNat k) (S1 698 927) 0 S1 = _ from k1, e8]
        · rw [gM_at, d3]
          exact k2
      · have e0 : Int32.ofNat (wN w) = 0 := by
          rw [show wN w = 0 by omega]
          rfl
        rw [if_pos e0]
        refine ⟨_, S, S, w, rfl, ?_, h⟩
        rw [hin, obs, if_neg n10, v924, obs, h.2.1.1.1, if_pos e0]
    · rw [if_neg h2]
      refine ⟨_, S, S, w, rfl, ?_, h⟩
      rw [in_ok, if_neg (fun q => q.2 (Int32.not_le.mp h2)), obs, if_pos rfl]
end
