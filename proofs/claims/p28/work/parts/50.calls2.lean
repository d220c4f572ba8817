/-! 50: calls: sets, counts, handles, texts fed -/
set_option maxRecDepth 100000 in
theorem bit_step : ∀ c, c < 12 → ∀ m, m < 2 ^ c → (Int32.ofNat m ||| (1 <<< (Int32.ofNat c &&& 31))) = Int32.ofNat (m + 2 ^ c) ∧ fm_bits (Int32.ofNat (m + 2 ^ c)) M0 = (fm_bits (Int32.ofNat m) M0).map (· + 1) := by decide +kernel
def cnt (p : Nat → Bool) : Nat → Nat → Nat
  | 0, _ => 0
  | k + 1, c => (if p c = true then 1 else 0) + cnt p k (c + 1)
theorem sBits_cnt (p : Nat → Bool) : ∀ (k c m t : Nat), m < 2 ^ c → c + k ≤ 12 → fm_bits (Int32.ofNat m) M0 = some (Int32.ofNat t) → ∃ m', sBits p k c (Int32.ofNat m) = Int32.ofNat m' ∧ m' < 2 ^ (c + k) ∧ fm_bits (Int32.ofNat m') M0 = some (Int32.ofNat (t + cnt p k c))
  | 0, c, m, t, hm, _, ht => ⟨m, rfl, hm, ht⟩
  | k + 1, c, m, t, hm, hc, ht => by
    show ∃ m', sBits p k (c + 1) (if p c = true then Int32.ofNat m ||| (1 <<< (Int32.ofNat c &&& 31)) else Int32.ofNat m ||| 0) = Int32.ofNat m' ∧ m' < 2 ^ (c + (k + 1)) ∧ fm_bits (Int32.ofNat m') M0 = some (Int32.ofNat (t + ((if p c = true then 1 else 0) + cnt p k (c + 1))))
    have h2 : 2 ^ (c + 1) = 2 ^ c + 2 ^ c := by rw [Nat.pow_succ]; omega
    by_cases e : p c = true
    · obtain ⟨b1, b2⟩ := bit_step c (by omega) m hm
      obtain ⟨m', q1, q2, q3⟩ := sBits_cnt p k (c + 1) (m + 2 ^ c) (t + 1) (by omega) (by omega) (by rw [b2, ht, ← n_succ]; rfl)
      rw [if_pos e, if_pos e, b1]
      exact ⟨m', q1, by rw [show c + (k + 1) = c + 1 + k by omega]; exact q2, by rw [← Nat.add_assoc]; exact q3⟩
    · obtain ⟨m', q1, q2, q3⟩ := sBits_cnt p k (c + 1) m t (by omega) (by omega) ht
      rw [if_neg e, if_neg e, Int32.or_zero, Nat.zero_add]
      exact ⟨m', q1, by rw [show c + (k + 1) = c + 1 + k by omega]; exact q2, q3⟩
theorem bits_of (p : Nat → Bool) (n : Nat) (hn : n ≤ 12) : ∃ m, sBits p n 0 0 = Int32.ofNat m ∧ m < 4096 ∧ fm_bits (Int32.ofNat m) M0 = some (Int32.ofNat (cnt p n 0)) := by
  obtain ⟨m, h1, h2, h3⟩ := sBits_cnt p n 0 0 0 (by decide) (by omega) (by decide +kernel)
  rw [Nat.zero_add] at h2 h3
  refine ⟨m, h1, ?_, h3⟩
  have := Nat.pow_le_pow_right (show 0 < 2 by decide) hn
  have e : (2 : Nat) ^ 12 = 4096 := by decide
  omega
theorem and_n (a b : Nat) : Int32.ofNat a &&& Int32.ofNat b = Int32.ofNat (a &&& b) := by
  apply Int32.toBitVec_inj.1
  show BitVec.ofNat 32 a &&& BitVec.ofNat 32 b = BitVec.ofNat 32 (a &&& b)
  apply BitVec.eq_of_toNat_eq
  rw [BitVec.toNat_and, BitVec.toNat_ofNat, BitVec.toNat_ofNat, BitVec.toNat_ofNat, Nat.and_mod_two_pow]
theorem cnt_range (p : Nat → Bool) : ∀ (k c : Nat), ((List.range' c k).filter p).length = cnt p k c
  | 0, _ => rfl
  | k + 1, c => by
    rw [List.range'_succ]
    show ((c :: List.range' (c + 1) k).filter p).length = (if p c = true then 1 else 0) + cnt p k (c + 1)
    rw [← cnt_range p k (c + 1)]
    by_cases e : p c = true
    · rw [List.filter_cons_of_pos e, if_pos e, List.length_cons]
      omega
    · rw [List.filter_cons_of_neg e, if_neg e]
      omega
theorem cnt_off (p : Nat → Bool) : ∀ (k c : Nat), (∀ d, c ≤ d → p d = false) → cnt p k c = 0
  | 0, _, _ => rfl
  | k + 1, c, h => by
    show (if p c = true then 1 else 0) + cnt p k (c + 1) = 0
    rw [if_neg (by rw [h c (Nat.le_refl _)]; decide), cnt_off p k (c + 1) fun d hd => h d (by omega)]
theorem cnt_add (p : Nat → Bool) (k : Nat) : ∀ (j c : Nat), cnt p (j + k) c = cnt p j c + cnt p k (c + j)
  | 0, c => by
    rw [Nat.zero_add]
    show _ = 0 + cnt p k (c + 0)
    rw [Nat.zero_add]
    rfl
  | j + 1, c => by
    rw [show j + 1 + k = (j + k) + 1 by omega]
    show (if p c = true then 1 else 0) + cnt p (j + k) (c + 1) = ((if p c = true then 1 else 0) + cnt p j (c + 1)) + cnt p k (c + (j + 1))
    rw [cnt_add p k j (c + 1), show c + 1 + j = c + (j + 1) by omega]
    omega
theorem lvc_cnt {w : Wst} (h12 : wN w ≤ 12) : lvc w = cnt (sLive w) (wN w) 0 := by
  unfold lvc
  rw [List.range_eq_range', cnt_range]
  have e := cnt_add (sLive w) (12 - wN w) (wN w) 0
  rw [show wN w + (12 - wN w) = 12 by omega, Nat.zero_add, cnt_off (sLive w) _ (wN w) fun d hd => kill_big (by omega)] at e
  exact e
theorem live_bits {S : Mem} {w : Wst} (h12 : wN w ≤ 12) : fm_bits (sBits (sLive w) (wN w) 0 0) S = some (Int32.ofNat (lvc w)) := by
  obtain ⟨m, h1, h2, h3⟩ := bits_of (sLive w) (wN w) h12
  rw [bits_M, h1, h3, lvc_cnt h12]
theorem live_count {S S1 : Mem} {w : Wst} (h12 : wN w ≤ 12) : fj_bitCount (sBits (sLive w) (wN w) 0 0) S = fm_bits (sBits (sLive w) (wN w) 0 0) S1 := by
  obtain ⟨m, h1, h2, h3⟩ := bits_of (sLive w) (wN w) h12
  rw [bits_M, count_M, h1, bits_count m h2]
theorem and_count {S S1 : Mem} {p q : Nat → Bool} {n : Nat} (h12 : n ≤ 12) : fj_bitCount (sBits p n 0 0 &&& sBits q n 0 0) S = fm_bits (sBits p n 0 0 &&& sBits q n 0 0) S1 := by
  obtain ⟨m, h1, h2, -⟩ := bits_of p n h12
  obtain ⟨k, h3, -, -⟩ := bits_of q n h12
  rw [bits_M, count_M, h1, h3, and_n, bits_count (m &&& k) (Nat.lt_of_le_of_lt Nat.and_le_left h2)]
section
variable {S : Mem} {w : Wst} {ik : Option Wst} {bl : List Int32} {hd : Nat → Hd}
theorem stop_10 (n : Nat) (w : Wst) (a : Nat) : wI (sStop n w a) 10 = wI w 10 := stop_rel (P := fun w w1 => wI w1 10 = wI w 10) (fun _ => rfl) (fun h k => k.trans h) (fun w a => by
  show wI (sTell _ a _) 10 = wI w 10
  have h := kp10 (s1_pre w a)
  exact h) n w a
theorem e_stop (h : REL S w ik bl hd) (v : Int32) : ∃ r S1 S2 w', fx_stop v S = some (r, S1) ∧ fm_stop v S1 = some (r, S2) ∧ REL S2 w' ik bl hd := by
  have hg := h.2.2.1
  have hI := hg.1
  unfold fx_stop fm_stop
  rcases actor_cases h v with ⟨a, ha, ha12, rfl, e1, e2⟩ | ⟨e1, e2⟩
  · obtain ⟨l1, l2⟩ := live_both h ha
    rw [e1, obs, if_neg n10, l1, obs]
    by_cases e : sLive w a = true
    · obtain ⟨S1, q1, q2, q3⟩ := w_halt_ok (Or.inl rfl : IsW 1) h.1.1 hI hg.2.1 e
      have hf := fr.of (Or.inl rfl) q3.1
      have hr : RM (wI w 10) (S1 698) w := by
        rw [hf 698 (by omega)]
        exact h.2.1.1
      obtain ⟨f1, k1, k2⟩ := m_stop_ok (S := S1) ⟨hg.1, hg.2.1⟩ e hr
      have b1 := m_isActor_ok (S := S1) hr hI (a := a) (by omega)
      have b2 := m_isLive_ok (S := S1) hr hI ha
      have b3 := m_liveOnes_ok (S := S1) hr hI
      rw [gM_eta] at k1 b1 b2 b3
      have hgs := stop_good hg e
      have hsh := stop_shr 12 w a
      have b4 := m_liveOnes_ok (S := S1) k2 hgs.1
      have hle : lvc (sStop 12 w a) ≤ lvc w := filt_le hsh.2.2.1 _
      rw [if_pos e, if_neg n10, q1, bd_some]
      refine ⟨_, S1, gM S1 f1, sStop 12 w a, rfl, ?_, h.world q2 hf mf_of ?_ hgs (Nat.le_of_eq hsh.1.symm)⟩
      · rw [b1, if_pos ha, obs, if_neg n10, b2, obs, if_pos e, if_neg n10, b3, obs, live_bits hI.1, obs, k1, obs, b4, obs, live_bits hgs.1.1, obs, n_sub hle]
      · rw [gM_at, stop_10]
        exact k2
    · rw [if_neg e, if_pos rfl]
      refine ⟨_, _, _, w, rfl, ?_, h⟩
      rw [e2, obs, if_neg n10, l2, obs, if_neg e, if_pos rfl]
  · rw [e1, obs, if_pos rfl]
    refine ⟨_, _, _, w, rfl, ?_, h⟩
    rw [e2, obs, if_pos rfl]
/-! counts -/
def sMail (w : Wst) : Nat → Nat → Int32 → Int32
  | 0, _, q => q
  | k + 1, c, q => sMail w k (c + 1) (q + Int32.ofNat (aMail (wA w c)).length)
theorem w_mailed_loop {w : Wst} (hR : RW S 1 w) (hI : Inv w) : ∀ (m n c : Nat) (q : Int32), c + m = wN w → m < n → fw_mailed_4 n 1 q (Int32.ofNat c) S = some (sMail w m c q)
  | _, 0, _, _, _, h => absurd h (Nat.not_lt_zero _)
  | 0, n + 1, c, q, h, _ => by
    have h12 := hI.1
    show fw_mailed_4b (fw_mailed_4 n) 1 q (Int32.ofNat c) S = _
    unfold fw_mailed_4b
    rw [hR.1, if_pos ((n_le (by omega) (by omega)).mpr (by omega))]
    rfl
  | m + 1, n + 1, c, q, h, hn => by
    have h12 := hI.1
    show fw_mailed_4b (fw_mailed_4 n) 1 q (Int32.ofNat c) S = sMail w m (c + 1) (q + Int32.ofNat (aMail (wA w c)).length)
    unfold fw_mailed_4b
    rw [hR.1, if_neg (fun q => by rw [n_le (by omega) (by omega)] at q; omega), if_neg (fun q => by rw [n12, n_le (by decide) (by omega)] at q; omega), ix_n (by omega) (by decide), obs, (hR.2.2.1 c (by omega)).2.2.1.1, n_succ]
    exact w_mailed_loop hR hI m n (c + 1) _ (by omega) (by omega)
theorem m_mailed_loop {en : Int32} {w : Wst} (hR : RM en (S 698) w) (hI : Inv w) : ∀ (m n c : Nat) (q : Int32), c + m = wN w → m < n → fm_count_75 n q (Int32.ofNat c) S = some (sMail w m c q)
  | _, 0, _, _, _, h => absurd h (Nat.not_lt_zero _)
  | 0, n + 1, c, q, h, _ => by
    have h12 := hI.1
    show fm_count_75b (fm_count_75 n) q (Int32.ofNat c) S = _
    unfold fm_count_75b
    rw [v924, obs, hR.1, if_pos ((n_le (by omega) (by omega)).mpr (by omega))]
    rfl
  | m + 1, n + 1, c, q, h, hn => by
    have h12 := hI.1
    show fm_count_75b (fm_count_75 n) q (Int32.ofNat c) S = sMail w m (c + 1) (q + Int32.ofNat (aMail (wA w c)).length)
    unfold fm_count_75b
    rw [v924, obs, hR.1, if_neg (fun q => by rw [n_le (by omega) (by omega)] at q; omega), a13 (by omega), obs, (hR.2.2.1 c (by omega)).2.2.1.1, n_succ]
    exact m_mailed_loop hR hI m n (c + 1) _ (by omega) (by omega)
theorem e_count (h : REL S w ik bl hd) (v : Int32) : ∃ r, fx_count v S = some r ∧ fm_count v S = some r := by
  have hI := h.2.2.1.1
  have h12 := hI.1
  have hR := h.1.1
  have hM := h.2.1.1
  obtain ⟨tl, t1, t2, t3, t4⟩ := hM.tl hI
  have hx : fw_liveBits 1 S = some (sBits (sLive w) (wN w) 0 0) := w_liveBits_ok hR hI
  have hy : fm_liveOnes S = some (sBits (sLive w) (wN w) 0 0) := by
    have := m_liveOnes_ok (S := S) hM hI
    rwa [gM_eta] at this
  have hz : fw_mailed 1 S = some (sMail w (wN w) 0 0) := w_mailed_loop hR hI (wN w) LF 0 0 (Nat.zero_add _) (by show _ < 3000; omega)
  have hu : fm_count_75 LF 0 0 S = some (sMail w (wN w) 0 0) := m_mailed_loop hM hI (wN w) LF 0 0 (Nat.zero_add _) (by show _ < 3000; omega)
  have r3 : S 3 3 = Int32.ofNat (wT w).length := hR.2.2.2.1.1
  have r10 : S 10 2 = Int32.ofNat (wC w).length := hR.2.2.2.2.2.1
  have r7 : S 7 2 = Int32.ofNat (wL w).length := hR.2.2.2.2.1.1
  unfold fx_count fm_count
  rw [hx, hy, hz, hu, v924, v931, v927, v926, v925, v993, v962]
  simp only [obs]
  rw [live_count (S1 := S) h12, live_bits h12, hR.1, hM.1, r3, t1.1, ← t4, hR.2.1 8 (by decide) (by decide), hM.2.1.2.2.1, hR.2.1 7 (by decide) (by decide), hM.2.1.2.1, hR.2.1 6 (by decide) (by decide), hM.2.1.1, r10, hM.2.2.2.2.2.1, r7, hM.2.2.2.2.1.1, h.1.2.2.1.1, h.2.1.2.2.1.1]
  simp only [obs]
  by_cases c0 : v = 0
  · simp only [if_pos c0]
    exact ⟨_, rfl, rfl⟩
  simp only [if_neg c0]
  by_cases c1 : v = 1
  · simp only [if_pos c1]
    exact ⟨_, rfl, rfl⟩
  simp only [if_neg c1]
  by_cases c2 : v = 2
  · simp only [if_pos c2]
    exact ⟨_, rfl, rfl⟩
  simp only [if_neg c2]
  by_cases c3 : v = 3
  · simp only [if_pos c3]
    exact ⟨_, rfl, rfl⟩
  simp only [if_neg c3]
  by_cases c4 : v = 4
  · simp only [if_pos c4]
    exact ⟨_, rfl, rfl⟩
  simp only [if_neg c4]
  by_cases c5 : v = 5
  · simp only [if_pos c5]
    exact ⟨_, rfl, rfl⟩
  simp only [if_neg c5]
  by_cases c6 : v = 6
  · simp only [if_pos c6]
    exact ⟨_, rfl, rfl⟩
  simp only [if_neg c6]
  by_cases c7 : v = 7
  · simp only [if_pos c7]
    exact ⟨_, rfl, rfl⟩
  simp only [if_neg c7]
  by_cases c8 : v = 8
  · simp only [if_pos c8]
    exact ⟨_, rfl, rfl⟩
  simp only [if_neg c8]
  by_cases c9 : v = 9
  · simp only [if_pos c9]
    exact ⟨_, rfl, rfl⟩
  simp only [if_neg c9]
  exact ⟨_, rfl, rfl⟩
/-! handles -/
theorem lnH : ln 704 = 6 ∧ ln 705 = 6 ∧ ln 706 = 6 ∧ ∀ j, j < 6 → ln (708 + j) = 60 ∧ ln (679 + 3 * j + 1 + 1) = 60 := by decide +kernel
theorem c704 {k : Nat} (h : k < 6) : ald S 704 (Int32.ofNat k) = some (S 704 k) := ald_n (by rw [lnH.1]; exact h) (by rw [lnH.1]; decide)
theorem c705 {k : Nat} (h : k < 6) : ald S 705 (Int32.ofNat k) = some (S 705 k) := ald_n (by rw [lnH.2.1]; exact h) (by rw [lnH.2.1]; decide)
theorem c706 {k : Nat} (h : k < 6) : ald S 706 (Int32.ofNat k) = some (S 706 k) := ald_n (by rw [lnH.2.2.1]; exact h) (by rw [lnH.2.2.1]; decide)
theorem d704 {k : Nat} {v : Int32} (h : k < 6) : ast S 704 (Int32.ofNat k) v = some (up2 S 704 k v) := ast_n (by rw [lnH.1]; exact h) (by rw [lnH.1]; decide)
theorem d705 {k : Nat} {v : Int32} (h : k < 6) : ast S 705 (Int32.ofNat k) v = some (up2 S 705 k v) := ast_n (by rw [lnH.2.1]; exact h) (by rw [lnH.2.1]; decide)
theorem d706 {k : Nat} {v : Int32} (h : k < 6) : ast S 706 (Int32.ofNat k) v = some (up2 S 706 k v) := ast_n (by rw [lnH.2.2.1]; exact h) (by rw [lnH.2.2.1]; decide)
theorem hand_cases (v : Int32) (S1 S2 : Mem) : (∃ j, j < 6 ∧ v = Int32.ofNat j ∧ fx_isHandle v S1 = some 1 ∧ fm_isHandle v S2 = some 1) ∨ (fx_isHandle v S1 = some 0 ∧ fm_isHandle v S2 = some 0) := by
  unfold fx_isHandle fm_isHandle
  rw [in_ok, obs]
  by_cases h1 : v < 0
  · rw [if_pos h1, if_neg (fun q => q.1 h1)]
    exact Or.inr ⟨rfl, rfl⟩
  · rw [if_neg h1]
    rcases nn_cases v with hv | ⟨k, hk, rfl⟩
    · exact absurd hv h1
    · by_cases h2 : k < 6
      · rw [if_neg (show ¬ (6 : Int32) ≤ Int32.ofNat k from fun q => by rw [show (6 : Int32) = Int32.ofNat 6 from rfl, n_le (by decide) hk] at q; omega), if_pos ⟨h1, fun q => by rw [show (5 : Int32) = Int32.ofNat 5 from rfl, n_lt (by decide) hk] at q; omega⟩]
        exact Or.inl ⟨k, h2, rfl, rfl, rfl⟩
      · rw [if_pos (show (6 : Int32) ≤ Int32.ofNat k by rw [show (6 : Int32) = Int32.ofNat 6 from rfl, n_le (by decide) hk]; omega), if_neg (fun q => q.2 (by rw [show (5 : Int32) = Int32.ofNat 5 from rfl, n_lt (by decide) hk]; omega))]
        exact Or.inr ⟨rfl, rfl⟩
/-- one handle holds another thing -/
theorem REL.hnd {S2 : Mem} {j : Nat} {x : Hd} (h : REL S w ik bl hd) (hj : j < 6) (hx : okH w x) (hc : ∀ b, b < 697 → (b < 679 + 3 * j ∨ 679 + 3 * j + 3 ≤ b) → S2 b = S b) (hm : S2 697 = S 697 ∧ S2 698 = S 698 ∧ S2 701 = S 701 ∧ S2 703 = S 703) (h4 : ∀ i, i ≠ j → S2 704 i = S 704 i) (h5 : ∀ i, i ≠ j → S2 705 i = S 705 i) (h6 : ∀ i, i ≠ j → S2 706 i = S 706 i) (h7 : ∀ i, i ≠ j → i < 6 → S2 (708 + i) = S (708 + i)) (k1 : S2 (679 + 3 * j) 1 = x.1 ∧ (x.1 = 1 → S2 (679 + 3 * j) 2 = x.2.1) ∧ (x.1 = 2 → RN S2 (679 + 3 * j + 1) x.2.2)) (k2 : S2 704 j = x.1 ∧ (x.1 = 1 → S2 705 j = x.2.1) ∧ (x.1 = 2 → S2 706 j = Int32.ofNat x.2.2.length ∧ ∀ i, i < x.2.2.length → x.2.2[i]? = some (S2 (708 + j) i))) : REL S2 w ik bl (xup hd j x) := by
  obtain ⟨⟨c1, c2, c3, c4⟩, ⟨m1, m2, m3, m4⟩, g1, g2, g3, g4, g5⟩ := h
  obtain ⟨m5, m6, m7, m8⟩ := hm
  refine ⟨⟨c1.congr g1.1.1 fun b q => hc b (by have := q.2; omega) (by have := q.2; omega), c2.congr g2 (hc 0 (by decide) (by omega)) fun b q => hc b (by have := q.2; omega) (by have := q.2; omega), c3.congr (hc _ (by decide) (by omega)) (hc _ (by decide) (by omega)), fun i hi => ?_⟩, ⟨by rw [m6]; exact m1, m2.congr (by rw [m5]) m7, m3.congr (by rw [m5]) m8, fun i hi => ?_⟩, g1, g2, g3, g4, fun i hi => ?_⟩
  · by_cases e : i = j
    · rw [e, xup_s]
      exact k1
    · rw [xup_n e, hc _ (by omega) (by omega)]
      exact ⟨(c4 i hi).1, (c4 i hi).2.1, fun q => ((c4 i hi).2.2 q).congr (hc _ (by omega) (by omega)) (hc _ (by omega) (by omega))⟩
  · by_cases e : i = j
    · rw [e, xup_s]
      exact k2
    · rw [xup_n e, h4 i e, h5 i e, h6 i e, h7 i e hi]
      exact m4 i hi
  · by_cases e : i = j
    · rw [e, xup_s]
      exact hx
    · rw [xup_n e]
      exact g5 i hi
theorem e_hold (h : REL S w ik bl hd) (v1 v2 : Int32) : ∃ r S1 S2 hd', fx_hold v1 v2 S = some (r, S1) ∧ fm_hold v1 v2 S1 = some (r, S2) ∧ REL S2 w ik bl hd' := by
  have hI := h.2.2.1.1
  unfold fx_hold fm_hold
  rcases hand_cases v1 S S with ⟨j, hj, rfl, e1, e2⟩ | ⟨e1, e2⟩
  · -- both sides write
    have key : ∀ s : Int32, (s = 0 ∨ s = 1) → (s = 1 → okN (wN w) v2) → ∃ S1 S2 hd', S1 = up2 (up2 S (679 + 3 * j) 1 s) (679 + 3 * j) 2 v2 ∧ S2 = up2 (up2 S1 704 j s) 705 j v2 ∧ REL S2 w ik bl hd' := fun s hs ho => by
      refine ⟨_, _, xup hd j (s, v2, []), rfl, rfl, ?_⟩
      refine h.hnd hj ⟨hs.elim Or.inl fun q => Or.inr (Or.inl q), ho, fun q => ?_⟩ (fun b q1 q2 => ?_) ⟨?_, ?_, ?_, ?_⟩ (fun i q => ?_) (fun i q => ?_) (fun i q => ?_) (fun i q1 q2 => ?_) ⟨?_, fun q => ?_, fun q => ?_⟩ ⟨?_, fun q => ?_, fun q => ?_⟩
      · rcases hs with rfl | rfl
        · exact absurd (show (0 : Int32) = 2 from q) (by decide)
        · exact absurd (show (1 : Int32) = 2 from q) (by decide)
      · rw [up2_off (by omega), up2_off (by omega), up2_off (by omega), up2_off (by omega)]
      · rw [up2_off (by omega), up2_off (by omega), up2_off (by omega), up2_off (by omega)]
      · rw [up2_off (by omega), up2_off (by omega), up2_off (by omega), up2_off (by omega)]
      · rw [up2_off (by omega), up2_off (by omega), up2_off (by omega), up2_off (by omega)]
      · rw [up2_off (by omega), up2_off (by omega), up2_off (by omega), up2_off (by omega)]
      · rw [up2_off (by omega), up2_nf q, up2_off (by omega), up2_off (by omega)]
      · rw [up2_nf q, up2_off (by omega), up2_off (by omega), up2_off (by omega)]
      · rw [up2_off (by omega), up2_off (by omega), up2_off (by omega), up2_off (by omega)]
      · rw [up2_off (by omega), up2_off (by omega), up2_off (by omega), up2_off (by omega)]
      · rw [up2_off (by omega), up2_off (by omega), up2_nf (by decide), up2_self]
      · rw [up2_off (by omega), up2_off (by omega), up2_self]
      · rcases hs with rfl | rfl
        · exact absurd (show (0 : Int32) = 2 from q) (by decide)
        · exact absurd (show (1 : Int32) = 2 from q) (by decide)
      · rw [up2_off (by omega), up2_self]
      · rw [up2_self]
      · rcases hs with rfl | rfl
        · exact absurd (show (0 : Int32) = 2 from q) (by decide)
        · exact absurd (show (1 : Int32) = 2 from q) (by decide)
    have hme : ∀ S1 : Mem, fm_isHandle (Int32.ofNat j) S1 = some 1 := fun S1 => by
      rcases hand_cases (Int32.ofNat j) S S1 with ⟨_, _, _, _, q⟩ | ⟨q, -⟩
      · exact q
      · rw [e1] at q
        exact absurd (Option.some.inj q) (by decide)
    rw [e1, obs, if_neg n10]
    by_cases g : v2 = -1
    · obtain ⟨S1, S2, hd', q1, q2, q3⟩ := key 0 (Or.inl rfl) (fun q => absurd q (by decide))
      rw [if_pos g]
      unfold fx_hold_25 fm_hold_23
      rw [ix_n hj (by decide), obs, if_pos g, obs, obs, obs]
      refine ⟨1, S1, S2, hd', by rw [q1], ?_, q3⟩
      rw [hme, obs, if_neg n10, if_pos g, if_pos g, d704 hj, obs, d705 hj, obs, q2]
    · rw [if_neg g]
      rcases actor_cases h v2 with ⟨b, hb, hb12, hbe, b1, b2⟩ | ⟨b1, b2⟩
      · obtain ⟨S1, S2, hd', q1, q2, q3⟩ := key 1 (Or.inr rfl) (fun _ => ⟨b, hb, hbe⟩)
        have b3 : fm_isActor v2 S1 = some 1 := by
          have e698 : S1 698 = S 698 := by rw [q1, up2_off (by omega), up2_off (by omega)]
          rw [← b2]
          unfold fm_isActor
          rw [v924, v924, e698]
          rfl
        rw [b1, obs, if_neg n10]
        unfold fx_hold_25 fm_hold_23
        rw [ix_n hj (by decide), obs, if_neg g, obs, obs, obs]
        refine ⟨1, S1, S2, hd', by rw [q1], ?_, q3⟩
        rw [hme, obs, if_neg n10, if_neg g, b3, obs, if_neg n10, if_neg g, d704 hj, obs, d705 hj, obs, q2]
      · rw [b1, obs, if_pos rfl]
        refine ⟨_, S, S, hd, rfl, ?_, h⟩
        rw [e2, obs, if_neg n10, if_neg g, b2, obs, if_pos rfl]
  · rw [e1, obs, if_pos rfl]
    refine ⟨_, S, S, hd, rfl, ?_, h⟩
    rw [e2, obs, if_pos rfl]
/-! rows of ints -/
def zU (g : Nat → Int32) (k : Nat) : Nat → Int32 := fun i => if i < k then 0 else g i
theorem zU_step {g : Nat → Int32} {k : Nat} : upd (zU g k) k 0 = zU g (k + 1) := by
  funext i
  unfold upd zU
  by_cases e : i = k
  · rw [if_pos e, if_pos (by omega)]
  · rw [if_neg e]
    by_cases e2 : i < k
    · rw [if_pos e2, if_pos (by omega)]
    · rw [if_neg e2, if_neg (by omega)]
theorem xup_up2 {S : Mem} {a k : Nat} {g : Nat → Int32} {v : Int32} : up2 (xup S a g) a k v = xup S a (upd g k v) := by
  funext b
  unfold up2 xup
  by_cases e : b = a
  · rw [if_pos e, if_pos e, if_pos rfl]
  · rw [if_neg e, if_neg e, if_neg e]
theorem fill_loop {S : Mem} {o n : Nat} (hl : ln (o + 1) = 60) (hn : n ≤ 60) (hne : o + 1 ≠ o) : ∀ (m k i : Nat), i + m = 60 → m < k → fn_fillWithZeros_2 k o (Int32.ofNat n) (Int32.ofNat i) (xup S (o + 1) (zU (S (o + 1)) i)) = some (up2 (xup S (o + 1) (zU (S (o + 1)) 60)) o 1 (Int32.ofNat n))
  | _, 0, _, _, h => absurd h (Nat.not_lt_zero _)
  | 0, k + 1, i, h, _ => by
    have e : i = 60 := by omega
    subst e
    show fn_fillWithZeros_2b (fn_fillWithZeros_2 k) o (Int32.ofNat n) (Int32.ofNat 60) _ = _
    unfold fn_fillWithZeros_2b
    rw [hl, if_pos ((n_le (by decide) (by decide)).mpr (by decide)), obs, imn_n (by omega) (by decide), Nat.min_eq_left hn, imx_0 (by omega)]
  | m + 1, k + 1, i, h, hk => by
    show fn_fillWithZeros_2b (fn_fillWithZeros_2 k) o (Int32.ofNat n) (Int32.ofNat i) _ = _
    unfold fn_fillWithZeros_2b
    rw [hl, if_neg (fun q => by rw [n_le (by decide) (by omega)] at q; omega), ast_n (by rw [hl]; omega) (by rw [hl]; decide), obs, n_succ, xup_up2, zU_step]
    exact fill_loop hl hn hne m k (i + 1) (by omega) (by omega)
theorem zU_0 {g : Nat → Int32} : zU g 0 = g := by
  funext i
  exact if_neg (Nat.not_lt_zero _)
theorem xup_id {S : Mem} {a : Nat} : xup S a (S a) = S := by
  funext b
  unfold xup
  split
  · rename_i q
    rw [q]
  · rfl
theorem m_row_loop {S : Mem} {j : Nat} (hj : j < 6) : ∀ (m k i : Nat), i + m = 60 → m < k → fm_row_39 k (Int32.ofNat j) (Int32.ofNat i) (xup S (708 + j) (zU (S (708 + j)) i)) = some (1, xup S (708 + j) (zU (S (708 + j)) 60))
  | _, 0, _, _, h => absurd h (Nat.not_lt_zero _)
  | 0, k + 1, i, h, _ => by
    have e : i = 60 := by omega
    subst e
    show fm_row_39b (fm_row_39 k) (Int32.ofNat j) (Int32.ofNat 60) _ = _
    unfold fm_row_39b
    rw [if_pos (by decide)]
  | m + 1, k + 1, i, h, hk => by
    have hl := (lnH.2.2.2 j hj).1
    show fm_row_39b (fm_row_39 k) (Int32.ofNat j) (Int32.ofNat i) _ = _
    unfold fm_row_39b
    rw [if_neg (fun q => by rw [show (60 : Int32) = Int32.ofNat 60 from rfl, n_le (by decide) (by omega)] at q; omega), ix_n hj (by decide), obs, ast_n (by rw [hl]; omega) (by rw [hl]; decide), obs, n_succ, xup_up2, zU_step]
    exact m_row_loop hj m k (i + 1) (by omega) (by omega)
theorem hand_m {j : Nat} (hj : j < 6) (S1 : Mem) : fm_isHandle (Int32.ofNat j) S1 = some 1 := by
  rcases hand_cases (Int32.ofNat j) S1 S1 with ⟨_, _, _, _, q⟩ | ⟨q, -⟩
  · exact q
  · unfold fx_isHandle at q
    rw [if_neg (n_neg (by omega)), if_neg (show ¬ (6 : Int32) ≤ Int32.ofNat j from fun q => by rw [show (6 : Int32) = Int32.ofNat 6 from rfl, n_le (by decide) (by omega)] at q; omega)] at q
    exact absurd (Option.some.inj q) (by decide)
theorem e_row (h : REL S w ik bl hd) (v1 v2 : Int32) : ∃ r S1 S2 hd', fx_row v1 v2 S = some (r, S1) ∧ fm_row v1 v2 S1 = some (r, S2) ∧ REL S2 w ik bl hd' := by
  unfold fx_row fm_row
  rcases hand_cases v1 S S with ⟨j, hj, rfl, e1, e2⟩ | ⟨e1, e2⟩
  · rw [e1, obs, if_neg n10]
    by_cases g1 : v2 ≤ 60
    · rw [if_pos g1]
      by_cases g2 : 0 ≤ v2
      · obtain ⟨n, hn, rfl⟩ : ∃ n, n < 2 ^ 31 ∧ v2 = Int32.ofNat n := by
          rcases nn_cases v2 with hv | q
          · exact absurd g2 (neg0 hv)
          · exact q
        have hn60 : n ≤ 60 := by
          rw [show (60 : Int32) = Int32.ofNat 60 from rfl, n_le hn (by decide)] at g1
          exact g1
        obtain ⟨hl1, hl2⟩ := lnH.2.2.2 j hj
        have hx := fill_loop (S := up2 S (679 + 3 * j) 1 2) (o := 679 + 3 * j + 1) (n := n) hl2 hn60 (by omega) 60 LF 0 (Nat.zero_add _) (by decide)
        rw [zU_0, xup_id] at hx
        obtain ⟨S1, hS1⟩ : ∃ S1, S1 = up2 (xup (up2 S (679 + 3 * j) 1 2) (679 + 3 * j + 1 + 1) (zU ((up2 S (679 + 3 * j) 1 2) (679 + 3 * j + 1 + 1)) 60)) (679 + 3 * j + 1) 1 (Int32.ofNat n) := ⟨_, rfl⟩
        have hm := m_row_loop (S := up2 (up2 S1 704 j 2) 706 j (Int32.ofNat n)) hj 60 LF 0 (Nat.zero_add _) (by decide)
        rw [zU_0, xup_id] at hm
        rw [if_pos g2, ix_n hj (by decide), obs, obs, obs, show fn_fillWithZeros (679 + 3 * j + 1) (Int32.ofNat n) (up2 S (679 + 3 * j) 1 2) = _ from hx, obs, ← hS1]
        refine ⟨1, S1, xup (up2 (up2 S1 704 j 2) 706 j (Int32.ofNat n)) (708 + j) (zU (up2 (up2 S1 704 j 2) 706 j (Int32.ofNat n) (708 + j)) 60), xup hd j (2, 0, List.replicate n 0), rfl, ?_, ?_⟩
        · rw [hand_m hj, obs, if_neg n10, if_pos g1, if_pos g2, d704 hj, obs, d706 hj, obs]
          exact hm
        · have hrep : ∀ i, i < (List.replicate n (0 : Int32)).length → (List.replicate n (0 : Int32))[i]? = some 0 := fun i hi => by
            rw [List.length_replicate] at hi
            rw [List.getElem?_replicate, if_pos hi]
          refine h.hnd hj ⟨Or.inr (Or.inr rfl), fun q => absurd (show (2 : Int32) = 1 from q) (by decide), fun _ => by rw [List.length_replicate]; exact hn60⟩ (fun b q1 q2 => ?_) ⟨?_, ?_, ?_, ?_⟩ (fun i q => ?_) (fun i q => ?_) (fun i q => ?_) (fun i q1 q2 => ?_) ⟨?_, fun q => absurd (show (2 : Int32) = 1 from q) (by decide), fun _ => ⟨?_, fun i hi => ?_⟩⟩ ⟨?_, fun q => absurd (show (2 : Int32) = 1 from q) (by decide), fun _ => ⟨?_, fun i hi => ?_⟩⟩
          · rw [xup_ne (by omega), up2_off (by omega), up2_off (by omega), hS1, up2_off (by omega), xup_ne (by omega), up2_off (by omega)]
          · rw [xup_ne (by omega), up2_off (by omega), up2_off (by omega), hS1, up2_off (by omega), xup_ne (by omega), up2_off (by omega)]
          · rw [xup_ne (by omega), up2_off (by omega), up2_off (by omega), hS1, up2_off (by omega), xup_ne (by omega), up2_off (by omega)]
          · rw [xup_ne (by omega), up2_off (by omega), up2_off (by omega), hS1, up2_off (by omega), xup_ne (by omega), up2_off (by omega)]
          · rw [xup_ne (by omega), up2_off (by omega), up2_off (by omega), hS1, up2_off (by omega), xup_ne (by omega), up2_off (by omega)]
          · rw [xup_ne (by omega), up2_off (by omega), up2_nf q, hS1, up2_off (by omega), xup_ne (by omega), up2_off (by omega)]
          · rw [xup_ne (by omega), up2_off (by omega), up2_off (by omega), hS1, up2_off (by omega), xup_ne (by omega), up2_off (by omega)]
          · rw [xup_ne (by omega), up2_nf q, up2_off (by omega), hS1, up2_off (by omega), xup_ne (by omega), up2_off (by omega)]
          · rw [xup_ne (by omega), up2_off (by omega), up2_off (by omega), hS1, up2_off (by omega), xup_ne (by omega), up2_off (by omega)]
          · rw [xup_ne (by omega), up2_off (by omega), up2_off (by omega), hS1, up2_off (by omega), xup_ne (by omega), up2_self]
          · rw [xup_ne (by omega), up2_off (by omega), up2_off (by omega), hS1, up2_self, List.length_replicate]
          · rw [hrep i hi, xup_ne (by omega), up2_off (by omega), up2_off (by omega), hS1, up2_off (by omega), xup_self]
            rw [List.length_replicate] at hi
            unfold zU
            rw [if_pos (by omega)]
          · rw [xup_ne (by omega), up2_off (by omega), up2_self]
          · rw [xup_ne (by omega), up2_self, List.length_replicate]
          · rw [hrep i hi, xup_self]
            rw [List.length_replicate] at hi
            unfold zU
            rw [if_pos (by omega)]
      · rw [if_neg g2]
        refine ⟨_, S, S, hd, rfl, ?_, h⟩
        rw [e2, obs, if_neg n10, if_pos g1, if_neg g2]
    · rw [if_neg g1]
      refine ⟨_, S, S, hd, rfl, ?_, h⟩
      rw [e2, obs, if_neg n10, if_neg g1]
  · rw [e1, obs, if_pos rfl]
    refine ⟨_, S, S, hd, rfl, ?_, h⟩
    rw [e2, obs, if_pos rfl]
end
