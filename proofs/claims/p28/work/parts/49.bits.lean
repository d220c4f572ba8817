/-! 49: sets of actors as bits -/
def sBits (p : Nat → Bool) : Nat → Nat → Int32 → Int32
  | 0, _, q => q
  | k + 1, c, q => sBits p k (c + 1) (if p c = true then q ||| (1 <<< (Int32.ofNat c &&& 31)) else q ||| 0)
theorem sBits_add (p : Nat → Bool) (k : Nat) : ∀ (j c : Nat) (q : Int32), sBits p (j + k) c q = sBits p k (c + j) (sBits p j c q)
  | 0, c, q => by
    rw [Nat.zero_add]
    rfl
  | j + 1, c, q => by
    rw [show j + 1 + k = (j + k) + 1 by omega]
    show sBits p (j + k) (c + 1) _ = sBits p k (c + (j + 1)) (sBits p j (c + 1) _)
    rw [sBits_add p k j (c + 1), show c + 1 + j = c + (j + 1) by omega]
theorem sBits_off (p : Nat → Bool) : ∀ (k c : Nat) (q : Int32), (∀ d, c ≤ d → p d = false) → sBits p k c q = q
  | 0, _, _, _ => rfl
  | k + 1, c, q, h => by
    show sBits p k (c + 1) (if p c = true then q ||| (1 <<< (Int32.ofNat c &&& 31)) else q ||| 0) = q
    rw [if_neg (by rw [h c (Nat.le_refl _)]; decide), Int32.or_zero]
    exact sBits_off p k (c + 1) q fun d hd => h d (by omega)
theorem sBits_12 {p : Nat → Bool} {n : Nat} (hn : n ≤ 12) (h : ∀ d, n ≤ d → p d = false) : sBits p n 0 0 = sBits p 12 0 0 := by
  have e := sBits_add p (12 - n) n 0 0
  rw [show n + (12 - n) = 12 by omega, Nat.zero_add, sBits_off p (12 - n) n _ h] at e
  exact e.symm
theorem sBits_congr {p p' : Nat → Bool} : ∀ (k c : Nat) (q : Int32), (∀ d, c ≤ d → d < c + k → p d = p' d) → sBits p k c q = sBits p' k c q
  | 0, _, _, _ => rfl
  | k + 1, c, q, h => by
    show sBits p k (c + 1) (if p c = true then q ||| (1 <<< (Int32.ofNat c &&& 31)) else q ||| 0) = sBits p' k (c + 1) (if p' c = true then q ||| (1 <<< (Int32.ofNat c &&& 31)) else q ||| 0)
    rw [h c (Nat.le_refl _) (by omega)]
    exact sBits_congr k (c + 1) _ fun d h1 h2 => h d (by omega) (by omega)
theorem w_live_loop {S : Mem} {W : Nat} {w : Wst} (hR : RW S W w) (hI : Inv w) : ∀ (m n c : Nat) (q : Int32), c + m = wN w → m < n → fw_liveBits_4 n W q (Int32.ofNat c) S = some (sBits (sLive w) m c q)
  | _, 0, _, _, _, h => absurd h (Nat.not_lt_zero _)
  | 0, n + 1, c, q, h, _ => by
    have h12 := hI.1
    show fw_liveBits_4b (fw_liveBits_4 n) W q (Int32.ofNat c) S = _
    unfold fw_liveBits_4b
    rw [hR.1, if_pos ((n_le (by omega) (by omega)).mpr (by omega))]
    rfl
  | m + 1, n + 1, c, q, h, hn => by
    have h12 := hI.1
    have hc : c < wN w := by omega
    show fw_liveBits_4b (fw_liveBits_4 n) W q (Int32.ofNat c) S = sBits (sLive w) m (c + 1) (if sLive w c = true then q ||| (1 <<< (Int32.ofNat c &&& 31)) else q ||| 0)
    unfold fw_liveBits_4b
    rw [hR.1, if_neg (fun q => by rw [n_le (by omega) (by omega)] at q; omega), if_neg (fun q => by rw [n12, n_le (by decide) (by omega)] at q; omega), ix_n (by omega) (by decide), obs, (hR.2.2.1 c hc).1 6 (by decide), n_succ]
    by_cases e : sLive w c = true
    · rw [if_neg (live_6 e), if_pos e]
      exact w_live_loop hR hI m n (c + 1) _ (by omega) (by omega)
    · have e6 : aI (wA w c) 6 = 0 := (hI.b hc).resolve_right fun q => e (sLive_of hc q)
      rw [if_pos e6, if_neg e]
      exact w_live_loop hR hI m n (c + 1) _ (by omega) (by omega)
theorem w_liveBits_ok {S : Mem} {W : Nat} {w : Wst} (hR : RW S W w) (hI : Inv w) : fw_liveBits W S = some (sBits (sLive w) (wN w) 0 0) := by
  have h12 := hI.1
  exact w_live_loop hR hI (wN w) LF 0 0 (Nat.zero_add _) (by show _ < 3000; omega)
theorem w_child_loop {S : Mem} {W : Nat} {w : Wst} {v : Int32} (hR : RW S W w) (hI : Inv w) : ∀ (m n c : Nat) (q : Int32), c + m = wN w → m < n → fw_childBits_4 n W v q (Int32.ofNat c) S = some (sBits (fun b => decide (aI (wA w b) 0 = v)) m c q)
  | _, 0, _, _, _, h => absurd h (Nat.not_lt_zero _)
  | 0, n + 1, c, q, h, _ => by
    have h12 := hI.1
    show fw_childBits_4b (fw_childBits_4 n) W v q (Int32.ofNat c) S = _
    unfold fw_childBits_4b
    rw [hR.1, if_pos ((n_le (by omega) (by omega)).mpr (by omega))]
    rfl
  | m + 1, n + 1, c, q, h, hn => by
    have h12 := hI.1
    have hc : c < wN w := by omega
    show fw_childBits_4b (fw_childBits_4 n) W v q (Int32.ofNat c) S = sBits (fun b => decide (aI (wA w b) 0 = v)) m (c + 1) (if decide (aI (wA w c) 0 = v) = true then q ||| (1 <<< (Int32.ofNat c &&& 31)) else q ||| 0)
    unfold fw_childBits_4b
    rw [hR.1, if_neg (fun q => by rw [n_le (by omega) (by omega)] at q; omega), if_neg (fun q => by rw [n12, n_le (by decide) (by omega)] at q; omega), ix_n (by omega) (by decide), obs, (hR.2.2.1 c hc).1 0 (by decide), n_succ]
    by_cases e : aI (wA w c) 0 = v
    · rw [if_pos e, if_pos (by simp [e])]
      exact w_child_loop hR hI m n (c + 1) _ (by omega) (by omega)
    · rw [if_neg e, if_neg (by simp [e])]
      exact w_child_loop hR hI m n (c + 1) _ (by omega) (by omega)
theorem w_childBits_ok {S : Mem} {W : Nat} {w : Wst} {v : Int32} (hR : RW S W w) (hI : Inv w) : fw_childBits W v S = some (sBits (fun b => decide (aI (wA w b) 0 = v)) (wN w) 0 0) := by
  have h12 := hI.1
  exact w_child_loop hR hI (wN w) LF 0 0 (Nat.zero_add _) (by show _ < 3000; omega)
section
variable {en : Int32}
theorem m_live_loop {S : Mem} {f : Nat → Int32} {w : Wst} (hR : RM en f w) (hI : Inv w) : ∀ (m n c : Nat) (q : Int32), c + m = wN w → m < n → fm_liveOnes_4 n q (Int32.ofNat c) (gM S f) = some (sBits (sLive w) m c q)
  | _, 0, _, _, _, h => absurd h (Nat.not_lt_zero _)
  | 0, n + 1, c, q, h, _ => by
    have h12 := hI.1
    show fm_liveOnes_4b (fm_liveOnes_4 n) q (Int32.ofNat c) (gM S f) = _
    unfold fm_liveOnes_4b
    rw [g_924, obs, hR.1, if_pos ((n_le (by omega) (by omega)).mpr (by omega))]
    rfl
  | m + 1, n + 1, c, q, h, hn => by
    have h12 := hI.1
    have hc : c < wN w := by omega
    show fm_liveOnes_4b (fm_liveOnes_4 n) q (Int32.ofNat c) (gM S f) = sBits (sLive w) m (c + 1) (if sLive w c = true then q ||| (1 <<< (Int32.ofNat c &&& 31)) else q ||| 0)
    unfold fm_liveOnes_4b
    rw [g_924, obs, hR.1, if_neg (fun q => by rw [n_le (by omega) (by omega)] at q; omega), m_isLive_ok hR hI hc, obs, n_succ]
    by_cases e : sLive w c = true
    · rw [if_pos e, if_neg n10, if_pos e]
      exact m_live_loop hR hI m n (c + 1) _ (by omega) (by omega)
    · rw [if_neg e, if_pos rfl, if_neg e]
      exact m_live_loop hR hI m n (c + 1) _ (by omega) (by omega)
theorem m_liveOnes_ok {S : Mem} {f : Nat → Int32} {w : Wst} (hR : RM en f w) (hI : Inv w) : fm_liveOnes (gM S f) = some (sBits (sLive w) (wN w) 0 0) := by
  have h12 := hI.1
  exact m_live_loop hR hI (wN w) LF 0 0 (Nat.zero_add _) (by show _ < 3000; omega)
theorem m_child_loop {S : Mem} {f : Nat → Int32} {w : Wst} {v : Int32} (hR : RM en f w) (hI : Inv w) : ∀ (m n c : Nat) (q : Int32), c + m = wN w → m < n → fm_childrenOf_4 n v q (Int32.ofNat c) (gM S f) = some (sBits (fun b => decide (aI (wA w b) 0 = v)) m c q)
  | _, 0, _, _, _, h => absurd h (Nat.not_lt_zero _)
  | 0, n + 1, c, q, h, _ => by
    have h12 := hI.1
    show fm_childrenOf_4b (fm_childrenOf_4 n) v q (Int32.ofNat c) (gM S f) = _
    unfold fm_childrenOf_4b
    rw [g_924, obs, hR.1, if_pos ((n_le (by omega) (by omega)).mpr (by omega))]
    rfl
  | m + 1, n + 1, c, q, h, hn => by
    have h12 := hI.1
    have hc : c < wN w := by omega
    show fm_childrenOf_4b (fm_childrenOf_4 n) v q (Int32.ofNat c) (gM S f) = sBits (fun b => decide (aI (wA w b) 0 = v)) m (c + 1) (if decide (aI (wA w c) 0 = v) = true then q ||| (1 <<< (Int32.ofNat c &&& 31)) else q ||| 0)
    unfold fm_childrenOf_4b
    rw [g_924, obs, hR.1, if_neg (fun q => by rw [n_le (by omega) (by omega)] at q; omega), at_0 (by omega), obs, (hR.2.2.1 c hc).1.1, n_succ]
    by_cases e : aI (wA w c) 0 = v
    · rw [if_pos e, if_pos (by simp [e])]
      exact m_child_loop hR hI m n (c + 1) _ (by omega) (by omega)
    · rw [if_neg e, if_neg (by simp [e])]
      exact m_child_loop hR hI m n (c + 1) _ (by omega) (by omega)
theorem m_childrenOf_ok {S : Mem} {f : Nat → Int32} {w : Wst} {v : Int32} (hR : RM en f w) (hI : Inv w) : fm_childrenOf v (gM S f) = some (sBits (fun b => decide (aI (wA w b) 0 = v)) (wN w) 0 0) := by
  have h12 := hI.1
  exact m_child_loop hR hI (wN w) LF 0 0 (Nat.zero_add _) (by show _ < 3000; omega)
end
/-! how many -/
theorem bits_S (S S1 : Mem) : ∀ (n : Nat) (a b : Int32), fm_bits_4 n a b S = fm_bits_4 n a b S1
  | 0, _, _ => rfl
  | n + 1, a, b => by
    show fm_bits_4b (fm_bits_4 n) a b S = fm_bits_4b (fm_bits_4 n) a b S1
    unfold fm_bits_4b
    rw [bits_S S S1 n]
def M0 : Mem := fun _ _ => 0
theorem bits_M (v : Int32) (S : Mem) : fm_bits v S = fm_bits v M0 := bits_S _ _ _ _ _
theorem count_M (v : Int32) (S : Mem) : fj_bitCount v S = fj_bitCount v M0 := rfl
set_option maxRecDepth 100000 in
theorem bits_count : ∀ m, m < 4096 → fm_bits (Int32.ofNat m) M0 = fj_bitCount (Int32.ofNat m) M0 := by decide +kernel
