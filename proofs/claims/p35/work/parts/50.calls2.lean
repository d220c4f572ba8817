/-! 50: calls: sets, counts, handles, texts fed -/
def cnt (p : Nat → Bool) : Nat → Nat → Nat
  | 0, _ => 0
  | k + 1, c => (if p c = true then 1 else 0) + cnt p k (c + 1)
theorem and_n (a b : Nat) : Int32.ofNat a &&& Int32.ofNat b = Int32.ofNat (a &&& b) := by
  apply Int32.toBitVec_inj.1
  show BitVec.ofNat 32 a &&& BitVec.ofNat 32 b = BitVec.ofNat 32 (a &&& b)
  apply BitVec.eq_of_toNat_eq
  rw [BitVec.toNat_and, BitVec.toNat_ofNat, BitVec.toNat_ofNat, BitVec.toNat_ofNat, Nat.and_mod_two_pow]
theorem cnt_range (p : Nat → Bool) : ∀ (k c : Nat), ((List.range' c k).filter p).length = cnt p k c
  | 0, _ => rfl
  | k + 1, c => by
    rw [List.range'_succ]
    show ((c :: List.range' (c + 1) k).filter p).length = (if p c = true then 1 else 0) + cnt p k (c + 1)
    rw [← cnt_range p k (c + 1)]
    by_cases e : p c = true
    · rw [List.filter_cons_of_pos e, if_pos e, List.length_cons]
      omega
    · rw [List.filter_cons_of_neg e, if_neg e]
      omega
theorem cnt_off (p : Nat → Bool) : ∀ (k c : Nat), (∀ d, c ≤ d → p d = false) → cnt p k c = 0
  | 0, _, _ => rfl
  | k + 1, c, h => by
    show (if p c = true then 1 else 0) + cnt p k (c + 1) = 0
    rw [if_neg (by rw [h c (Nat.le_refl _)]; decide), cnt_off p k (c + 1) fun d hd => h d (by omega)]
theorem cnt_add (p : Nat → Bool) (k : Nat) : ∀ (j c : Nat), cnt p (j + k) c = cnt p j c + cnt p k (c + j)
  | 0, c => by
    rw [Nat.zero_add]
    show _ = 0 + cnt p k (c + 0)
    rw [Nat.zero_add]
    rfl
  | j + 1, c => by
    rw [show j + 1 + k = (j + k) + 1 by omega]
    show (if p c = true then 1 else 0) + cnt p (j + k) (c + 1) = ((if p c = true then 1 else 0) + cnt p j (c + 1)) + cnt p k (c + (j + 1))
    rw [cnt_add p k j (c + 1), show c + 1 + j = c + (j + 1) by omega]
    omega
theorem lvc_cnt {w : Wst} (h12 : wN w ≤ 12) : lvc w = cnt (sLive w) (wN w) 0 := by
  unfold lvc
  rw [List.range_eq_range', cnt_range]
  have e := cnt_add (sLive w) (12 - wN w) (wN w) 0
  rw [show wN w + (12 - wN w) = 12 by omega, Nat.zero_add, cnt_off (sLive w) _ (wN w) fun d hd => kill_big (by omega)] at e
  exact e
section
variable {S : Mem} {w : Wst} {ik : Option Wst} {bl : List Int32} {hd : Nat → Hd}
theorem stop_10 (n : Nat) (w : Wst) (a : Nat) : wI (sStop n w a) 10 = wI w 10 := stop_rel (P := fun w w1 => wI w1 10 = wI w 10) (fun _ => rfl) (fun h k => k.trans h) (fun w a => by
  show wI (sTell _ a _) 10 = wI w 10
  have h := kp10 (s1_pre w a)
  exact h) n w a
/-! counts -/
def sMail (w : Wst) : Nat → Nat → Int32 → Int32
  | 0, _, q => q
  | k + 1, c, q => sMail w k (c + 1) (q + Int32.ofNat (aMail (wA w c)).length)
theorem w_mailed_loop {w : Wst} (hR : RW S 1 w) (hI : Inv w) : ∀ (m n c : Nat) (q : Int32), c + m = wN w → m < n → fw_mailed_4 n 1 q (Int32.ofNat c) S = some (sMail w m c q)
  | _, 0, _, _, _, h => absurd h (Nat.not_lt_zero _)
  | 0, n + 1, c, q, h, _ => by
    have h12 := hI.1
    show fw_mailed_4b (fw_mailed_4 n) 1 q (Int32.ofNat c) S = _
    unfold fw_mailed_4b
    rw [hR.1, if_pos ((n_le (by omega) (by omega)).mpr (by omega))]
    rfl
  | m + 1, n + 1, c, q, h, hn => by
    have h12 := hI.1
    show fw_mailed_4b (fw_mailed_4 n) 1 q (Int32.ofNat c) S = sMail w m (c + 1) (q + Int32.ofNat (aMail (wA w c)).length)
    unfold fw_mailed_4b
    rw [hR.1, if_neg (fun q => by rw [n_le (by omega) (by omega)] at q; omega), if_neg (fun q => by rw [n12, n_le (by decide) (by omega)] at q; omega), ix_n (by omega) (by decide), obs, (hR.2.2.1 c (by omega)).2.2.1.1, n_succ]
    exact w_mailed_loop hR hI m n (c + 1) _ (by omega) (by omega)
/-! handles -/
/-! rows of ints -/
def zU (g : Nat → Int32) (k : Nat) : Nat → Int32 := fun i => if i < k then 0 else g i
theorem zU_step {g : Nat → Int32} {k : Nat} : upd (zU g k) k 0 = zU g (k + 1) := by
  funext i
  unfold upd zU
  by_cases e : i = k
  · rw [if_pos e, if_pos (by omega)]
  · rw [if_neg e]
    by_cases e2 : i < k
    · rw [if_pos e2, if_pos (by omega)]
    · rw [if_neg e2, if_neg (by omega)]
theorem xup_up2 {S : Mem} {a k : Nat} {g : Nat → Int32} {v : Int32} : up2 (xup S a g) a k v = xup S a (upd g k v) := by
  funext b
  unfold up2 xup
  by_cases e : b = a
  · rw [if_pos e, if_pos e, if_pos rfl]
  · rw [if_neg e, if_neg e, if_neg e]
theorem zU_0 {g : Nat → Int32} : zU g 0 = g := by
  funext i
  exact if_neg (Nat.not_lt_zero _)
theorem xup_id {S : Mem} {a : Nat} : xup S a (S a) = S := by
  funext b
  unfold xup
  split
  · rename_i q
    rw [q]
  · rfl
end
