/-! 47: class and reference side by side -/
abbrev Hd : Type := Int32 × Int32 × List Int32
def CK (S : Mem) (ik : Option Wst) : Prop := match ik with
  | none => S 0 6 = 0
  | some k => S 0 6 = 1 ∧ RW S 337 k
def CHd (S : Mem) (hd : Nat → Hd) : Prop := ∀ h, h < 6 → S (679 + 3 * h) 1 = (hd h).1 ∧ ((hd h).1 = 1 → S (679 + 3 * h) 2 = (hd h).2.1) ∧ ((hd h).1 = 2 → RN S (679 + 3 * h + 1) (hd h).2.2)
def MK (S : Mem) (ik : Option Wst) : Prop := match ik with
  | none => S 697 4 = 0
  | some k => S 697 4 = 1 ∧ RM (wI k 10) (S 701) k
def MTp (S : Mem) (bl : List Int32) : Prop := S 697 11 = Int32.ofNat bl.length ∧ ∀ i, i < bl.length → bl[i]? = some (S 703 i)
def MHd (S : Mem) (hd : Nat → Hd) : Prop := ∀ h, h < 6 → S 704 h = (hd h).1 ∧ ((hd h).1 = 1 → S 705 h = (hd h).2.1) ∧ ((hd h).1 = 2 → S 706 h = Int32.ofNat (hd h).2.2.length ∧ ∀ i, i < (hd h).2.2.length → (hd h).2.2[i]? = some (S (708 + h) i))
def okH (w : Wst) (x : Hd) : Prop := (x.1 = 0 ∨ x.1 = 1 ∨ x.1 = 2) ∧ (x.1 = 1 → okN (wN w) x.2.1) ∧ (x.1 = 2 → x.2.2.length ≤ 60)
def SG (w : Wst) (ik : Option Wst) (bl : List Int32) (hd : Nat → Hd) : Prop := Good w ∧ (∀ k, ik = some k → Good k) ∧ bl.length ≤ 120 ∧ (∀ q ∈ bl, okN 256 q) ∧ ∀ h, h < 6 → okH w (hd h)
def CR (S : Mem) (w : Wst) (ik : Option Wst) (bl : List Int32) (hd : Nat → Hd) : Prop := RW S 1 w ∧ CK S ik ∧ RN S 674 bl ∧ CHd S hd
def MR (S : Mem) (w : Wst) (ik : Option Wst) (bl : List Int32) (hd : Nat → Hd) : Prop := RM (wI w 10) (S 698) w ∧ MK S ik ∧ MTp S bl ∧ MHd S hd
def REL (S : Mem) (w : Wst) (ik : Option Wst) (bl : List Int32) (hd : Nat → Hd) : Prop := CR S w ik bl hd ∧ MR S w ik bl hd ∧ SG w ik bl hd
theorem CK.congr {S S1 : Mem} {ik : Option Wst} (h : CK S ik) (hg : ∀ k, ik = some k → Good k) (h0 : S1 0 = S 0) (hc : ∀ b, inW 337 b → S1 b = S b) : CK S1 ik := by
  cases ik with
  | none =>
    show S1 0 6 = 0
    rw [h0]
    exact h
  | some k => exact ⟨by rw [h0]; exact h.1, h.2.congr (hg k rfl).1.1 hc⟩
theorem CHd.congr {S S1 : Mem} {hd : Nat → Hd} (h : CHd S hd) (hc : ∀ b, 679 ≤ b → b < 697 → S1 b = S b) : CHd S1 hd := fun j hj => by
  rw [hc _ (by omega) (by omega)]
  exact ⟨(h j hj).1, (h j hj).2.1, fun q => ((h j hj).2.2 q).congr (hc _ (by omega) (by omega)) (hc _ (by omega) (by omega))⟩
theorem CR.congr {S S1 : Mem} {w : Wst} {ik : Option Wst} {bl : List Int32} {hd : Nat → Hd} (h : CR S w ik bl hd) (hs : SG w ik bl hd) (hc : ∀ b, b < 697 → S1 b = S b) : CR S1 w ik bl hd :=
  ⟨h.1.congr hs.1.1.1 fun b q => hc b (by have := q.2; omega), h.2.1.congr hs.2.1 (hc 0 (by decide)) fun b q => hc b (by have := q.2; omega), h.2.2.1.congr (hc _ (by decide)) (hc _ (by decide)), h.2.2.2.congr fun b _ q => hc b q⟩
/-- cells of the class that a world's work leaves as they are -/
def fr (S S1 : Mem) : Prop := ∀ b, (b = 0 ∨ inW 337 b ∨ 673 ≤ b) → S1 b = S b
theorem fr.refl (S : Mem) : fr S S := fun _ _ => rfl
theorem fr.trans {S S1 S2 : Mem} (h : fr S S1) (k : fr S1 S2) : fr S S2 := fun b q => (k b q).trans (h b q)
theorem fr.of {S S1 : Mem} {W : Nat} (hW : W = 1 ∨ W = 169 ∨ W = 505) (h : Only (inW W) S S1) : fr S S1 := fun b q => h b fun p => by
  have p1 := p.1
  have p2 := p.2
  rcases q with q | q | q
  · rcases hW with rfl | rfl | rfl <;> omega
  · have q1 := q.1
    have q2 := q.2
    rcases hW with rfl | rfl | rfl <;> omega
  · rcases hW with rfl | rfl | rfl <;> omega
/-- cells of the reference that a step leaves as they are, and those of the class -/
def mf (S S1 : Mem) : Prop := S1 697 4 = S 697 4 ∧ S1 697 11 = S 697 11 ∧ ∀ b, (b < 697 ∨ b = 701 ∨ (703 ≤ b ∧ b ≤ 706) ∨ (708 ≤ b ∧ b < 714)) → S1 b = S b
theorem mf.refl (S : Mem) : mf S S := ⟨rfl, rfl, fun _ _ => rfl⟩
theorem mf.trans {S S1 S2 : Mem} (h : mf S S1) (k : mf S1 S2) : mf S S2 := ⟨k.1.trans h.1, k.2.1.trans h.2.1, fun b q => (k.2.2 b q).trans (h.2.2 b q)⟩
theorem OE.mf {S S1 : Mem} {f g : Nat → Int32} (h : OE S S1) : mf (gM S f) (gM S1 g) := by
  refine ⟨?_, ?_, fun b q => ?_⟩
  · rw [gM_off (by decide), gM_off (by decide)]
    exact h.2 4 (by decide) (by decide) (by decide) (by decide) (by decide)
  · rw [gM_off (by decide), gM_off (by decide)]
    exact h.2 11 (by decide) (by decide) (by decide) (by decide) (by decide)
  · rw [gM_off (by omega), gM_off (by omega)]
    exact h.1 b (by omega) (by omega)
theorem mf_gM {S : Mem} {f g : Nat → Int32} : mf (gM S f) (gM S g) := (OE.refl S).mf
theorem mf_of {S : Mem} {g : Nat → Int32} : mf S (gM S g) := by
  have h := mf_gM (S := S) (f := S 698) (g := g)
  rw [gM_eta] at h
  exact h
theorem MK.congr {S S1 : Mem} {ik : Option Wst} (h : MK S ik) (h0 : S1 697 4 = S 697 4) (h1 : S1 701 = S 701) : MK S1 ik := by
  cases ik with
  | none =>
    show S1 697 4 = 0
    rw [h0]
    exact h
  | some k => exact ⟨by rw [h0]; exact h.1, by rw [h1]; exact h.2⟩
theorem MTp.congr {S S1 : Mem} {bl : List Int32} (h : MTp S bl) (h0 : S1 697 11 = S 697 11) (h1 : S1 703 = S 703) : MTp S1 bl := ⟨by rw [h0]; exact h.1, fun i hi => by rw [h1]; exact h.2 i hi⟩
theorem MHd.congr {S S1 : Mem} {hd : Nat → Hd} (h : MHd S hd) (h1 : S1 704 = S 704) (h2 : S1 705 = S 705) (h3 : S1 706 = S 706) (h4 : ∀ b, 708 ≤ b → b < 714 → S1 b = S b) : MHd S1 hd := fun j hj => by
  rw [h1, h2, h3, h4 _ (by omega) (by omega)]
  exact h j hj
/-- the world goes on, the rest stays -/
theorem REL.world {S S1 S2 : Mem} {w w' : Wst} {ik : Option Wst} {bl : List Int32} {hd : Nat → Hd} (h : REL S w ik bl hd) (h1 : RW S1 1 w') (hf : fr S S1) (hm : mf S1 S2) (h2 : RM (wI w' 10) (S2 698) w') (hg : Good w') (hn : wN w ≤ wN w') : REL S2 w' ik bl hd := by
  obtain ⟨⟨c1, c2, c3, c4⟩, ⟨m1, m2, m3, m4⟩, g1, g2, g3, g4, g5⟩ := h
  have hS : ∀ b, b < 697 → (b = 0 ∨ inW 337 b ∨ 673 ≤ b) → S2 b = S b := fun b q1 q2 => (hm.2.2 b (Or.inl q1)).trans (hf b q2)
  have hM : ∀ b, (b = 701 ∨ (703 ≤ b ∧ b ≤ 706) ∨ (708 ≤ b ∧ b < 714)) → S2 b = S b := fun b q => (hm.2.2 b (Or.inr q)).trans (hf b (by omega))
  have h697 : S1 697 = S 697 := hf 697 (by omega)
  refine ⟨⟨h1.congr hg.1.1 fun b q => hm.2.2 b (Or.inl (by have := q.2; omega)), c2.congr g2 (hS 0 (by decide) (Or.inl rfl)) fun b q => hS b (by have := q.2; omega) (Or.inr (Or.inl q)), c3.congr (hS _ (by decide) (by omega)) (hS _ (by decide) (by omega)), c4.congr fun b q1 q2 => hS b q2 (by omega)⟩, ⟨h2, m2.congr (hm.1.trans (by rw [h697])) (hM _ (by omega)), m3.congr (hm.2.1.trans (by rw [h697])) (hM _ (by omega)), m4.congr (hM _ (by omega)) (hM _ (by omega)) (hM _ (by omega)) fun b q1 q2 => hM b (by omega)⟩, hg, g2, g3, g4, fun j hj => ⟨(g5 j hj).1, fun q => ((g5 j hj).2.1 q).mono hn, (g5 j hj).2.2⟩⟩
/-- nothing but work beside it -/
theorem REL.same {S S1 S2 : Mem} {w : Wst} {ik : Option Wst} {bl : List Int32} {hd : Nat → Hd} (h : REL S w ik bl hd) (hf : fr S S1) (h1 : ∀ b, inW 1 b → S1 b = S b) (hm : mf S1 S2) (h2 : RM (wI w 10) (S2 698) w) : REL S2 w ik bl hd := h.world (h.1.1.congr h.2.2.1.1.1 h1) hf hm h2 h.2.2.1 (Nat.le_refl _)
/-! cells taken -/
def tk (f g : Nat → Int32) : Nat → Int32 := fun j => if j < 1018 then f j else g j
def tkU (f g : Nat → Int32) (k : Nat) : Nat → Int32 := fun j => if j < k then f j else g j
theorem RM.congr {en : Int32} {f g : Nat → Int32} {w : Wst} (h : RM en f w) (hI : Inv w) (hg : ∀ j, j < 1018 → g j = f j) : RM en g w := by
  have h12 := hI.1
  obtain ⟨tl, t1, t2, t3, -⟩ := h.tl hI
  obtain ⟨h1, ⟨e1, e2, e3, e4, e5, e6⟩, h3, -, h5, h6⟩ := h
  exact ⟨(hg _ (by decide)).trans h1, ⟨(hg _ (by decide)).trans e1, (hg _ (by decide)).trans e2, (hg _ (by decide)).trans e3, (hg _ (by decide)).trans e4, (hg _ (by decide)).trans e5, (hg _ (by decide)).trans e6⟩, fun b hb => (h3 b hb).congr (hI.fit hb) fun k hk => hg _ (by omega), ⟨tl, t1.congr t3 fun k q1 q2 => hg k (by omega), t2⟩, h5.congr hI.2.2.2.1.1 fun k q1 q2 => hg k (by omega), h6.congr hI.2.2.2.2.1.1 fun k q1 q2 => hg k (by omega)⟩
theorem RM_tk {en : Int32} {f g : Nat → Int32} {w : Wst} (h : RM en f w) (hI : Inv w) : RM en (tk f g) w := h.congr hI fun j hj => if_pos hj
theorem ln_4 : ln 699 = 1018 ∧ ln 700 = 1018 ∧ ln 701 = 1018 := by decide +kernel
theorem take_loop {S : Mem} {a b : Nat} (hab : a ≠ b) (ha : ln a = 1018) (hb : ln b = 1018) : ∀ (m n k : Nat), k + m = 1018 → m < n → fm_take_2 n a b (Int32.ofNat k) (xup S b (tkU (S a) (S b) k)) = some (xup S b (tk (S a) (S b)))
  | _, 0, _, _, h => absurd h (Nat.not_lt_zero _)
  | 0, n + 1, k, h, _ => by
    have e : k = 1018 := by omega
    subst e
    show fm_take_2b (fm_take_2 n) a b (Int32.ofNat 1018) _ = _
    unfold fm_take_2b
    rw [if_pos (by decide)]
    rfl
  | m + 1, n + 1, k, h, hn => by
    show fm_take_2b (fm_take_2 n) a b (Int32.ofNat k) _ = _
    unfold fm_take_2b
    have e1 : xup S b (tkU (S a) (S b) k) a = S a := xup_ne hab
    have e2 : up2 (xup S b (tkU (S a) (S b) k)) b k (S a k) = xup S b (tkU (S a) (S b) (k + 1)) := by
      funext c
      unfold up2 xup
      by_cases q : c = b
      · rw [if_pos q, if_pos q, if_pos rfl]
        funext j
        unfold upd tkU
        by_cases q2 : j = k
        · rw [if_pos q2, if_pos (by omega), q2]
        · rw [if_neg q2]
          by_cases q3 : j < k
          · rw [if_pos q3, if_pos (by omega)]
          · rw [if_neg q3, if_neg (by omega)]
      · rw [if_neg q, if_neg q, if_neg q]
    rw [if_neg (fun q => by rw [show (1018 : Int32) = Int32.ofNat 1018 from rfl, n_le (by decide) (by omega)] at q; omega), ald_n (by rw [ha]; omega) (by rw [ha]; decide), obs, e1, ast_n (by rw [hb]; omega) (by rw [hb]; decide), obs, e2, n_succ]
    exact take_loop hab ha hb m n (k + 1) (by omega) (by omega)
theorem take_ok {S : Mem} {a b : Nat} (hab : a ≠ b) (ha : ln a = 1018) (hb : ln b = 1018) : fm_take a b S = some (xup S b (tk (S a) (S b))) := by
  have h := take_loop (S := S) hab ha hb 1018 LF 0 (Nat.zero_add _) (by decide)
  have e : xup S b (tkU (S a) (S b) 0) = S := by
    funext c
    unfold xup
    split
    · rename_i q
      rw [q]
      funext j
      exact if_neg (Nat.not_lt_zero _)
    · rfl
  rw [e] at h
  exact h
/-- the row put by -/
theorem save_ok (S : Mem) : fm_take 698 699 S = some (xup S 699 (tk (S 698) (S 699))) := take_ok (by decide) ln698 ln_4.1
/-- and back -/
theorem load_ok (S : Mem) (f : Nat → Int32) : fm_take 699 698 (gM S f) = some (gM S (tk (S 699) f)) := by
  rw [take_ok (by decide) ln_4.1 ln698, gM_off (by decide), gM_at]
  show some (gM (gM S f) _) = _
  rw [gM_mS]
theorem save_mf (S : Mem) (g : Nat → Int32) : mf S (xup S 699 g) := ⟨by rw [xup_ne (by decide)], by rw [xup_ne (by decide)], fun b q => xup_ne (by omega)⟩
