/-! 29: the class goes down and up instead -/
def lvc (w : Wst) : Nat := ((List.range 12).filter fun b => sLive w b).length
theorem lvc_le (w : Wst) : lvc w ≤ 12 := by
  have := List.length_filter_le (fun b => sLive w b) (List.range 12)
  rw [List.length_range] at this
  exact this
theorem filt_le {p q : Nat → Bool} (h : ∀ b, q b = true → p b = true) : ∀ l : List Nat, (l.filter q).length ≤ (l.filter p).length
  | [] => Nat.le_refl _
  | b :: l => by
    have := filt_le h l
    by_cases e : q b = true
    · rw [List.filter_cons_of_pos e, List.filter_cons_of_pos (h b e), List.length_cons, List.length_cons]
      omega
    · rw [List.filter_cons_of_neg e]
      by_cases e2 : p b = true
      · rw [List.filter_cons_of_pos e2, List.length_cons]
        omega
      · rw [List.filter_cons_of_neg e2]
        exact this
theorem lvc_less {w w1 : Wst} (h : Less w w1) : lvc w1 ≤ lvc w := filt_le h.2.2 _
theorem filt_one {p q : Nat → Bool} {a : Nat} (h : ∀ b, q b = (p b && !(b == a))) : ∀ l : List Nat, l.Nodup → (a ∈ l → p a = true → (l.filter q).length + 1 = (l.filter p).length) ∧ (a ∉ l → (l.filter q).length = (l.filter p).length)
  | [], _ => ⟨fun h => (by cases h), fun _ => rfl⟩
  | b :: l, hd => by
    have hd2 := List.nodup_cons.mp hd
    have ih := filt_one h l hd2.2
    by_cases e : b = a
    · subst e
      refine ⟨fun _ hp => ?_, fun hn => absurd List.mem_cons_self hn⟩
      rw [List.filter_cons_of_pos hp, List.filter_cons_of_neg (by rw [h b]; simp), List.length_cons, ih.2 hd2.1]
    · have hq : q b = p b := by
        rw [h b]
        simp [e]
      by_cases g : p b = true
      · rw [List.filter_cons_of_pos g, List.filter_cons_of_pos (by rw [hq]; exact g), List.length_cons, List.length_cons]
        refine ⟨fun hm hp => ?_, fun hn => ?_⟩
        · rcases List.mem_cons.mp hm with hm | hm
          · exact absurd hm.symm e
          · rw [← ih.1 hm hp]
        · rw [ih.2 fun hm => hn (List.mem_cons_of_mem _ hm)]
      · rw [List.filter_cons_of_neg g, List.filter_cons_of_neg (by rw [hq]; exact g)]
        refine ⟨fun hm hp => ?_, fun hn => ?_⟩
        · rcases List.mem_cons.mp hm with hm | hm
          · exact absurd hm.symm e
          · exact ih.1 hm hp
        · exact ih.2 fun hm => hn (List.mem_cons_of_mem _ hm)
theorem lvc_s1 {w : Wst} {a : Nat} (h : sLive w a = true) (h12 : wN w ≤ 12) : lvc (sStop1 w a) + 1 = lvc w := by
  have ha := (sLive_lt h).1
  exact (filt_one (p := fun b => sLive w b) (q := fun b => sLive (sStop1 w a) b) (s1_live w a) _ List.nodup_range).1 (List.mem_range.mpr (by omega)) h
/-- the greatest live child below c -/
def gK (w : Wst) (a : Nat) : Nat → Option Nat
  | 0 => none
  | c + 1 => if a < c ∧ sLC w c a = true then some c else gK w a c
theorem gK_low {w : Wst} {a : Nat} : ∀ c, c ≤ a + 1 → gK w a c = none
  | 0, _ => rfl
  | c + 1, h => by
    show (if a < c ∧ sLC w c a = true then some c else gK w a c) = none
    rw [if_neg (fun q => by omega)]
    exact gK_low c (by omega)
theorem gK_some {w : Wst} {a d : Nat} : ∀ c, gK w a c = some d → a < d ∧ d < c ∧ sLC w d a = true ∧ ∀ e, d < e → e < c → sLC w e a = false
  | 0, h => by cases h
  | c + 1, h => by
    have h2 : (if a < c ∧ sLC w c a = true then some c else gK w a c) = some d := h
    by_cases e : a < c ∧ sLC w c a = true
    · rw [if_pos e] at h2
      cases h2
      exact ⟨e.1, by omega, e.2, fun k h1 h2 => by omega⟩
    · rw [if_neg e] at h2
      obtain ⟨p1, p2, p3, p4⟩ := gK_some c h2
      refine ⟨p1, by omega, p3, fun k h1 h3 => ?_⟩
      by_cases g : k = c
      · subst g
        cases e3 : sLC w k a with
        | false => rfl
        | true => exact absurd ⟨by omega, e3⟩ e
      · exact p4 k h1 (by omega)
theorem gK_none {w : Wst} {a : Nat} : ∀ c, gK w a c = none → ∀ d, a < d → d < c → sLC w d a = false
  | 0, _, d, _, h => absurd h (Nat.not_lt_zero _)
  | c + 1, h, d, h1, h2 => by
    have h3 : (if a < c ∧ sLC w c a = true then some c else gK w a c) = none := h
    by_cases e : a < c ∧ sLC w c a = true
    · rw [if_pos e] at h3
      cases h3
    · rw [if_neg e] at h3
      by_cases g : d = c
      · subst g
        cases e3 : sLC w d a with
        | false => rfl
        | true => exact absurd ⟨h1, e3⟩ e
      · exact gK_none c h3 d h1 (by omega)
theorem kids_none {f : Wst → Nat → Wst} {w : Wst} {a : Nat} : ∀ c, gK w a c = none → sKids f a c w = w
  | 0, _ => rfl
  | c + 1, h => by
    have h3 : (if a < c ∧ sLC w c a = true then some c else gK w a c) = none := h
    show sKids f a c (if a < c ∧ sLC w c a = true then f w c else w) = w
    by_cases e : a < c ∧ sLC w c a = true
    · rw [if_pos e] at h3
      cases h3
    · rw [if_neg e] at h3 ⊢
      exact kids_none c h3
theorem kids_some {f : Wst → Nat → Wst} {w : Wst} {a d : Nat} : ∀ c, gK w a c = some d → sKids f a c w = sKids f a d (f w d)
  | 0, h => by cases h
  | c + 1, h => by
    have h3 : (if a < c ∧ sLC w c a = true then some c else gK w a c) = some d := h
    show sKids f a c (if a < c ∧ sLC w c a = true then f w c else w) = _
    by_cases e : a < c ∧ sLC w c a = true
    · rw [if_pos e] at h3 ⊢
      cases h3
      rfl
    · rw [if_neg e] at h3 ⊢
      exact kids_some c h3
/-- none from c on: looked for from the top or from c is the same -/
theorem gK_top {w : Wst} {a c : Nat} (h : ∀ d, c ≤ d → d < wN w → sLC w d a = false) : ∀ m, c + m ≤ wN w → gK w a (c + m) = gK w a c
  | 0, _ => rfl
  | m + 1, hm => by
    show (if a < c + m ∧ sLC w (c + m) a = true then some (c + m) else gK w a (c + m)) = _
    rw [if_neg (fun q => by rw [h (c + m) (by omega) (by omega)] at q; exact absurd q.2 (by decide))]
    exact gK_top h m (by omega)
theorem w_glc_loop {S : Mem} {W a : Nat} {w : Wst} (hR : RW S W w) (hI : Inv w) (ha : a < 12) : ∀ (c n : Nat), c ≤ wN w → c < n → fw_greatestLiveChild_7 n W (Int32.ofNat a) (Int32.ofNat c - 1) S = some (match gK w a c with | some d => Int32.ofNat d | none => -1)
  | _, 0, _, h => absurd h (Nat.not_lt_zero _)
  | 0, n + 1, _, _ => by
    show fw_greatestLiveChild_7b (fw_greatestLiveChild_7 n) W (Int32.ofNat a) (Int32.ofNat 0 - 1) S = _
    unfold fw_greatestLiveChild_7b
    rw [if_pos]
    · rfl
    · rw [Int32.le_iff_toInt_le, n_int (by omega)]
      have : (Int32.ofNat 0 - 1 : Int32).toInt = -1 := by decide
      omega
  | c + 1, n + 1, hc, hn => by
    have h12 := hI.1
    have e0 : Int32.ofNat (c + 1) - 1 = Int32.ofNat c := by rw [← n_succ, Int32.add_sub_cancel]
    have e1 : Int32.ofNat c + (-1) = Int32.ofNat c - 1 := (Int32.sub_eq_add_neg _ _).symm
    show fw_greatestLiveChild_7b (fw_greatestLiveChild_7 n) W (Int32.ofNat a) (Int32.ofNat (c + 1) - 1) S = _
    unfold fw_greatestLiveChild_7b
    rw [e0]
    by_cases g : c ≤ a
    · rw [if_pos ((n_le (by omega) (by omega)).mpr g), gK_low (c + 1) (by omega)]
    · rw [if_neg (fun q => g ((n_le (by omega) (by omega)).mp q)), w_isLC_ok hR h12 (by omega) (hI.2.1 c (by omega)).2.2.2.2.2.1, obs, e1]
      have hg : gK w a (c + 1) = if a < c ∧ sLC w c a = true then some c else gK w a c := rfl
      by_cases e : sLC w c a = true
      · rw [if_pos e, if_neg (by decide), hg, if_pos ⟨by omega, e⟩]
      · rw [if_neg e, if_pos rfl, hg, if_neg (fun q => e q.2)]
        exact w_glc_loop hR hI ha c n (by omega) (by omega)
theorem w_glc_ok {S : Mem} {W a : Nat} {w : Wst} (hR : RW S W w) (hI : Inv w) (ha : a < 12) : fw_greatestLiveChild W (Int32.ofNat a) S = some (match gK w a (wN w) with | some d => Int32.ofNat d | none => -1) := by
  have h12 := hI.1
  unfold fw_greatestLiveChild
  rw [hR.1]
  exact w_glc_loop hR hI ha (wN w) LF (Nat.le_refl _) (by show wN w < 3000; omega)
theorem neg1_ne {a : Nat} (h : a < 2 ^ 31) : ¬ Int32.ofNat a = -1 := fun e => by
  have := congrArg Int32.toInt e
  rw [n_int h] at this
  have e1 : (-1 : Int32).toInt = -1 := by decide
  omega
/-- what the way down and up from a, and back, comes to -/
def HaltOK (n a : Nat) : Prop := ∀ (W : Nat) (v1 : Int32) (w : Wst) (S : Mem) (st r f : Nat), v1 = Int32.ofNat a ∨ (∃ p, p < a ∧ v1 = Int32.ofNat p) → IsW W → RW S W w → Inv w → Tree w → sLive w a = true → r + 2 * (lvc w - lvc (sStop n w a)) ≤ 25 → 30 ≤ f + r → ∃ (S1 : Mem) (f1 : Nat), fw_halt_7 f W v1 (Int32.ofNat st) (Int32.ofNat a) (Int32.ofNat r) S = fw_halt_7 f1 W v1 (Int32.ofNat (st + (lvc w - lvc (sStop n w a)))) (if Int32.ofNat a = v1 then -1 else aI (wA w a) 0) (Int32.ofNat (r + (2 * (lvc w - lvc (sStop n w a)) - 1))) S1 ∧ f1 + (2 * (lvc w - lvc (sStop n w a)) - 1) = f ∧ 1 ≤ lvc w - lvc (sStop n w a) ∧ RW S1 W (sStop n w a) ∧ OW W S S1
theorem halt_kids {n a : Nat} (hn : 12 ≤ n + (a + 1)) (ih : ∀ d, a < d → HaltOK n d) : ∀ (c : Nat) (W : Nat) (v1 : Int32) (w : Wst) (S : Mem) (st r f : Nat), v1 = Int32.ofNat a ∨ (∃ p, p < a ∧ v1 = Int32.ofNat p) → IsW W → RW S W w → Inv w → Tree w → sLive w a = true → c ≤ wN w → (∀ d, c ≤ d → d < wN w → sLC w d a = false) → r + 2 * (lvc w - lvc (sStop1 (sKids (sStop n) a c w) a)) ≤ 25 → 30 ≤ f + r → ∃ (S1 : Mem) (f1 : Nat), fw_halt_7 f W v1 (Int32.ofNat st) (Int32.ofNat a) (Int32.ofNat r) S = fw_halt_7 f1 W v1 (Int32.ofNat (st + (lvc w - lvc (sStop1 (sKids (sStop n) a c w) a)))) (if Int32.ofNat a = v1 then -1 else aI (wA w a) 0) (Int32.ofNat (r + (2 * (lvc w - lvc (sStop1 (sKids (sStop n) a c w) a)) - 1))) S1 ∧ f1 + (2 * (lvc w - lvc (sStop1 (sKids (sStop n) a c w) a)) - 1) = f ∧ 1 ≤ lvc w - lvc (sStop1 (sKids (sStop n) a c w) a) ∧ RW S1 W (sStop1 (sKids (sStop n) a c w) a) ∧ OW W S S1 := by
  intro c
  induction c using Nat.strongRecOn with
  | _ c hc =>
    intro W v1 w S st r f hv hW hR hI hT hl hcn hno hr hf
    have h12 := hI.1
    have ha := (sLive_lt hl).1
    have hsok := stop_ok n (a + 1) hn
    obtain ⟨q1, q2, q3, q4, q5⟩ := kids_ok hsok c w hcn hI hT
    have hla : sLive (sKids (sStop n) a c w) a = true := by rw [q4 a (Nat.le_refl _)]; exact hl
    have hcount := lvc_s1 hla (by rw [q3.1]; exact h12)
    have hle := lvc_less q3
    generalize hF : sStop1 (sKids (sStop n) a c w) a = F at *
    obtain ⟨f, rfl⟩ : ∃ f', f = f' + 1 := ⟨f - 1, by omega⟩
    have htop : gK w a (wN w) = gK w a c := by
      have := gK_top hno (wN w - c) (by omega)
      rw [show c + (wN w - c) = wN w by omega] at this
      exact this
    have hstep : fw_halt_7 (f + 1) W v1 (Int32.ofNat st) (Int32.ofNat a) (Int32.ofNat r) S = fw_halt_7b (fw_halt_7 f) W v1 (Int32.ofNat st) (Int32.ofNat a) (Int32.ofNat r) S := rfl
    have hr24 : ¬ (24 : Int32) ≤ Int32.ofNat r := fun q => by
      rw [show (24 : Int32) = Int32.ofNat 24 from rfl, n_le (by decide) (by omega)] at q
      omega
    have hlive : fw_isLive W (Int32.ofNat a) S = some 1 := by
      rw [w_isLive_ok hR h12 ha (hI.2.1 a ha).2.2.2.2.2.1, if_pos hl]
    cases hg : gK w a c with
    | none =>
      rw [kids_none c hg] at hF hcount
      obtain ⟨S1, g1, g2, g3⟩ := w_stop1_ok (fw_halt_7 f) v1 (Int32.ofNat st) (Int32.ofNat r) hW hR hI ha
      rw [hF] at g2
      have hk : lvc w - lvc F = 1 := by omega
      refine ⟨S1, f, ?_, by omega, by omega, g2, g3⟩
      rw [hstep]
      unfold fw_halt_7b
      rw [if_neg hr24, hlive, obs, if_neg (by decide), w_glc_ok hR hI (by omega), htop, hg, obs, if_pos rfl, g1, hk, n_succ, n_succ]
      split <;> rfl
    | some d =>
      obtain ⟨d1, d2, d3, d4⟩ := gK_some c hg
      rw [kids_some c hg] at hF hcount hla
      obtain ⟨p1, p2, p3, p4, p5⟩ := hsok w d (by omega) (by omega) hI hT (sLC_of d3).1
      have hcd := (kids_ok hsok d (sStop n w d) (by rw [p3.1]; omega) p1 p2).2.2.1
      have hle2 := lvc_less hcd
      have hle3 := lvc_less p3
      have hF2 : lvc F + 1 ≤ lvc (sStop n w d) := by omega
      obtain ⟨S1, f1, g1, g2, g3, g4, g5⟩ := ih d d1 W v1 w S st (r + 1) f (Or.inr (hv.elim (fun e => ⟨a, d1, e⟩) fun ⟨p, hp, e⟩ => ⟨p, by omega, e⟩)) hW hR hI hT (sLC_of d3).1 (by omega) (by omega)
      have hvd : ¬ Int32.ofNat d = v1 := fun e => by
        rcases hv with hv | ⟨p, hp, hv⟩
        · rw [hv, n_inj (by omega) (by omega)] at e
          omega
        · rw [hv, n_inj (by omega) (by omega)] at e
          omega
      rw [if_neg hvd, (sLC_of d3).2] at g1
      have hpar : aI (wA (sStop n w d) a) 0 = aI (wA w a) 0 := p3.2.1 a 0 (by decide)
      obtain ⟨S2, f2, k1, k2, k3, k4, k5⟩ := hc d d2 W v1 (sStop n w d) S1 (st + (lvc w - lvc (sStop n w d))) (r + 1 + (2 * (lvc w - lvc (sStop n w d)) - 1)) f1 hv hW g4 p1 p2 (by rw [p4 a d1]; exact hl) (by rw [p3.1]; omega) (fun e e1 e2 => by
        rw [p3.1] at e2
        by_cases e3 : e = d
        · subst e3
          unfold sLC
          rw [p5]
          rfl
        · by_cases e4 : e < c
          · exact p3.lc (d4 e (by omega) e4)
          · exact p3.lc (hno e (by omega) e2)) (by rw [hF]; omega) (by omega)
      rw [hF] at k1 k2 k3 k4
      refine ⟨S2, f2, ?_, by omega, by omega, k4, g5.trans k5⟩
      rw [hstep]
      unfold fw_halt_7b
      rw [if_neg hr24, hlive, obs, if_neg (by decide), w_glc_ok hR hI (by omega), htop, hg, obs, if_neg (neg1_ne (by omega)), n_succ, g1, k1, hpar]
      have e1 : st + (lvc w - lvc (sStop n w d)) + (lvc (sStop n w d) - lvc F) = st + (lvc w - lvc F) := by omega
      have e2 : r + 1 + (2 * (lvc w - lvc (sStop n w d)) - 1) + (2 * (lvc (sStop n w d) - lvc F) - 1) = r + (2 * (lvc w - lvc F) - 1) := by omega
      rw [e1, e2]
theorem halt_ok : ∀ (n a : Nat), 12 ≤ n + a → HaltOK n a
  | 0, a, h => fun W v1 w S st r f _ _ _ hI _ hl _ _ => by
    have := hI.1
    have := (sLive_lt hl).1
    omega
  | n + 1, a, h => fun W v1 w S st r f hv hW hR hI hT hl hr hf =>
    halt_kids (by omega) (fun d hd => halt_ok n d (by omega)) (wN w) W v1 w S st r f hv hW hR hI hT hl (Nat.le_refl _) (fun d h1 h2 => by omega) hr hf
theorem w_halt_ok {S : Mem} {W a : Nat} {w : Wst} (hW : IsW W) (hR : RW S W w) (hI : Inv w) (hT : Tree w) (hl : sLive w a = true) : ∃ S1, fw_halt W (Int32.ofNat a) S = some (Int32.ofNat (lvc w - lvc (sStop 12 w a)), S1) ∧ RW S1 W (sStop 12 w a) ∧ OW W S S1 := by
  have h12 := lvc_le w
  obtain ⟨S1, f1, g1, g2, g3, g4, g5⟩ := halt_ok 12 a (by omega) W (Int32.ofNat a) w S 0 0 LF (Or.inl rfl) hW hR hI hT hl (by omega) (by show 30 ≤ 3000 + 0; omega)
  refine ⟨S1, ?_, g4, g5⟩
  unfold fw_halt
  rw [show (0 : Int32) = Int32.ofNat 0 from rfl, g1, if_pos rfl]
  have hf : 1 ≤ f1 := by
    have : f1 + (2 * (lvc w - lvc (sStop 12 w a)) - 1) = 3000 := g2
    omega
  obtain ⟨f, rfl⟩ : ∃ f', f1 = f' + 1 := ⟨f1 - 1, by omega⟩
  show fw_halt_7b (fw_halt_7 f) W _ _ _ _ S1 = _
  unfold fw_halt_7b
  rw [w_isLive_no g4 (Or.inl (by decide)), obs, if_pos rfl, Nat.zero_add]
  split <;> rw [Nat.zero_add]
