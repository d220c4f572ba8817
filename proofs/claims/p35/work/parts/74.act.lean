/-! 74: the law's acts, one behind the other, and its end -/
theorem and_lowN (q : Int32) (n : Nat) : ∃ m, m ≤ n ∧ q &&& Int32.ofNat n = Int32.ofNat m := by
  have e : q = Int32.ofNat q.toBitVec.toNat := by
    apply Int32.toBitVec_inj.1
    show q.toBitVec = BitVec.ofNat 32 q.toBitVec.toNat
    rw [BitVec.ofNat_toNat, BitVec.setWidth_eq]
  refine ⟨q.toBitVec.toNat &&& n, Nat.and_le_right, ?_⟩
  rw [← and_n, ← e]
def AX (T : Nat) (q : Option Mem) : Prop := ∃ S1 w1 ik1, q = some S1 ∧ RX S1 w1 ik1 ∧ FA T w1 ∧ ∀ k, ik1 = some k → FA T k
theorem AX.ite {T : Nat} {c : Prop} [Decidable c] {A B : Option Mem} (h1 : c → AX T A) (h2 : ¬ c → AX T B) : AX T (if c then A else B) := by
  by_cases e : c
  · rw [if_pos e]
    exact h1 e
  · rw [if_neg e]
    exact h2 e
section
variable {S : Mem} {w : Wst} {ik : Option Wst} {T : Nat}
theorem ax_same (h : RX S w ik) (hF : FA T w) (hK : ∀ k, ik = some k → FA T k) : AX (T + 128) (some S) := ⟨S, w, ik, rfl, h, hF.mono (by omega), fun k hk => (hK k hk).mono (by omega)⟩
theorem ax_call (hF : FA T w) (hK : ∀ k, ik = some k → FA T k) {q : Option (Int32 × Mem)} (hq : ∃ r S1 w1, q = some (r, S1) ∧ RX S1 w1 ik ∧ ∀ T, FA T w → FA T w1) : AX (T + 128) (bd q fun _ S1 => some S1) := by
  obtain ⟨r, S1, w1, q1, q2, q3⟩ := hq
  rw [q1, bd_some]
  exact ⟨S1, w1, ik, rfl, q2, (q3 T hF).mono (by omega), fun k hk => (hK k hk).mono (by omega)⟩
theorem ax_116 (h : RX S w ik) (hF : FA T w) (hK : ∀ k, ik = some k → FA T k) (scr : Nat × (Nat → Int32)) (v4 s0 : Int32) : AX (T + 128) (fl_act_116 scr v4 s0 S) := by
  unfold fl_act_116
  exact ax_call hF hK (xc_actor h _ _ _)
theorem ax_actor (h : RX S w ik) (hF : FA T w) (hK : ∀ k, ik = some k → FA T k) (scr : Nat × (Nat → Int32)) (y : Int32) : AX (T + 128) ((fx_count 0 S).bind fun x2 => if x2 = 0 then (fl_act_116 scr y (-1) S) else ((fx_count 0 S).bind fun x3 => (nz x3).bind fun _ => fl_act_116 scr y (irm (y &&& 15) x3) S)) := by
  rw [(xc_count h).1, obs]
  refine AX.ite (fun _ => ax_116 h hF hK _ _ _) fun hne => ?_
  rw [obs, show nz (Int32.ofNat (wN w)) = some (Int32.ofNat (wN w)) from if_neg hne, obs]
  exact ax_116 h hF hK _ _ _
theorem ax_run (hT : T ≤ 8000) (h : RX S w ik) (hF : FA T w) (hK : ∀ k, ik = some k → FA T k) {k : Nat} (h1 : 1 ≤ k) (h2 : k ≤ 16) : AX (T + 128) (bd (fx_run (Int32.ofNat k) S) fun _ S1 => some S1) := by
  obtain ⟨S1, q1, q2⟩ := xc_run h h1 (by omega)
  rw [q1, bd_some]
  exact ⟨S1, _, ik, rfl, q2, (fair_run (k := k) (by omega) h.2.2.2.1 hF).mono (by omega), fun k hk => (hK k hk).mono (by omega)⟩
theorem ax_runs (hT : T ≤ 8000) (h : RX S w ik) (hF : FA T w) (hK : ∀ k, ik = some k → FA T k) (y : Int32) : AX (T + 128) (bd (fx_run (1 + (y &&& 15)) S) fun _ S1 => some S1) := by
  obtain ⟨m, hm, e⟩ := and_lowN y 15
  have e2 : 1 + (y &&& 15) = Int32.ofNat (1 + m) := by
    rw [show y &&& 15 = Int32.ofNat m from e]
    exact n_add 1 m
  rw [e2]
  exact ax_run hT h hF hK (by omega) (by omega)
theorem ax_drawn (h : RX S w ik) (hF : FA T w) (hK : ∀ k, ik = some k → FA T k) (y : Int32) : AX (T + 128) ((fx_count 0 S).bind fun x12 => if x12 ≤ 0 then (some S) else (bd (fx_drawn y S) fun _ S5 => some S5)) := by
  rw [(xc_count h).1, obs]
  exact AX.ite (fun _ => ax_same h hF hK) fun _ => ax_call hF hK (xc_drawn h _)
theorem ax_image (h : RX S w ik) (hF : FA T w) : AX (T + 128) (bd (fx_image S) fun _ S1 => some S1) := by
  obtain ⟨S1, q1, q2⟩ := xc_image h
  rw [q1, bd_some]
  exact ⟨S1, w, some w, rfl, q2, hF.mono (by omega), fun k hk => by rw [← Option.some.inj hk]; exact hF.mono (by omega)⟩
theorem ax_back (h : RX S w ik) (hF : FA T w) (hK : ∀ k, ik = some k → FA T k) : AX (T + 128) (bd (fx_back S) fun _ S1 => some S1) := by
  obtain ⟨r, S1, q1, q2⟩ := xc_back h
  rw [q1, bd_some]
  rcases q2 with ⟨-, q2⟩ | ⟨k, q2, -, q3⟩
  · exact ⟨S1, w, ik, rfl, q2, hF.mono (by omega), fun k hk => (hK k hk).mono (by omega)⟩
  · exact ⟨S1, k, ik, rfl, q3, (hK k q2).mono (by omega), fun k hk => (hK k hk).mono (by omega)⟩
theorem x_act (hT : T ≤ 8000) (h : RX S w ik) (hF : FA T w) (hK : ∀ k, ik = some k → FA T k) {scr : Nat × (Nat → Int32)} {v : Int32} (hc : ∃ x, fl_cell scr v S = some x) : AX (T + 128) (fl_act scr v S) := by
  obtain ⟨x, hc⟩ := hc
  unfold fl_act
  rw [hc, obs]
  refine AX.ite (fun _ => ax_actor h hF hK scr _) fun _ => ?_
  refine AX.ite (fun _ => ax_actor h hF hK scr _) fun _ => ?_
  refine AX.ite (fun _ => ax_actor h hF hK scr _) fun _ => ?_
  refine AX.ite (fun _ => ax_call hF hK (xc_tell h _ _ _)) fun _ => ?_
  refine AX.ite (fun _ => ax_call hF hK (xc_tell h _ _ _)) fun _ => ?_
  refine AX.ite (fun _ => ax_call hF hK (xc_tell h _ _ _)) fun _ => ?_
  refine AX.ite (fun _ => ax_call hF hK (xc_tell h _ _ _)) fun _ => ?_
  refine AX.ite (fun _ => ax_drawn h hF hK _) fun _ => ?_
  refine AX.ite (fun _ => AX.ite (fun _ => ax_call hF hK (xc_stop h _)) fun _ => ax_same h hF hK) fun _ => ?_
  refine AX.ite (fun _ => ax_runs hT h hF hK _) fun _ => ?_
  refine AX.ite (fun _ => ax_runs hT h hF hK _) fun _ => ?_
  refine AX.ite (fun _ => ax_runs hT h hF hK _) fun _ => ?_
  refine AX.ite (fun _ => ax_run (k := 1) hT h hF hK (by decide) (by decide)) fun _ => ?_
  refine AX.ite (fun _ => ax_image h hF) fun _ => ?_
  refine AX.ite (fun _ => AX.ite (fun _ => ax_back h hF hK) fun _ => ax_same h hF hK) fun _ => ?_
  exact ax_call hF hK (xc_seed h _)
end
theorem x_cell {L i : Nat} (xs : Nat → Int32) (S : Mem) (h0 : 0 < L) (hL : L ≤ 260) : ∃ x, fl_cell (L, xs) (Int32.ofNat i) S = some x := by
  have hz : ¬ Int32.ofNat L = 0 := fun q => by
    rw [show (0 : Int32) = Int32.ofNat 0 from rfl, n_inj (by omega) (by decide)] at q
    omega
  obtain ⟨m, hm, e⟩ := and_lowN (Int32.ofNat i) 65535
  have e2 : irm (Int32.ofNat i &&& 65535) (Int32.ofNat L) = Int32.ofNat (m % L) := by
    rw [show Int32.ofNat i &&& 65535 = Int32.ofNat m from e]
    exact irm_nat (by omega) h0 (by omega)
  have hj : m % L < L := Nat.mod_lt _ h0
  have e3 : sld (L, xs) (Int32.ofNat (m % L)) = some (xs (m % L)) := by
    unfold sld
    rw [n_clamp (by omega), if_neg]
    rintro (q | q)
    · exact n_neg (by omega) q
    · exact absurd hj (Nat.not_lt.mpr q)
  unfold fl_cell
  dsimp only
  rw [if_neg hz, show nz (Int32.ofNat L) = some (Int32.ofNat L) from if_neg hz, obs, e2, e3, obs]
  exact ⟨_, rfl⟩
/-! the end -/
section
variable {w : Wst} {T : Nat}
theorem x_fin (hT : T < 2 ^ 31) (hF : FA T w) {S : Mem} {w1 : Wst} (h : RX S w1 (some w)) : ∃ Sf, (bd (fx_back S) fun x1 S1 => if x1 = Int32.ofNat (wN w) then ((fx_count 5 S1).bind fun x2 => if x2 = wI w 7 then (bd (fx_dry 50 0 S1) fun x3 S2 => if x3 = Int32.ofNat (sRun w 50).2 then ((fl_isFair S2).bind fun x4 => if x4 = 0 then (some ((0 : Int32), S2)) else (some (1, S2))) else (some (0, S2))) else (some (0, S1))) else (some (0, S1))) = some (1, Sf) := by
  obtain ⟨r, S1, p1, c⟩ := xc_back h
  rcases c with ⟨c, -⟩ | ⟨k, ck, cr, r8⟩
  · cases c
  · cases ck
    obtain ⟨⟨S2, p2, r9⟩, -⟩ := xc_dry r8
    rw [p1, bd_some, if_pos cr, (xc_count r8).2.2.2.2.2.1, obs, if_pos rfl, p2, bd_some, if_pos rfl, xf_fair hT r9 hF, obs, if_neg n10]
    exact ⟨_, rfl⟩
theorem x_210 (scr : Nat × (Nat → Int32)) (hT : T < 2 ^ 31) (hF : FA T w) {S : Mem} {w1 : Wst} (h : RX S w1 (some w)) (hg : Good w) : ∃ Sf, fl_law_210 scr (Int32.ofNat (wN w)) (wI w 7) (Int32.ofNat (sRun w 50).2) (wI (sRun w 50).1 10) (sQui 200 0 w) S = some (1, Sf) := by
  obtain ⟨a1, -, a3⟩ := qui_run hg
  unfold fl_law_210
  by_cases z : wI (sRun w 50).1 10 = 0
  · rw [if_pos z]
    by_cases y : sQui 200 0 w < 0
    · rw [if_pos y]
      exact x_fin hT hF h
    · rcases a3 z with q | ⟨s, s1, s2, s3⟩
      · exact absurd (show sQui 200 0 w < 0 by rw [q]; decide) y
      · rw [if_neg y, s3, if_pos ((n_lt (by omega) (by omega)).mpr s1)]
        exact x_fin hT hF h
  · rw [if_neg z]
    exact x_fin hT hF h
theorem x_166 (scr : Nat × (Nat → Int32)) (hT : T < 2 ^ 31) (hF : FA T w) {S : Mem} (h : RX S (sRun w 50).1 (some w)) (hg : Good w) : ∀ (m n i : Nat), i + m = wN w → m < n → ∃ Sf, fl_law_166 scr n (Int32.ofNat (wN w)) (wI w 7) (Int32.ofNat (sRun w 50).2) (wI (sRun w 50).1 10) (sBits (sLive (sRun w 50).1) (wN (sRun w 50).1) 0 0) (sQui 200 0 w) (Int32.ofNat i) S = some (1, Sf)
  | _, 0, _, _, g => absurd g (Nat.not_lt_zero _)
  | 0, n + 1, i, e, _ => by
    have h12 := hg.1.1
    show ∃ Sf, fl_law_166b scr (fl_law_166 scr n) _ _ _ _ _ _ (Int32.ofNat i) S = some (1, Sf)
    unfold fl_law_166b
    rw [if_pos ((n_le (by omega) (by omega)).mpr (by omega))]
    by_cases z : wI (sRun w 50).1 10 = 1
    · rw [if_pos z, if_pos ((qui_run hg).2.1 z)]
      exact x_210 scr hT hF h hg
    · rw [if_neg z]
      exact x_210 scr hT hF h hg
  | m + 1, n + 1, i, e, hn => by
    have h12 := hg.1.1
    have hN := run_n 50 hg
    have hi : i < wN (sRun w 50).1 := by omega
    have o5 := (xc_of h hi).2.2.1
    have hb := live_bit (w := (sRun w 50).1) (by omega) hi
    show ∃ Sf, fl_law_166b scr (fl_law_166 scr n) _ _ _ _ _ _ (Int32.ofNat i) S = some (1, Sf)
    unfold fl_law_166b
    rw [if_neg (fun g => by rw [n_le (by omega) (by omega)] at g; omega), o5, obs, if_pos hb, n_succ]
    exact x_166 scr hT hF h hg m n (i + 1) (by omega) (by omega)
theorem x_end (scr : Nat × (Nat → Int32)) (k25 : Int32 → Int32 → Mem → Option (Int32 × Mem)) {v2 v3 : Int32} (hv : v2 ≤ v3) (hT : T ≤ 8000) (hF : FA T w) {S : Mem} {ik : Option Wst} (h : RX S w ik) : ∃ Sf, fl_law_25b scr k25 v2 v3 S = some (1, Sf) := by
  have hg := h.2.2.2.1
  have h12 := hg.1.1
  obtain ⟨q0, -, -, -, -, q5, -, -⟩ := xc_count h
  obtain ⟨⟨S1, p1, r1⟩, -⟩ := xc_dry h
  obtain ⟨-, ⟨S2, p2, r2⟩, -⟩ := xc_dry r1
  obtain ⟨-, -, ⟨S3, p3, r3⟩, -⟩ := xc_dry r2
  obtain ⟨-, -, -, ⟨S4, p4, r4⟩⟩ := xc_dry r3
  obtain ⟨S5, p5, r5⟩ := xc_quiet r4
  obtain ⟨S6, p6, r6⟩ := xc_image r5
  obtain ⟨S7, p7, r7⟩ := xc_run (k := 50) r6 (by decide) (by decide)
  have p8 : fx_run 50 S6 = some (Int32.ofNat (sRun w 50).2, S7) := p7
  have hF7 : FA (T + 8 * 50) (sRun w 50).1 := fair_run (by omega) hg hF
  unfold fl_law_25b
  rw [if_pos hv, q0, obs, q5, obs, p1, bd_some, p2, bd_some, p3, bd_some, p4, bd_some, p5, bd_some, xc_counted_no r5, obs, if_pos rfl, p6, bd_some, if_pos rfl, p8, bd_some, if_pos rfl, xc_ended r7, obs, if_pos rfl, (xc_count r7).2.2.2.2.1, obs, if_pos rfl, xf_fair (by omega) r7 hF7, obs, if_neg n10]
  exact x_166 scr (by omega) hF r7 hg (wN w) LF 0 (Nat.zero_add _) (by show _ < 3000; omega)
end
theorem x_loop {L M : Nat} (xs : Nat → Int32) (hL : L ≤ 260) (hM : M ≤ 60) (hML : M ≤ L) : ∀ (m n i : Nat) (S : Mem) (w : Wst) (ik : Option Wst), i + m = M → m < n → RX S w ik → FA (128 * i) w → (∀ k, ik = some k → FA (128 * i) k) → ∃ Sf, fl_law_25 (L, xs) n (Int32.ofNat M) (Int32.ofNat i) S = some (1, Sf)
  | _, 0, _, _, _, _, _, g, _, _, _ => absurd g (Nat.not_lt_zero _)
  | 0, n + 1, i, S, w, ik, e, _, h, hF, _ => by
    show ∃ Sf, fl_law_25b (L, xs) (fl_law_25 (L, xs) n) (Int32.ofNat M) (Int32.ofNat i) S = some (1, Sf)
    exact x_end (L, xs) _ ((n_le (by omega) (by omega)).mpr (by omega)) (show 128 * i ≤ 8000 by omega) hF h
  | m + 1, n + 1, i, S, w, ik, e, hn, h, hF, hK => by
    obtain ⟨S1, w1, ik1, q1, q2, q3, q4⟩ := x_act (show 128 * i ≤ 8000 by omega) h hF hK (x_cell (i := i) xs S (show 0 < L by omega) hL)
    show ∃ Sf, fl_law_25b (L, xs) (fl_law_25 (L, xs) n) (Int32.ofNat M) (Int32.ofNat i) S = some (1, Sf)
    unfold fl_law_25b
    rw [if_neg (fun g => by rw [n_le (by omega) (by omega)] at g; omega), q1, obs, xf_fair (by omega) q2 q3, obs, if_neg n10, n_succ]
    exact x_loop xs hL hM hML m n (i + 1) S1 w1 ik1 (by omega) (by omega) q2 q3 q4
/-! a new object -/
def a00 : Act := (fun _ => 0, [], [], [], [], [])
def w00 : Wst := (0, fun k => if k = 5 then -1 else if k = 9 then 1 else 0, fun _ => a00, [], [], [])
theorem w00_good : Good w00 := by
  have no : ∀ {b : Nat} {P : Prop}, b < wN w00 → P := fun h => absurd h (Nat.not_lt_zero _)
  exact ⟨⟨Nat.zero_le _, fun _ hb => no hb, ⟨Nat.zero_le _, List.Pairwise.nil, fun _ ht => absurd ht List.not_mem_nil⟩, ⟨Nat.zero_le _, fun _ ht => absurd ht List.not_mem_nil⟩, ⟨Nat.zero_le _, fun _ ht => absurd ht List.not_mem_nil⟩, Or.inl rfl⟩, ⟨fun _ hb => no hb, fun _ ht => absurd ht List.not_mem_nil, fun _ hb => no hb⟩, fun _ hb => no hb⟩
theorem i00_w : I0 1 4 = 0 ∧ (∀ k, k < 11 → 5 ≤ k → I0 1 k = wI w00 k) ∧ I0 (1 + 2) 3 = 0 ∧ I0 (1 + 6) 2 = 0 ∧ I0 (1 + 9) 2 = 0 ∧ I0 0 6 = 0 := by decide +kernel
theorem i00_h : ∀ h, h < 6 → I0 (679 + 3 * h) 1 = 0 := by decide +kernel
theorem rx_0 : RX I0 w00 none := by
  obtain ⟨c1, c2, c3, c4, c5, c6⟩ := i00_w
  exact ⟨⟨c1, fun k k1 k2 => c2 k (by omega) k1, fun a ha => absurd ha (Nat.not_lt_zero _), ⟨c3, fun i hi => absurd hi (Nat.not_lt_zero _)⟩, RP.len0 c4, RP.len0 c5⟩, c6, i00_h, w00_good, fun k hk => absurd hk (by simp)⟩
theorem fa_0 : FA 0 w00 := ⟨⟨fun _ hb => absurd hb (Nat.not_lt_zero _), fun _ hb => absurd hb (Nat.not_lt_zero _)⟩, 0, Nat.le_refl _, rfl, fun _ ht => absurd ht List.not_mem_nil⟩
theorem law_all {L : Nat} (xs : Nat → Int32) (hL : L ≤ 260) : ∃ Sf, fl_law (L, xs) I0 = some (1, Sf) := by
  unfold fl_law
  dsimp only
  by_cases e : 60 ≤ L
  · rw [if_pos (show (60 : Int32) ≤ Int32.ofNat L from (n_le (a := 60) (by decide) (by omega)).mpr e)]
    exact x_loop (M := 60) xs hL (by decide) e 60 LF 0 I0 w00 none (by omega) (by decide) rx_0 fa_0 fun k hk => absurd hk (by simp)
  · rw [if_neg (show ¬ (60 : Int32) ≤ Int32.ofNat L from fun q => e ((n_le (a := 60) (by decide) (by omega)).mp q))]
    exact x_loop (M := L) xs hL (by omega) (Nat.le_refl _) L LF 0 I0 w00 none (by omega) (by show L < 3000; omega) rx_0 fa_0 fun k hk => absurd hk (by simp)
