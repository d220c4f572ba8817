/-! 58: calls: reach -/
/-! a tree of numbers: who is above is smaller -/
def tr_P (p : Nat → Nat) : Prop := p 0 = 0 ∧ ∀ b, 0 < b → p b < b
def tr_d (p : Nat → Nat) : Nat → Nat → Nat → Nat
  | 0, _, _ => 0
  | n + 1, a, b => if a = b then 0 else if b < a then tr_d p n (p a) b + 1 else tr_d p n a (p b) + 1
theorem tr_d_eq {p : Nat → Nat} (hp : tr_P p) : ∀ (n m a b : Nat), a + b ≤ n → a + b ≤ m → tr_d p n a b = tr_d p m a b
  | 0, 0, _, _, _, _ => rfl
  | 0, m + 1, a, b, h, _ => by
    have e : a = b := by omega
    show 0 = if a = b then 0 else if b < a then tr_d p m (p a) b + 1 else tr_d p m a (p b) + 1
    rw [if_pos e]
  | n + 1, 0, a, b, _, h => by
    have e : a = b := by omega
    show (if a = b then 0 else if b < a then tr_d p n (p a) b + 1 else tr_d p n a (p b) + 1) = 0
    rw [if_pos e]
  | n + 1, m + 1, a, b, h1, h2 => by
    show (if a = b then 0 else if b < a then tr_d p n (p a) b + 1 else tr_d p n a (p b) + 1) = (if a = b then 0 else if b < a then tr_d p m (p a) b + 1 else tr_d p m a (p b) + 1)
    by_cases e : a = b
    · rw [if_pos e, if_pos e]
    · rw [if_neg e, if_neg e]
      by_cases g : b < a
      · have := hp.2 a (by omega)
        rw [if_pos g, if_pos g, tr_d_eq hp n m (p a) b (by omega) (by omega)]
      · have := hp.2 b (by omega)
        rw [if_neg g, if_neg g, tr_d_eq hp n m a (p b) (by omega) (by omega)]
theorem tr_d_le {p : Nat → Nat} : ∀ (n a b : Nat), tr_d p n a b ≤ n
  | 0, _, _ => Nat.le_refl _
  | n + 1, a, b => by
    show (if a = b then 0 else if b < a then tr_d p n (p a) b + 1 else tr_d p n a (p b) + 1) ≤ n + 1
    have h1 := tr_d_le (p := p) n (p a) b
    have h2 := tr_d_le (p := p) n a (p b)
    split
    · omega
    split <;> omega
def tr_D (p : Nat → Nat) (a b : Nat) : Nat := tr_d p (a + b) a b
theorem tr_D_self {p : Nat → Nat} {a : Nat} : tr_D p a a = 0 := by
  unfold tr_D
  cases a + a with
  | zero => rfl
  | succ n =>
    show (if a = a then 0 else if a < a then tr_d p n (p a) a + 1 else tr_d p n a (p a) + 1) = 0
    rw [if_pos rfl]
theorem tr_D_l {p : Nat → Nat} (hp : tr_P p) {a b : Nat} (h : b < a) : tr_D p a b = tr_D p (p a) b + 1 := by
  have ha := hp.2 a (by omega)
  unfold tr_D
  obtain ⟨n, hn⟩ : ∃ n, a + b = n + 1 := ⟨a + b - 1, by omega⟩
  rw [hn]
  show (if a = b then 0 else if b < a then tr_d p n (p a) b + 1 else tr_d p n a (p b) + 1) = _
  rw [if_neg (by omega), if_pos h, tr_d_eq hp n (p a + b) (p a) b (by omega) (Nat.le_refl _)]
theorem tr_D_r {p : Nat → Nat} (hp : tr_P p) {a b : Nat} (h : a < b) : tr_D p a b = tr_D p a (p b) + 1 := by
  have hb := hp.2 b (by omega)
  unfold tr_D
  obtain ⟨n, hn⟩ : ∃ n, a + b = n + 1 := ⟨a + b - 1, by omega⟩
  rw [hn]
  show (if a = b then 0 else if b < a then tr_d p n (p a) b + 1 else tr_d p n a (p b) + 1) = _
  rw [if_neg (by omega), if_neg (by omega), tr_d_eq hp n (a + p b) a (p b) (by omega) (Nat.le_refl _)]
theorem tr_D_le {p : Nat → Nat} {a b : Nat} : tr_D p a b ≤ a + b := tr_d_le _ _ _
def tr_it (p : Nat → Nat) : Nat → Nat → Nat
  | 0, x => x
  | k + 1, x => tr_it p k (p x)
theorem tr_it_s {p : Nat → Nat} : ∀ (k x : Nat), tr_it p (k + 1) x = p (tr_it p k x)
  | 0, _ => rfl
  | k + 1, x => tr_it_s k (p x)
/-- v is above x, or x -/
def tr_an (p : Nat → Nat) (v x : Nat) : Prop := ∃ k, tr_it p k x = v
theorem tr_an_self {p : Nat → Nat} {x : Nat} : tr_an p x x := ⟨0, rfl⟩
theorem tr_an_up {p : Nat → Nat} {v x : Nat} (h : tr_an p v (p x)) : tr_an p v x := by
  obtain ⟨k, hk⟩ := h
  exact ⟨k + 1, hk⟩
theorem tr_an_dn {p : Nat → Nat} {v x : Nat} (h : tr_an p v x) (hne : v ≠ x) : tr_an p v (p x) := by
  obtain ⟨k, hk⟩ := h
  cases k with
  | zero => exact absurd hk.symm hne
  | succ k => exact ⟨k, hk⟩
theorem tr_an_par {p : Nat → Nat} {v x : Nat} (h : tr_an p v x) : tr_an p (p v) x := by
  obtain ⟨k, hk⟩ := h
  exact ⟨k + 1, by rw [tr_it_s, hk]⟩
theorem tr_le {p : Nat → Nat} (hp : tr_P p) (x : Nat) : p x ≤ x := by
  by_cases h : 0 < x
  · exact Nat.le_of_lt (hp.2 x h)
  · have e : x = 0 := by omega
    rw [e, hp.1]
    exact Nat.le_refl _
theorem tr_an_le {p : Nat → Nat} (hp : tr_P p) {v : Nat} : ∀ (k x : Nat), tr_it p k x = v → v ≤ x
  | 0, x, h => by
    rw [← h]
    exact Nat.le_refl _
  | k + 1, x, h => Nat.le_trans (tr_an_le hp k (p x) h) (tr_le hp x)
theorem tr_an_0 {p : Nat → Nat} (hp : tr_P p) : ∀ (n x : Nat), x ≤ n → tr_an p 0 x
  | 0, x, h => by
    have e : x = 0 := by omega
    rw [e]
    exact tr_an_self
  | n + 1, x, h => by
    by_cases e : 0 < x
    · exact tr_an_up (tr_an_0 hp n (p x) (by have := hp.2 x e; omega))
    · have e2 : x = 0 := by omega
      rw [e2]
      exact tr_an_self
theorem tr_uniq {p : Nat → Nat} (hp : tr_P p) {c u : Nat} (hc : 0 < c) (hu : 0 < u) (he : p c = p u) : ∀ (n x : Nat), x ≤ n → tr_an p c x → tr_an p u x → c = u
  | 0, x, h, ⟨k, hk⟩, _ => by
    have := tr_an_le hp k x hk
    omega
  | n + 1, x, h, h1, h2 => by
    have hcp := hp.2 c hc
    have hup := hp.2 u hu
    by_cases e1 : c = x
    · by_cases e2 : u = x
      · rw [e1, e2]
      · obtain ⟨k, hk⟩ := tr_an_dn h2 e2
        have := tr_an_le hp k _ hk
        rw [← e1] at this
        omega
    · by_cases e2 : u = x
      · obtain ⟨k, hk⟩ := tr_an_dn h1 e1
        have := tr_an_le hp k _ hk
        rw [← e2] at this
        omega
      · obtain ⟨k, hk⟩ := h1
        have hx := tr_an_le hp k x hk
        have hxp := hp.2 x (by omega)
        exact tr_uniq hp hc hu he n (p x) (by omega) (tr_an_dn ⟨k, hk⟩ e1) (tr_an_dn h2 e2)
/-- one that isn't above f is one way farther than its parent -/
theorem tr_far {p : Nat → Nat} (hp : tr_P p) {v : Nat} (hv : 0 < v) : ∀ (n f : Nat), f ≤ n → ¬ tr_an p v f → tr_D p f v = tr_D p f (p v) + 1
  | n, f, h, hna => by
    have hvp := hp.2 v hv
    have hne : v ≠ f := fun e => hna (by rw [e]; exact tr_an_self)
    by_cases g : f < v
    · exact tr_D_r hp g
    · have g2 : v < f := by omega
      have hfp := hp.2 f (by omega)
      cases n with
      | zero => omega
      | succ n =>
        have ih := tr_far hp hv n (p f) (by omega) fun q => hna (tr_an_up q)
        rw [tr_D_l hp g2, tr_D_l hp (show p v < f by omega), ih]
/-- and one above f is one way nearer -/
theorem tr_near {p : Nat → Nat} (hp : tr_P p) {v : Nat} (hv : 0 < v) : ∀ (n f : Nat), f ≤ n → tr_an p v f → tr_D p f (p v) = tr_D p f v + 1
  | n, f, h, ⟨k, hk⟩ => by
    have hvp := hp.2 v hv
    have hle := tr_an_le hp k f hk
    by_cases e : v = f
    · subst e
      rw [tr_D_l hp hvp, tr_D_self, tr_D_self]
    · have g2 : v < f := by omega
      have hfp := hp.2 f (by omega)
      cases n with
      | zero => omega
      | succ n =>
        have ih := tr_near hp hv n (p f) (by omega) (tr_an_dn ⟨k, hk⟩ e)
        rw [tr_D_l hp g2, tr_D_l hp (show p v < f by omega), ih]
/-! parents as numbers -/
def wP (w : Wst) (b : Nat) : Nat := if 0 < b ∧ b < wN w then nu (aI (wA w b) 0) else 0
theorem wP_tree {w : Wst} (hI : Inv w) : tr_P (wP w) := by
  have h12 := hI.1
  refine ⟨if_neg (by omega), fun b hb => ?_⟩
  unfold wP
  by_cases h : 0 < b ∧ b < wN w
  · rw [if_pos h]
    exact okPar_lt (hI.2.1 b h.2).1 hb (by omega)
  · rw [if_neg h]
    exact hb
theorem par_iff {w : Wst} (hI : Inv w) {a b : Nat} (ha : a < wN w) (hb : b < 12) : aI (wA w a) 0 = Int32.ofNat b ↔ (0 < a ∧ wP w a = b) := by
  have h12 := hI.1
  unfold wP
  rcases (hI.2.1 a ha).1 with ⟨e1, e2⟩ | ⟨k, hk, e⟩
  · rw [e2]
    refine ⟨fun q => ?_, fun q => by have := q.1; omega⟩
    have h0 : Int32.ofNat b < 0 := by rw [← q]; decide
    exact absurd h0 (n_neg (by omega))
  · rw [if_pos ⟨by omega, ha⟩, e, nu_n (by omega), n_inj (by omega) (by omega)]
    exact ⟨fun q => ⟨by omega, q⟩, fun q => q.2⟩
theorem par_eq {w : Wst} (hI : Inv w) {a : Nat} (ha : a < wN w) (h0 : 0 < a) : aI (wA w a) 0 = Int32.ofNat (wP w a) := by
  have h12 := hI.1
  have := (wP_tree hI).2 a h0
  exact (par_iff hI ha (by omega)).mpr ⟨h0, rfl⟩
theorem wp_live {w : Wst} (hg : Good w) {a : Nat} (hl : sLive w a = true) (h0 : 0 < a) : sLive w (wP w a) = true := by
  obtain ⟨h1, h2⟩ := sLive_lt hl
  have := hg.2.1.1 a h1 h2 h0
  unfold wP
  rw [if_pos ⟨h0, h1⟩]
  exact this
def nxt (w : Wst) (a b : Nat) : Prop := (0 < a ∧ wP w a = b) ∨ (0 < b ∧ wP w b = a)
theorem an_live {w : Wst} (hg : Good w) : ∀ (k x v : Nat), tr_it (wP w) k x = v → sLive w x = true → sLive w v = true
  | 0, x, v, h, hl => by
    rw [← h]
    exact hl
  | k + 1, x, v, h, hl => by
    refine an_live hg k (wP w x) v h ?_
    by_cases e : 0 < x
    · exact wp_live hg hl e
    · have e2 : x = 0 := by omega
      rw [e2, (wP_tree hg.1).1]
      rw [e2] at hl
      exact hl
/-! who was found so far -/
def QI (w : Wst) (fr : Nat) (q : List Nat) : Prop := fr ∈ q ∧ q.Nodup ∧ (∀ u ∈ q, sLive w u = true) ∧ (∀ u ∈ q, ¬ tr_an (wP w) u fr → wP w u ∈ q) ∧ (∀ u ∈ q, ∀ c, 0 < c → wP w c = u → tr_an (wP w) c fr → c ∈ q)
theorem QI.one {w : Wst} (hI : Inv w) {fr : Nat} (hl : sLive w fr = true) : QI w fr [fr] := by
  have hp := wP_tree hI
  refine ⟨List.mem_singleton.mpr rfl, List.nodup_cons.mpr ⟨List.not_mem_nil, List.nodup_nil⟩, fun u hu => ?_, fun u hu hna => ?_, fun u hu c hc he ⟨k, hk⟩ => ?_⟩
  · rw [List.mem_singleton.mp hu]
    exact hl
  · rw [List.mem_singleton.mp hu] at hna
    exact absurd tr_an_self hna
  · have h1 := tr_an_le hp k fr hk
    have h2 := hp.2 c hc
    rw [List.mem_singleton.mp hu] at he
    omega
theorem QI.step {w : Wst} (hI : Inv w) {fr u a : Nat} {q : List Nat} (h : QI w fr q) (hu : u ∈ q) (ha : a ∉ q) (hl : sLive w a = true) (hn : nxt w a u) : tr_D (wP w) fr a = tr_D (wP w) fr u + 1 ∧ QI w fr (q ++ [a]) := by
  have hp := wP_tree hI
  obtain ⟨h1, h2, h3, h4, h5⟩ := h
  have hin : ∀ x, x ∈ q → x ∈ q ++ [a] := fun x hx => List.mem_append.mpr (Or.inl hx)
  have key : (tr_D (wP w) fr a = tr_D (wP w) fr u + 1) ∧ (¬ tr_an (wP w) a fr → wP w a ∈ q) ∧ (∀ c, 0 < c → wP w c = a → tr_an (wP w) c fr → c ∈ q) := by
    rcases hn with ⟨n1, n2⟩ | ⟨n1, n2⟩
    · have hna : ¬ tr_an (wP w) a fr := fun hx => ha (h5 u hu a n1 n2 hx)
      have hfar := tr_far hp n1 fr fr (Nat.le_refl _) hna
      rw [n2] at hfar
      refine ⟨hfar, fun _ => by rw [n2]; exact hu, fun c hc he hx => ?_⟩
      have := tr_an_par hx
      rw [he] at this
      exact absurd this hna
    · have hua : tr_an (wP w) u fr := Classical.byContradiction fun hx => ha (by rw [← n2]; exact h4 u hu hx)
      have hnear := tr_near hp n1 fr fr (Nat.le_refl _) hua
      rw [n2] at hnear
      have haa : tr_an (wP w) a fr := by
        rw [← n2]
        exact tr_an_par hua
      refine ⟨hnear, fun hx => absurd haa hx, fun c hc he hx => ?_⟩
      have e := tr_uniq hp hc n1 (he.trans n2.symm) fr fr (Nat.le_refl _) hx hua
      rw [e]
      exact hu
  obtain ⟨k1, k2, k3⟩ := key
  refine ⟨k1, hin _ h1, ?_, fun x hx => ?_, fun x hx hna => ?_, fun x hx c hc he han => ?_⟩
  · rw [List.nodup_append]
    refine ⟨h2, List.nodup_cons.mpr ⟨List.not_mem_nil, List.nodup_nil⟩, fun x hx y hy => ?_⟩
    rw [List.mem_singleton.mp hy]
    exact fun e => ha (by rw [← e]; exact hx)
  · rcases List.mem_append.mp hx with q | q
    · exact h3 x q
    · rw [List.mem_singleton.mp q]
      exact hl
  · rcases List.mem_append.mp hx with q | q
    · exact hin _ (h4 x q hna)
    · have e := List.mem_singleton.mp q
      rw [e] at hna ⊢
      exact hin _ (k2 hna)
  · rcases List.mem_append.mp hx with q | q
    · exact hin _ (h5 x q c hc he han)
    · have e := List.mem_singleton.mp q
      rw [e] at he
      exact hin _ (k3 c hc he han)
/-- with all neighbours of the found ones found, all live ones are -/
theorem QI.all {w : Wst} (hg : Good w) {fr : Nat} {q : List Nat} (h : QI w fr q) (hc : ∀ u ∈ q, ∀ b, sLive w b = true → nxt w b u → b ∈ q) : ∀ b, sLive w b = true → b ∈ q := by
  have hp := wP_tree hg.1
  have hanc : ∀ (k x : Nat), x ∈ q → tr_it (wP w) k x ∈ q := by
    intro k
    induction k with
    | zero => exact fun x hx => hx
    | succ k ih =>
      intro x hx
      refine ih (wP w x) ?_
      by_cases e : 0 < x
      · exact hc x hx _ (wp_live hg (h.2.2.1 x hx) e) (Or.inr ⟨e, rfl⟩)
      · have e2 : x = 0 := by omega
        rw [e2, hp.1]
        rw [e2] at hx
        exact hx
  obtain ⟨k, hk⟩ := tr_an_0 hp fr fr (Nat.le_refl _)
  have h0 : 0 ∈ q := by
    have := hanc k fr h.1
    rw [hk] at this
    exact this
  have hall : ∀ (n b : Nat), b ≤ n → sLive w b = true → b ∈ q := by
    intro n
    induction n with
    | zero =>
      intro b hb _
      have e : b = 0 := by omega
      rw [e]
      exact h0
    | succ n ih =>
      intro b hb hl
      by_cases e : 0 < b
      · have hlt := hp.2 b e
        exact hc (wP w b) (ih _ (by omega) (wp_live hg hl e)) b hl (Or.inl ⟨e, rfl⟩)
      · have e2 : b = 0 := by omega
        rw [e2]
        exact h0
  exact fun b hl => hall b b (Nat.le_refl _) hl
theorem nodup_lt : ∀ (n : Nat) (l : List Nat), l.Nodup → (∀ q ∈ l, q < n) → l.length ≤ n
  | 0, [], _, _ => Nat.le_refl _
  | 0, q :: l, _, h => absurd (h q List.mem_cons_self) (Nat.not_lt_zero _)
  | n + 1, l, hd, h => by
    have h1 := nodup_lt n (l.filter fun q => !(q == n)) (hd.filter _) (fun q hq => by
      rw [List.mem_filter] at hq
      have h3 := h q hq.1
      have h4 : q ≠ n := fun e => by
        rw [e] at hq
        simp at hq
      omega)
    have h2 : ∀ (l : List Nat), l.Nodup → l.length ≤ (l.filter fun q => !(q == n)).length + 1 := by
      intro l
      induction l with
      | nil => intro _; simp
      | cons q l ih =>
        intro hd
        have hd2 := List.nodup_cons.mp hd
        by_cases e : q = n
        · have : l.filter (fun q => !(q == n)) = l := List.filter_eq_self.mpr fun x hx => by
            have : x ≠ n := fun e2 => hd2.1 (by rw [e, ← e2]; exact hx)
            simp [this]
          rw [List.filter_cons_of_neg (by simp [e]), this, List.length_cons]
          exact Nat.le_refl _
        · rw [List.filter_cons_of_pos (by simp [e]), List.length_cons, List.length_cons]
          have := ih hd2.2
          omega
    have := h2 l hd
    omega
theorem QI.len {w : Wst} {fr : Nat} {q : List Nat} (h : QI w fr q) : q.length ≤ wN w := nodup_lt _ _ h.2.1 fun u hu => (sLive_lt (h.2.2.1 u hu)).1
/-! the reference's search -/
theorem lnQ : ln 714 = 12 ∧ ln 715 = 12 := by decide +kernel
def QR (w : Wst) (S : Mem) (fr : Nat) (q : List Nat) : Prop := (∀ i v, q[i]? = some v → S 714 i = Int32.ofNat v) ∧ ∀ a, a < 12 → S 715 a = if a ∈ q then Int32.ofNat (tr_D (wP w) fr a) else -2
theorem m_isNext_ok {S : Mem} {w : Wst} {en : Int32} (hR : RM en (S 698) w) (hI : Inv w) {a b : Nat} (ha : a < wN w) (hb : b < wN w) : (nxt w a b ∧ fm_isNext (Int32.ofNat a) (Int32.ofNat b) S = some 1) ∨ (¬ nxt w a b ∧ fm_isNext (Int32.ofNat a) (Int32.ofNat b) S = some 0) := by
  have h12 := hI.1
  unfold fm_isNext nxt
  rw [a0 (by omega), obs, (hR.2.2.1 a ha).1.1, a0 (by omega), (hR.2.2.1 b hb).1.1]
  have i1 := par_iff hI ha (show b < 12 by omega)
  have i2 := par_iff hI hb (show a < 12 by omega)
  by_cases e1 : aI (wA w a) 0 = Int32.ofNat b
  · rw [if_pos e1]
    exact Or.inl ⟨Or.inl (i1.mp e1), rfl⟩
  · rw [if_neg e1, obs]
    by_cases e2 : aI (wA w b) 0 = Int32.ofNat a
    · rw [if_pos e2]
      exact Or.inl ⟨Or.inr (i2.mp e2), rfl⟩
    · rw [if_neg e2]
      exact Or.inr ⟨fun q => q.elim (fun q => e1 (i1.mpr q)) fun q => e2 (i2.mpr q), rfl⟩
theorem m_in_loop {w : Wst} {en : Int32} (hg : Good w) {fr u i : Nat} {v2 : Int32} (hfr : fr < 12) (k78 : Int32 → Int32 → Int32 → Mem → Option (Int32 × Mem)) : ∀ (m n a : Nat) (q : List Nat) (S : Mem), a + m = wN w → m < n → RM en (S 698) w → QI w fr q → QR w S fr q → q[i]? = some u → (∀ b, b < a → sLive w b = true → nxt w b u → b ∈ q) → ∃ q' S1, fm_reach_87 k78 n v2 (Int32.ofNat q.length) (Int32.ofNat i) (Int32.ofNat a) S = k78 v2 (Int32.ofNat q'.length) (Int32.ofNat (i + 1)) S1 ∧ QI w fr q' ∧ QR w S1 fr q' ∧ (∃ t, q' = q ++ t) ∧ (∀ b, sLive w b = true → nxt w b u → b ∈ q') ∧ ∀ b, b ≠ 714 → b ≠ 715 → S1 b = S b
  | _, 0, _, _, _, _, h, _, _, _, _, _ => absurd h (Nat.not_lt_zero _)
  | 0, n + 1, a, q, S, h, _, hR, hQ, hQR, hu, hd => by
    have h12 := hg.1.1
    refine ⟨q, S, ?_, hQ, hQR, ⟨[], (List.append_nil q).symm⟩, fun b hl => hd b (by have := (sLive_lt hl).1; omega) hl, fun _ _ _ => rfl⟩
    show fm_reach_87b k78 (fm_reach_87 k78 n) v2 (Int32.ofNat q.length) (Int32.ofNat i) (Int32.ofNat a) S = _
    unfold fm_reach_87b
    rw [v924, obs, hR.1, if_pos ((n_le (by omega) (by omega)).mpr (by omega)), n_succ]
  | m + 1, n + 1, a, q, S, h, hn, hR, hQ, hQR, hu, hd => by
    have hI := hg.1
    have h12 := hI.1
    have ha : a < wN w := by omega
    have hum : u ∈ q := List.mem_of_getElem? hu
    have hul := (sLive_lt (hQ.2.2.1 u hum)).1
    have hil : i < q.length := (List.getElem?_eq_some_iff.mp hu).1
    have hql := hQ.len
    have go : (sLive w a = true → nxt w a u → a ∈ q) → ∃ q' S1, fm_reach_87 k78 n v2 (Int32.ofNat q.length) (Int32.ofNat i) (Int32.ofNat (a + 1)) S = k78 v2 (Int32.ofNat q'.length) (Int32.ofNat (i + 1)) S1 ∧ QI w fr q' ∧ QR w S1 fr q' ∧ (∃ t, q' = q ++ t) ∧ (∀ b, sLive w b = true → nxt w b u → b ∈ q') ∧ ∀ b, b ≠ 714 → b ≠ 715 → S1 b = S b := fun hx =>
      m_in_loop hg hfr k78 m n (a + 1) q S (by omega) (by omega) hR hQ hQR hu fun b hb hl hnx => by
        by_cases e : b = a
        · rw [e] at hl hnx ⊢
          exact hx hl hnx
        · exact hd b (by omega) hl hnx
    show ∃ q' S1, fm_reach_87b k78 (fm_reach_87 k78 n) v2 (Int32.ofNat q.length) (Int32.ofNat i) (Int32.ofNat a) S = _ ∧ _
    unfold fm_reach_87b
    rw [v924, obs, hR.1, if_neg (fun q => by rw [n_le (by omega) (by omega)] at q; omega), ald_n (by rw [lnQ.2]; omega) (by rw [lnQ.2]; decide), obs, hQR.2 a (by omega), n_succ]
    by_cases g : a ∈ q
    · have hb : tr_D (wP w) fr a < 2 ^ 31 := by
        have := tr_D_le (p := wP w) (a := fr) (b := a)
        omega
      rw [if_pos g, if_pos (nn0 hb)]
      exact go fun _ _ => g
    · have hlv := m_isLive_ok (S := S) hR hI ha
      rw [gM_eta] at hlv
      rw [if_neg g, if_neg (show ¬ (0 : Int32) ≤ -2 by decide), hlv, obs]
      by_cases gl : sLive w a = true
      · rw [if_pos gl, if_neg n10, ald_n (by rw [lnQ.1]; omega) (by rw [lnQ.1]; decide), obs, hQR.1 i u hu]
        rcases m_isNext_ok hR hI ha hul with ⟨nx, e⟩ | ⟨nx, e⟩
        · obtain ⟨d1, d2⟩ := hQ.step hI hum g gl nx
          have hlen := d2.len
          rw [List.length_append] at hlen
          have hlen2 : q.length + 1 ≤ wN w := hlen
          have hu15 : S 715 u = Int32.ofNat (tr_D (wP w) fr u) := by rw [hQR.2 u (by omega), if_pos hum]
          rw [e, obs, if_neg n10, obs, ald_n (by rw [lnQ.2]; omega) (by rw [lnQ.2]; decide), obs, hu15, n_succ, n_succ, ← d1, ast_n (by rw [lnQ.2]; omega) (by rw [lnQ.2]; decide), obs, ast_n (by rw [lnQ.1]; omega) (by rw [lnQ.1]; decide), obs]
          have hR2 : RM en ((up2 (up2 S 715 a (Int32.ofNat (tr_D (wP w) fr a))) 714 q.length (Int32.ofNat a)) 698) w := by
            rw [up2_off (by decide), up2_off (by decide)]
            exact hR
          have hQ2 : QR w (up2 (up2 S 715 a (Int32.ofNat (tr_D (wP w) fr a))) 714 q.length (Int32.ofNat a)) fr (q ++ [a]) := by
            refine ⟨fun j v hj => ?_, fun b hb => ?_⟩
            · by_cases ej : j < q.length
              · rw [List.getElem?_append_left ej] at hj
                rw [up2_nf (by omega), up2_off (by decide)]
                exact hQR.1 j v hj
              · have hj2 := (List.getElem?_eq_some_iff.mp hj).1
                rw [List.length_append] at hj2
                have hj3 : j < q.length + 1 := hj2
                have ej2 : j = q.length := by omega
                subst ej2
                rw [List.getElem?_append_right (Nat.le_refl _), Nat.sub_self] at hj
                have ev : a = v := Option.some.inj hj
                rw [up2_self, ev]
            · rw [up2_off (by decide)]
              by_cases eb : b = a
              · rw [eb, up2_self, if_pos (List.mem_append.mpr (Or.inr (List.mem_singleton.mpr rfl)))]
              · rw [up2_nf eb, hQR.2 b hb]
                by_cases hbq : b ∈ q
                · rw [if_pos hbq, if_pos (List.mem_append.mpr (Or.inl hbq))]
                · rw [if_neg hbq, if_neg (fun hx => (List.mem_append.mp hx).elim hbq fun hx => eb (List.mem_singleton.mp hx))]
          obtain ⟨q', S1, r1, r2, r3, ⟨t, r4⟩, r5, r6⟩ := m_in_loop hg hfr k78 m n (a + 1) (q ++ [a]) (up2 (up2 S 715 a (Int32.ofNat (tr_D (wP w) fr a))) 714 q.length (Int32.ofNat a)) (by omega) (by omega) hR2 d2 hQ2 (by rw [List.getElem?_append_left hil]; exact hu) (fun b hb hl hnx => by
            by_cases eb : b = a
            · rw [eb]
              exact List.mem_append.mpr (Or.inr (List.mem_singleton.mpr rfl))
            · exact List.mem_append.mpr (Or.inl (hd b (by omega) hl hnx)))
          rw [List.length_append] at r1
          refine ⟨q', S1, r1, r2, r3, ⟨[a] ++ t, by rw [r4, List.append_assoc]⟩, r5, fun b b1 b2 => ?_⟩
          rw [r6 b b1 b2, up2_off b1, up2_off b2]
        · rw [e, obs, if_pos rfl]
          exact go fun _ hx => absurd hx nx
      · rw [if_neg gl, if_pos rfl]
        exact go fun hx => absurd hx gl
theorem m_out_loop {w : Wst} {en : Int32} (hg : Good w) {fr to : Nat} (hfr : fr < 12) (hto : sLive w to = true) : ∀ (m n i : Nat) (q : List Nat) (S : Mem), i + m = 12 → m < n → i ≤ q.length → RM en (S 698) w → QI w fr q → QR w S fr q → (∀ j, j < i → ∀ u, q[j]? = some u → ∀ b, sLive w b = true → nxt w b u → b ∈ q) → ∃ S1, fm_reach_78 n (Int32.ofNat to) (Int32.ofNat q.length) (Int32.ofNat i) S = some (Int32.ofNat (tr_D (wP w) fr to), S1) ∧ ∀ b, b ≠ 714 → b ≠ 715 → S1 b = S b
  | _, 0, _, _, _, _, h, _, _, _, _, _ => absurd h (Nat.not_lt_zero _)
  | m, n + 1, i, q, S, h, hn, hi, hR, hQ, hQR, hd => by
    have hI := hg.1
    have h12 := hI.1
    have hql := hQ.len
    have hto12 := (sLive_lt hto).1
    show ∃ S1, fm_reach_78b (fm_reach_78 n) (Int32.ofNat to) (Int32.ofNat q.length) (Int32.ofNat i) S = _ ∧ _
    unfold fm_reach_78b
    by_cases g : q.length ≤ i
    · have hall := hQ.all hg fun u hu b hl hnx => by
        obtain ⟨j, hj⟩ := List.getElem?_of_mem hu
        exact hd j (by have := (List.getElem?_eq_some_iff.mp hj).1; omega) u hj b hl hnx
      rw [if_pos ((n_le (by omega) (by omega)).mpr g), ald_n (by rw [lnQ.2]; omega) (by rw [lnQ.2]; decide), obs, hQR.2 to (by omega), if_pos (hall to hto)]
      exact ⟨S, rfl, fun _ _ _ => rfl⟩
    · cases m with
      | zero => omega
      | succ m =>
        have hil : i < q.length := by omega
        obtain ⟨u, hu⟩ : ∃ u, q[i]? = some u := ⟨q[i], List.getElem?_eq_getElem hil⟩
        rw [if_neg (fun x => g ((n_le (by omega) (by omega)).mp x))]
        obtain ⟨q', S1, r1, r2, r3, ⟨t, r4⟩, r5, r6⟩ := m_in_loop (v2 := Int32.ofNat to) hg hfr (fm_reach_78 n) (wN w) LF 0 q S (Nat.zero_add _) (by show wN w < 3000; omega) hR hQ hQR hu (fun b hb => absurd hb (Nat.not_lt_zero _))
        rw [show fm_reach_87 (fm_reach_78 n) LF (Int32.ofNat to) (Int32.ofNat q.length) (Int32.ofNat i) 0 S = _ from r1]
        have hq' : q.length ≤ q'.length := by
          rw [r4, List.length_append]
          omega
        obtain ⟨S2, p1, p2⟩ := m_out_loop hg hfr hto m n (i + 1) q' S1 (by omega) (by omega) (by omega) (by rw [r6 698 (by decide) (by decide)]; exact hR) r2 r3 (fun j hj v hv b hl hnx => by
          by_cases e : j = i
          · subst e
            rw [r4, List.getElem?_append_left hil, hu] at hv
            have ev : u = v := Option.some.inj hv
            rw [← ev] at hnx
            exact r5 b hl hnx
          · rw [r4, List.getElem?_append_left (by omega)] at hv
            rw [r4]
            exact List.mem_append.mpr (Or.inl (hd j (by omega) v hv b hl hnx)))
        exact ⟨S2, p1, fun b b1 b2 => (p2 b b1 b2).trans (r6 b b1 b2)⟩
theorem m_clear_loop {v1 v2 : Int32} : ∀ (m n j : Nat) (S : Mem), j + m = 12 → m < n → (∀ a, a < j → S 715 a = -2) → ∃ S1, fm_reach_39 n v1 v2 (Int32.ofNat j) S = ((ast S1 715 v1 0).bind fun S1 => (ast S1 714 0 v1).bind fun S2 => fm_reach_78 LF v2 1 0 S2) ∧ (∀ a, a < 12 → S1 715 a = -2) ∧ ∀ b, b ≠ 715 → S1 b = S b
  | _, 0, _, _, _, h, _ => absurd h (Nat.not_lt_zero _)
  | 0, n + 1, j, S, h, _, hz => by
    have e : j = 12 := by omega
    subst e
    refine ⟨S, ?_, hz, fun _ _ => rfl⟩
    show fm_reach_39b (fm_reach_39 n) v1 v2 (Int32.ofNat 12) S = _
    unfold fm_reach_39b
    rw [if_pos (by decide)]
  | m + 1, n + 1, j, S, h, hn, hz => by
    obtain ⟨S1, q1, q2, q3⟩ := m_clear_loop (v1 := v1) (v2 := v2) m n (j + 1) (up2 S 715 j (-2)) (by omega) (by omega) (fun a ha => by
      by_cases e : a = j
      · rw [e, up2_self]
      · rw [up2_nf e]
        exact hz a (by omega))
    refine ⟨S1, ?_, q2, fun b hb => (q3 b hb).trans (up2_off hb)⟩
    show fm_reach_39b (fm_reach_39 n) v1 v2 (Int32.ofNat j) S = _
    unfold fm_reach_39b
    rw [if_neg (fun q => by rw [n12, n_le (by decide) (by omega)] at q; omega), ast_n (by rw [lnQ.2]; omega) (by rw [lnQ.2]; decide), obs, n_succ]
    exact q1
/-! the class's climb -/
theorem x_reach_loop {S : Mem} {w : Wst} (hR : RW S 1 w) (hg : Good w) : ∀ (n a b j : Nat), a + b < n → a + b + j ≤ 23 → sLive w a = true → sLive w b = true → fx_reach_32 n (Int32.ofNat a) (Int32.ofNat b) (Int32.ofNat j) S = some (Int32.ofNat (tr_D (wP w) a b + j))
  | 0, _, _, _, h, _, _, _ => absurd h (Nat.not_lt_zero _)
  | n + 1, a, b, j, h, hj, hla, hlb => by
    have hI := hg.1
    have h12 := hI.1
    have hp := wP_tree hI
    have ha := (sLive_lt hla).1
    have hb := (sLive_lt hlb).1
    have l1 := w_isLive_ok hR h12 ha (hI.b ha)
    have l2 := w_isLive_ok hR h12 hb (hI.b hb)
    rw [if_pos hla] at l1
    rw [if_pos hlb] at l2
    show fx_reach_32b (fx_reach_32 n) (Int32.ofNat a) (Int32.ofNat b) (Int32.ofNat j) S = _
    unfold fx_reach_32b
    rw [if_neg (fun q => by rw [show (24 : Int32) = Int32.ofNat 24 from rfl, n_le (by decide) (by omega)] at q; omega), l1, obs, if_neg n10, l2, obs, if_neg n10]
    by_cases e : a = b
    · subst e
      rw [if_pos rfl, tr_D_self, Nat.zero_add]
    · rw [if_neg (fun q => e ((n_inj (by omega) (by omega)).mp q)), n_succ]
      by_cases g : a ≤ b
      · have hlt : a < b := by omega
        have hpb := hp.2 b (by omega)
        rw [if_pos ((n_le (by omega) (by omega)).mpr g), ix_n (by omega) (by decide), obs, (hR.2.2.1 b hb).1 0 (by decide), par_eq hI hb (by omega), x_reach_loop hR hg n a (wP w b) (j + 1) (by omega) (by omega) hla (wp_live hg hlb (by omega)), tr_D_r hp hlt]
        rw [show tr_D (wP w) a (wP w b) + 1 + j = tr_D (wP w) a (wP w b) + (j + 1) by omega]
      · have hlt : b < a := by omega
        have hpa := hp.2 a (by omega)
        rw [if_neg (fun q => g ((n_le (by omega) (by omega)).mp q)), ix_n (by omega) (by decide), obs, (hR.2.2.1 a ha).1 0 (by decide), par_eq hI ha (by omega), x_reach_loop hR hg n (wP w a) b (j + 1) (by omega) (by omega) (wp_live hg hla (by omega)) hlb, tr_D_l hp hlt]
        rw [show tr_D (wP w) (wP w a) b + 1 + j = tr_D (wP w) (wP w a) b + (j + 1) by omega]
section
variable {S : Mem} {w : Wst} {ik : Option Wst} {bl : List Int32} {hd : Nat → Hd}
theorem reach_no {a b : Nat} (h : REL S w ik bl hd) (ha : a < wN w) (hb : b < wN w) (hl : ¬ (sLive w a = true ∧ sLive w b = true)) : fx_reach_32 LF (Int32.ofNat a) (Int32.ofNat b) 0 S = some (-2) := by
  obtain ⟨l1, -⟩ := live_both h ha
  obtain ⟨l2, -⟩ := live_both h hb
  show fx_reach_32b (fx_reach_32 2999) (Int32.ofNat a) (Int32.ofNat b) 0 S = _
  unfold fx_reach_32b
  rw [if_neg (by decide), l1, obs]
  by_cases e : sLive w a = true
  · rw [if_pos e, if_neg n10, l2, obs, if_neg (fun q => hl ⟨e, q⟩), if_pos rfl]
  · rw [if_neg e, if_pos rfl]
theorem e_reach (h : REL S w ik bl hd) (v1 v2 : Int32) : ∃ r S2, fx_reach v1 v2 S = some r ∧ fm_reach v1 v2 S = some (r, S2) ∧ REL S2 w ik bl hd := by
  have hg := h.2.2.1
  have hI := hg.1
  have h12 := hI.1
  unfold fx_reach fm_reach
  rcases actor_cases h v1 with ⟨a, ha, ha12, rfl, e1, e2⟩ | ⟨e1, e2⟩
  · rw [e1, obs, if_neg n10, e2, obs, if_neg n10]
    rcases actor_cases h v2 with ⟨b, hb, hb12, rfl, b1, b2⟩ | ⟨b1, b2⟩
    · obtain ⟨-, l1⟩ := live_both h ha
      obtain ⟨-, l2⟩ := live_both h hb
      rw [b1, obs, if_neg n10, b2, obs, if_neg n10, l1, obs, l2, obs]
      by_cases ga : sLive w a = true
      · by_cases gb : sLive w b = true
        · have hx := x_reach_loop h.1.1 hg LF a b 0 (by show a + b < 3000; omega) (by omega) ga gb
          rw [Nat.add_zero] at hx
          rw [if_pos ga, if_neg n10, if_pos gb, if_neg n10, show fx_reach_32 LF (Int32.ofNat a) (Int32.ofNat b) 0 S = _ from hx]
          obtain ⟨S1, q1, q2, q3⟩ := m_clear_loop (v1 := Int32.ofNat a) (v2 := Int32.ofNat b) 12 LF 0 S rfl (by decide) (fun a ha => absurd ha (Nat.not_lt_zero _))
          have hS698 : (up2 (up2 S1 715 a 0) 714 0 (Int32.ofNat a)) 698 = S 698 := by rw [up2_off (by decide), up2_off (by decide), q3 698 (by decide)]
          obtain ⟨S2, p1, p2⟩ := m_out_loop (en := wI w 10) hg ha12 gb 12 LF 0 [a] (up2 (up2 S1 715 a 0) 714 0 (Int32.ofNat a)) rfl (by decide) (Nat.zero_le _) (by rw [hS698]; exact h.2.1.1) (QI.one hI ga) ⟨fun i v hv => by
            have hi := (List.getElem?_eq_some_iff.mp hv).1
            have hi2 : i < 1 := hi
            have ei : i = 0 := by omega
            subst ei
            have ev : a = v := Option.some.inj hv
            rw [up2_self, ev], fun c hc => by
            rw [up2_off (by decide)]
            by_cases e : c = a
            · rw [e, up2_self, if_pos (List.mem_singleton.mpr rfl), tr_D_self]
              rfl
            · rw [up2_nf e, q2 c hc, if_neg (fun q => e (List.mem_singleton.mp q))]⟩ (fun j hj => absurd hj (Nat.not_lt_zero _))
          have hoff : ∀ b, b ≠ 714 → b ≠ 715 → S2 b = S b := fun b n1 n2 => by rw [p2 b n1 n2, up2_off n1, up2_off n2, q3 b n2]
          refine ⟨_, S2, rfl, ?_, h.same (fr.refl S) (fun _ _ => rfl) ⟨by rw [hoff 697 (by decide) (by decide)], by rw [hoff 697 (by decide) (by decide)], fun c hc => hoff c (by omega) (by omega)⟩ (by rw [hoff 698 (by decide) (by decide)]; exact h.2.1.1)⟩
          rw [show fm_reach_39 LF (Int32.ofNat a) (Int32.ofNat b) 0 S = _ from q1, ast_n (by rw [lnQ.2]; exact ha12) (by rw [lnQ.2]; decide), obs, ast_k 0 (by decide +kernel), obs]
          exact p1
        · rw [if_pos ga, if_neg n10, if_neg gb, if_pos rfl, reach_no h ha hb (fun q => gb q.2)]
          exact ⟨_, S, rfl, rfl, h⟩
      · rw [if_neg ga, if_pos rfl, reach_no h ha hb (fun q => ga q.1)]
        exact ⟨_, S, rfl, rfl, h⟩
    · rw [b1, obs, if_pos rfl, b2, obs, if_pos rfl]
      exact ⟨_, S, rfl, rfl, h⟩
  · rw [e1, obs, if_pos rfl, e2, obs, if_pos rfl]
    exact ⟨_, S, rfl, rfl, h⟩
end
