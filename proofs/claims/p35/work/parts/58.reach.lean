/-! 58: calls: reach -/
/-! a tree of numbers: who is above is smaller -/
def tr_P (p : Nat → Nat) : Prop := p 0 = 0 ∧ ∀ b, 0 < b → p b < b
def tr_d (p : Nat → Nat) : Nat → Nat → Nat → Nat
  | 0, _, _ => 0
  | n + 1, a, b => if a = b then 0 else if b < a then tr_d p n (p a) b + 1 else tr_d p n a (p b) + 1
theorem tr_d_eq {p : Nat → Nat} (hp : tr_P p) : ∀ (n m a b : Nat), a + b ≤ n → a + b ≤ m → tr_d p n a b = tr_d p m a b
  | 0, 0, _, _, _, _ => rfl
  | 0, m + 1, a, b, h, _ => by
    have e : a = b := by omega
    show 0 = if a = b then 0 else if b < a then tr_d p m (p a) b + 1 else tr_d p m a (p b) + 1
    rw [if_pos e]
  | n + 1, 0, a, b, _, h => by
    have e : a = b := by omega
    show (if a = b then 0 else if b < a then tr_d p n (p a) b + 1 else tr_d p n a (p b) + 1) = 0
    rw [if_pos e]
  | n + 1, m + 1, a, b, h1, h2 => by
    show (if a = b then 0 else if b < a then tr_d p n (p a) b + 1 else tr_d p n a (p b) + 1) = (if a = b then 0 else if b < a then tr_d p m (p a) b + 1 else tr_d p m a (p b) + 1)
    by_cases e : a = b
    · rw [if_pos e, if_pos e]
    · rw [if_neg e, if_neg e]
      by_cases g : b < a
      · have := hp.2 a (by omega)
        rw [if_pos g, if_pos g, tr_d_eq hp n m (p a) b (by omega) (by omega)]
      · have := hp.2 b (by omega)
        rw [if_neg g, if_neg g, tr_d_eq hp n m a (p b) (by omega) (by omega)]
theorem tr_d_le {p : Nat → Nat} : ∀ (n a b : Nat), tr_d p n a b ≤ n
  | 0, _, _ => Nat.le_refl _
  | n + 1, a, b => by
    show (if a = b then 0 else if b < a then tr_d p n (p a) b + 1 else tr_d p n a (p b) + 1) ≤ n + 1
    have h1 := tr_d_le (p := p) n (p a) b
    have h2 := tr_d_le (p := p) n a (p b)
    split
    · omega
    split <;> omega
def tr_D (p : Nat → Nat) (a b : Nat) : Nat := tr_d p (a + b) a b
theorem tr_D_self {p : Nat → Nat} {a : Nat} : tr_D p a a = 0 := by
  unfold tr_D
  cases a + a with
  | zero => rfl
  | succ n =>
    show (if a = a then 0 else if a < a then tr_d p n (p a) a + 1 else tr_d p n a (p a) + 1) = 0
    rw [if_pos rfl]
theorem tr_D_l {p : Nat → Nat} (hp : tr_P p) {a b : Nat} (h : b < a) : tr_D p a b = tr_D p (p a) b + 1 := by
  have ha := hp.2 a (by omega)
  unfold tr_D
  obtain ⟨n, hn⟩ : ∃ n, a + b = n + 1 := ⟨a + b - 1, by omega⟩
  rw [hn]
  show (if a = b then 0 else if b < a then tr_d p n (p a) b + 1 else tr_d p n a (p b) + 1) = _
  rw [if_neg (by omega), if_pos h, tr_d_eq hp n (p a + b) (p a) b (by omega) (Nat.le_refl _)]
theorem tr_D_r {p : Nat → Nat} (hp : tr_P p) {a b : Nat} (h : a < b) : tr_D p a b = tr_D p a (p b) + 1 := by
  have hb := hp.2 b (by omega)
  unfold tr_D
  obtain ⟨n, hn⟩ : ∃ n, a + b = n + 1 := ⟨a + b - 1, by omega⟩
  rw [hn]
  show (if a = b then 0 else if b < a then tr_d p n (p a) b + 1 else tr_d p n a (p b) + 1) = _
  rw [if_neg (by omega), if_neg (by omega), tr_d_eq hp n (a + p b) a (p b) (by omega) (Nat.le_refl _)]
theorem tr_D_le {p : Nat → Nat} {a b : Nat} : tr_D p a b ≤ a + b := tr_d_le _ _ _
def tr_it (p : Nat → Nat) : Nat → Nat → Nat
  | 0, x => x
  | k + 1, x => tr_it p k (p x)
theorem tr_it_s {p : Nat → Nat} : ∀ (k x : Nat), tr_it p (k + 1) x = p (tr_it p k x)
  | 0, _ => rfl
  | k + 1, x => tr_it_s k (p x)
/-- v is above x, or x -/
def tr_an (p : Nat → Nat) (v x : Nat) : Prop := ∃ k, tr_it p k x = v
theorem tr_an_self {p : Nat → Nat} {x : Nat} : tr_an p x x := ⟨0, rfl⟩
theorem tr_an_up {p : Nat → Nat} {v x : Nat} (h : tr_an p v (p x)) : tr_an p v x := by
  obtain ⟨k, hk⟩ := h
  exact ⟨k + 1, hk⟩
theorem tr_an_dn {p : Nat → Nat} {v x : Nat} (h : tr_an p v x) (hne : v ≠ x) : tr_an p v (p x) := by
  obtain ⟨k, hk⟩ := h
  cases k with
  | zero => exact absurd hk.symm hne
  | succ k => exact ⟨k, hk⟩
theorem tr_an_par {p : Nat → Nat} {v x : Nat} (h : tr_an p v x) : tr_an p (p v) x := by
  obtain ⟨k, hk⟩ := h
  exact ⟨k + 1, by rw [tr_it_s, hk]⟩
theorem tr_le {p : Nat → Nat} (hp : tr_P p) (x : Nat) : p x ≤ x := by
  by_cases h : 0 < x
  · exact Nat.le_of_lt (hp.2 x h)
  · have e : x = 0 := by omega
    rw [e, hp.1]
    exact Nat.le_refl _
theorem tr_an_le {p : Nat → Nat} (hp : tr_P p) {v : Nat} : ∀ (k x : Nat), tr_it p k x = v → v ≤ x
  | 0, x, h => by
    rw [← h]
    exact Nat.le_refl _
  | k + 1, x, h => Nat.le_trans (tr_an_le hp k (p x) h) (tr_le hp x)
theorem tr_an_0 {p : Nat → Nat} (hp : tr_P p) : ∀ (n x : Nat), x ≤ n → tr_an p 0 x
  | 0, x, h => by
    have e : x = 0 := by omega
    rw [e]
    exact tr_an_self
  | n + 1, x, h => by
    by_cases e : 0 < x
    · exact tr_an_up (tr_an_0 hp n (p x) (by have := hp.2 x e; omega))
    · have e2 : x = 0 := by omega
      rw [e2]
      exact tr_an_self
theorem tr_uniq {p : Nat → Nat} (hp : tr_P p) {c u : Nat} (hc : 0 < c) (hu : 0 < u) (he : p c = p u) : ∀ (n x : Nat), x ≤ n → tr_an p c x → tr_an p u x → c = u
  | 0, x, h, ⟨k, hk⟩, _ => by
    have := tr_an_le hp k x hk
    omega
  | n + 1, x, h, h1, h2 => by
    have hcp := hp.2 c hc
    have hup := hp.2 u hu
    by_cases e1 : c = x
    · by_cases e2 : u = x
      · rw [e1, e2]
      · obtain ⟨k, hk⟩ := tr_an_dn h2 e2
        have := tr_an_le hp k _ hk
        rw [← e1] at this
        omega
    · by_cases e2 : u = x
      · obtain ⟨k, hk⟩ := tr_an_dn h1 e1
        have := tr_an_le hp k _ hk
        rw [← e2] at this
        omega
      · obtain ⟨k, hk⟩ := h1
        have hx := tr_an_le hp k x hk
        have hxp := hp.2 x (by omega)
        exact tr_uniq hp hc hu he n (p x) (by omega) (tr_an_dn ⟨k, hk⟩ e1) (tr_an_dn h2 e2)
/-- one that isn't above f is one way farther than its parent -/
theorem tr_far {p : Nat → Nat} (hp : tr_P p) {v : Nat} (hv : 0 < v) : ∀ (n f : Nat), f ≤ n → ¬ tr_an p v f → tr_D p f v = tr_D p f (p v) + 1
  | n, f, h, hna => by
    have hvp := hp.2 v hv
    have hne : v ≠ f := fun e => hna (by rw [e]; exact tr_an_self)
    by_cases g : f < v
    · exact tr_D_r hp g
    · have g2 : v < f := by omega
      have hfp := hp.2 f (by omega)
      cases n with
      | zero => omega
      | succ n =>
        have ih := tr_far hp hv n (p f) (by omega) fun q => hna (tr_an_up q)
        rw [tr_D_l hp g2, tr_D_l hp (show p v < f by omega), ih]
/-- and one above f is one way nearer -/
theorem tr_near {p : Nat → Nat} (hp : tr_P p) {v : Nat} (hv : 0 < v) : ∀ (n f : Nat), f ≤ n → tr_an p v f → tr_D p f (p v) = tr_D p f v + 1
  | n, f, h, ⟨k, hk⟩ => by
    have hvp := hp.2 v hv
    have hle := tr_an_le hp k f hk
    by_cases e : v = f
    · subst e
      rw [tr_D_l hp hvp, tr_D_self, tr_D_self]
    · have g2 : v < f := by omega
      have hfp := hp.2 f (by omega)
      cases n with
      | zero => omega
      | succ n =>
        have ih := tr_near hp hv n (p f) (by omega) (tr_an_dn ⟨k, hk⟩ e)
        rw [tr_D_l hp g2, tr_D_l hp (show p v < f by omega), ih]
/-! parents as numbers -/
def wP (w : Wst) (b : Nat) : Nat := if 0 < b ∧ b < wN w then nu (aI (wA w b) 0) else 0
theorem wP_tree {w : Wst} (hI : Inv w) : tr_P (wP w) := by
  have h12 := hI.1
  refine ⟨if_neg (by omega), fun b hb => ?_⟩
  unfold wP
  by_cases h : 0 < b ∧ b < wN w
  · rw [if_pos h]
    exact okPar_lt (hI.2.1 b h.2).1 hb (by omega)
  · rw [if_neg h]
    exact hb
theorem par_iff {w : Wst} (hI : Inv w) {a b : Nat} (ha : a < wN w) (hb : b < 12) : aI (wA w a) 0 = Int32.ofNat b ↔ (0 < a ∧ wP w a = b) := by
  have h12 := hI.1
  unfold wP
  rcases (hI.2.1 a ha).1 with ⟨e1, e2⟩ | ⟨k, hk, e⟩
  · rw [e2]
    refine ⟨fun q => ?_, fun q => by have := q.1; omega⟩
    have h0 : Int32.ofNat b < 0 := by rw [← q]; decide
    exact absurd h0 (n_neg (by omega))
  · rw [if_pos ⟨by omega, ha⟩, e, nu_n (by omega), n_inj (by omega) (by omega)]
    exact ⟨fun q => ⟨by omega, q⟩, fun q => q.2⟩
theorem par_eq {w : Wst} (hI : Inv w) {a : Nat} (ha : a < wN w) (h0 : 0 < a) : aI (wA w a) 0 = Int32.ofNat (wP w a) := by
  have h12 := hI.1
  have := (wP_tree hI).2 a h0
  exact (par_iff hI ha (by omega)).mpr ⟨h0, rfl⟩
theorem wp_live {w : Wst} (hg : Good w) {a : Nat} (hl : sLive w a = true) (h0 : 0 < a) : sLive w (wP w a) = true := by
  obtain ⟨h1, h2⟩ := sLive_lt hl
  have := hg.2.1.1 a h1 h2 h0
  unfold wP
  rw [if_pos ⟨h0, h1⟩]
  exact this
def nxt (w : Wst) (a b : Nat) : Prop := (0 < a ∧ wP w a = b) ∨ (0 < b ∧ wP w b = a)
theorem an_live {w : Wst} (hg : Good w) : ∀ (k x v : Nat), tr_it (wP w) k x = v → sLive w x = true → sLive w v = true
  | 0, x, v, h, hl => by
    rw [← h]
    exact hl
  | k + 1, x, v, h, hl => by
    refine an_live hg k (wP w x) v h ?_
    by_cases e : 0 < x
    · exact wp_live hg hl e
    · have e2 : x = 0 := by omega
      rw [e2, (wP_tree hg.1).1]
      rw [e2] at hl
      exact hl
/-! who was found so far -/
def QI (w : Wst) (fr : Nat) (q : List Nat) : Prop := fr ∈ q ∧ q.Nodup ∧ (∀ u ∈ q, sLive w u = true) ∧ (∀ u ∈ q, ¬ tr_an (wP w) u fr → wP w u ∈ q) ∧ (∀ u ∈ q, ∀ c, 0 < c → wP w c = u → tr_an (wP w) c fr → c ∈ q)
theorem QI.one {w : Wst} (hI : Inv w) {fr : Nat} (hl : sLive w fr = true) : QI w fr [fr] := by
  have hp := wP_tree hI
  refine ⟨List.mem_singleton.mpr rfl, List.nodup_cons.mpr ⟨List.not_mem_nil, List.nodup_nil⟩, fun u hu => ?_, fun u hu hna => ?_, fun u hu c hc he ⟨k, hk⟩ => ?_⟩
  · rw [List.mem_singleton.mp hu]
    exact hl
  · rw [List.mem_singleton.mp hu] at hna
    exact absurd tr_an_self hna
  · have h1 := tr_an_le hp k fr hk
    have h2 := hp.2 c hc
    rw [List.mem_singleton.mp hu] at he
    omega
theorem QI.step {w : Wst} (hI : Inv w) {fr u a : Nat} {q : List Nat} (h : QI w fr q) (hu : u ∈ q) (ha : a ∉ q) (hl : sLive w a = true) (hn : nxt w a u) : tr_D (wP w) fr a = tr_D (wP w) fr u + 1 ∧ QI w fr (q ++ [a]) := by
  have hp := wP_tree hI
  obtain ⟨h1, h2, h3, h4, h5⟩ := h
  have hin : ∀ x, x ∈ q → x ∈ q ++ [a] := fun x hx => List.mem_append.mpr (Or.inl hx)
  have key : (tr_D (wP w) fr a = tr_D (wP w) fr u + 1) ∧ (¬ tr_an (wP w) a fr → wP w a ∈ q) ∧ (∀ c, 0 < c → wP w c = a → tr_an (wP w) c fr → c ∈ q) := by
    rcases hn with ⟨n1, n2⟩ | ⟨n1, n2⟩
    · have hna : ¬ tr_an (wP w) a fr := fun hx => ha (h5 u hu a n1 n2 hx)
      have hfar := tr_far hp n1 fr fr (Nat.le_refl _) hna
      rw [n2] at hfar
      refine ⟨hfar, fun _ => by rw [n2]; exact hu, fun c hc he hx => ?_⟩
      have := tr_an_par hx
      rw [he] at this
      exact absurd this hna
    · have hua : tr_an (wP w) u fr := Classical.byContradiction fun hx => ha (by rw [← n2]; exact h4 u hu hx)
      have hnear := tr_near hp n1 fr fr (Nat.le_refl _) hua
      rw [n2] at hnear
      have haa : tr_an (wP w) a fr := by
        rw [← n2]
        exact tr_an_par hua
      refine ⟨hnear, fun hx => absurd haa hx, fun c hc he hx => ?_⟩
      have e := tr_uniq hp hc n1 (he.trans n2.symm) fr fr (Nat.le_refl _) hx hua
      rw [e]
      exact hu
  obtain ⟨k1, k2, k3⟩ := key
  refine ⟨k1, hin _ h1, ?_, fun x hx => ?_, fun x hx hna => ?_, fun x hx c hc he han => ?_⟩
  · rw [List.nodup_append]
    refine ⟨h2, List.nodup_cons.mpr ⟨List.not_mem_nil, List.nodup_nil⟩, fun x hx y hy => ?_⟩
    rw [List.mem_singleton.mp hy]
    exact fun e => ha (by rw [← e]; exact hx)
  · rcases List.mem_append.mp hx with q | q
    · exact h3 x q
    · rw [List.mem_singleton.mp q]
      exact hl
  · rcases List.mem_append.mp hx with q | q
    · exact hin _ (h4 x q hna)
    · have e := List.mem_singleton.mp q
      rw [e] at hna ⊢
      exact hin _ (k2 hna)
  · rcases List.mem_append.mp hx with q | q
    · exact hin _ (h5 x q c hc he han)
    · have e := List.mem_singleton.mp q
      rw [e] at he
      exact hin _ (k3 c hc he han)
/-- with all neighbours of the found ones found, all live ones are -/
theorem QI.all {w : Wst} (hg : Good w) {fr : Nat} {q : List Nat} (h : QI w fr q) (hc : ∀ u ∈ q, ∀ b, sLive w b = true → nxt w b u → b ∈ q) : ∀ b, sLive w b = true → b ∈ q := by
  have hp := wP_tree hg.1
  have hanc : ∀ (k x : Nat), x ∈ q → tr_it (wP w) k x ∈ q := by
    intro k
    induction k with
    | zero => exact fun x hx => hx
    | succ k ih =>
      intro x hx
      refine ih (wP w x) ?_
      by_cases e : 0 < x
      · exact hc x hx _ (wp_live hg (h.2.2.1 x hx) e) (Or.inr ⟨e, rfl⟩)
      · have e2 : x = 0 := by omega
        rw [e2, hp.1]
        rw [e2] at hx
        exact hx
  obtain ⟨k, hk⟩ := tr_an_0 hp fr fr (Nat.le_refl _)
  have h0 : 0 ∈ q := by
    have := hanc k fr h.1
    rw [hk] at this
    exact this
  have hall : ∀ (n b : Nat), b ≤ n → sLive w b = true → b ∈ q := by
    intro n
    induction n with
    | zero =>
      intro b hb _
      have e : b = 0 := by omega
      rw [e]
      exact h0
    | succ n ih =>
      intro b hb hl
      by_cases e : 0 < b
      · have hlt := hp.2 b e
        exact hc (wP w b) (ih _ (by omega) (wp_live hg hl e)) b hl (Or.inl ⟨e, rfl⟩)
      · have e2 : b = 0 := by omega
        rw [e2]
        exact h0
  exact fun b hl => hall b b (Nat.le_refl _) hl
theorem nodup_lt : ∀ (n : Nat) (l : List Nat), l.Nodup → (∀ q ∈ l, q < n) → l.length ≤ n
  | 0, [], _, _ => Nat.le_refl _
  | 0, q :: l, _, h => absurd (h q List.mem_cons_self) (Nat.not_lt_zero _)
  | n + 1, l, hd, h => by
    have h1 := nodup_lt n (l.filter fun q => !(q == n)) (hd.filter _) (fun q hq => by
      rw [List.mem_filter] at hq
      have h3 := h q hq.1
      have h4 : q ≠ n := fun e => by
        rw [e] at hq
        simp at hq
      omega)
    have h2 : ∀ (l : List Nat), l.Nodup → l.length ≤ (l.filter fun q => !(q == n)).length + 1 := by
      intro l
      induction l with
      | nil => intro _; simp
      | cons q l ih =>
        intro hd
        have hd2 := List.nodup_cons.mp hd
        by_cases e : q = n
        · have : l.filter (fun q => !(q == n)) = l := List.filter_eq_self.mpr fun x hx => by
            have : x ≠ n := fun e2 => hd2.1 (by rw [e, ← e2]; exact hx)
            simp [this]
          rw [List.filter_cons_of_neg (by simp [e]), this, List.length_cons]
          exact Nat.le_refl _
        · rw [List.filter_cons_of_pos (by simp [e]), List.length_cons, List.length_cons]
          have := ih hd2.2
          omega
    have := h2 l hd
    omega
theorem QI.len {w : Wst} {fr : Nat} {q : List Nat} (h : QI w fr q) : q.length ≤ wN w := nodup_lt _ _ h.2.1 fun u hu => (sLive_lt (h.2.2.1 u hu)).1
/-! the reference's search -/
def QR (w : Wst) (S : Mem) (fr : Nat) (q : List Nat) : Prop := (∀ i v, q[i]? = some v → S 714 i = Int32.ofNat v) ∧ ∀ a, a < 12 → S 715 a = if a ∈ q then Int32.ofNat (tr_D (wP w) fr a) else -2
/-! the class's climb -/
section
variable {S : Mem} {w : Wst} {ik : Option Wst} {bl : List Int32} {hd : Nat → Hd}
end
