/-! 04: the instructions that leave the cells -/
def x_push (v : Int32) (n : Nat) : XI := xiN fun L st h => some (n, L, .inl v :: st, h)
theorem s_iconst {xm : Nat → XY} {scr : Nat × (Nat → Int32)} {Y : XY} {pc : Nat} {z : Int} {v : Int32} (hd : decode Y.2.1 pc = .ok (.iconst z, 1)) (hv : Int32.ofInt z = v) : XSnd xm scr Y pc (x_push v (pc + 1)) := by
  refine XSnd_P fun L st h pc1 L1 st1 h1 ee => ?_
  cases ee
  refine ⟨rfl, fun p l e R s m args below meth c β D cA d m0 z0 Q X hm0 hz0 hmR hzR k H locs ls hP hF hl => ?_⟩
  obtain ⟨hx, hb, hml, hown, hts, hK, -⟩ := X
  exact lv_iconst hx hb hd hv (k H locs ls hP hF hl)
theorem s_bipush {xm : Nat → XY} {scr : Nat × (Nat → Int32)} {Y : XY} {pc : Nat} {z : Int} {v : Int32} (hd : decode Y.2.1 pc = .ok (.bipush z, 2)) (hv : (Int8.ofInt z).toInt32 = v) : XSnd xm scr Y pc (x_push v (pc + 2)) := by
  refine XSnd_P fun L st h pc1 L1 st1 h1 ee => ?_
  cases ee
  refine ⟨rfl, fun p l e R s m args below meth c β D cA d m0 z0 Q X hm0 hz0 hmR hzR k H locs ls hP hF hl => ?_⟩
  obtain ⟨hx, hb, hml, hown, hts, hK, -⟩ := X
  exact lv_bipush hx hb hd hv (k H locs ls hP hF hl)
theorem s_sipush {xm : Nat → XY} {scr : Nat × (Nat → Int32)} {Y : XY} {pc : Nat} {z : Int} {v : Int32} (hd : decode Y.2.1 pc = .ok (.sipush z, 3)) (hv : (Int16.ofInt z).toInt32 = v) : XSnd xm scr Y pc (x_push v (pc + 3)) := by
  refine XSnd_P fun L st h pc1 L1 st1 h1 ee => ?_
  cases ee
  refine ⟨rfl, fun p l e R s m args below meth c β D cA d m0 z0 Q X hm0 hz0 hmR hzR k H locs ls hP hF hl => ?_⟩
  obtain ⟨hx, hb, hml, hown, hts, hK, -⟩ := X
  exact lv_sipush hx hb hd hv (k H locs ls hP hF hl)
theorem s_ldc {xm : Nat → XY} {scr : Nat × (Nat → Int32)} {Y : XY} {pc : Nat} {idx : Nat} {v : Int32} (hd : decode Y.2.1 pc = .ok (.ldc idx, 2)) (hw : Cond.constant Y.1.cls idx v ∈ xtbl) : XSnd xm scr Y pc (x_push v (pc + 2)) := by
  refine XSnd_P fun L st h pc1 L1 st1 h1 ee => ?_
  cases ee
  refine ⟨rfl, fun p l e R s m args below meth c β D cA d m0 z0 Q X hm0 hz0 hmR hzR k H locs ls hP hF hl => ?_⟩
  obtain ⟨hx, hb, hml, hown, hts, hK, -⟩ := X
  exact lv_ldc hx hb hown (hts _ hw) hd (k H locs ls hP hF hl)
theorem s_ldcw {xm : Nat → XY} {scr : Nat × (Nat → Int32)} {Y : XY} {pc : Nat} {idx : Nat} {v : Int32} (hd : decode Y.2.1 pc = .ok (.ldc_w idx, 3)) (hw : Cond.constant Y.1.cls idx v ∈ xtbl) : XSnd xm scr Y pc (x_push v (pc + 3)) := by
  refine XSnd_P fun L st h pc1 L1 st1 h1 ee => ?_
  cases ee
  refine ⟨rfl, fun p l e R s m args below meth c β D cA d m0 z0 Q X hm0 hz0 hmR hzR k H locs ls hP hF hl => ?_⟩
  obtain ⟨hx, hb, hml, hown, hts, hK, -⟩ := X
  exact lv_ldcw hx hb hown (hts _ hw) hd (k H locs ls hP hF hl)
def x_iload (i n : Nat) : XI := xiN fun L st h => match xget L i with
  | some (.inl x) => some (n, L, .inl x :: st, h)
  | _ => none
def x_aload (i n : Nat) : XI := xiN fun L st h => match xget L i with
  | some (.inr (some r)) => some (n, L, .inr (some r) :: st, h)
  | _ => none
theorem s_iload_n {xm : Nat → XY} {scr : Nat × (Nat → Int32)} {Y : XY} {pc : Nat} {i : Nat} {j : Fin 4} (hi : (j : Nat) = i) (hd : decode Y.2.1 pc = .ok (.iload_n j, 1)) : XSnd xm scr Y pc (x_iload i (pc + 1)) := by
  refine XSnd_P fun L st h pc1 L1 st1 h1 ee => ?_
  split at ee
  · rename_i x hg
    cases ee
    refine ⟨rfl, fun p l e R s m args below meth c β D cA d m0 z0 Q X hm0 hz0 hmR hzR k H locs ls hP hF hl => ?_⟩
    obtain ⟨hx, hb, hml, hown, hts, hK, -⟩ := X
    exact lv_iload_n hx hb hd hi (xls_mem hl (xget_mem hg)) (k H locs ls hP hF hl)
  · cases ee
theorem s_iload {xm : Nat → XY} {scr : Nat × (Nat → Int32)} {Y : XY} {pc : Nat} {i : Nat}  (hd : decode Y.2.1 pc = .ok (.iload i, 2)) : XSnd xm scr Y pc (x_iload i (pc + 2)) := by
  refine XSnd_P fun L st h pc1 L1 st1 h1 ee => ?_
  split at ee
  · rename_i x hg
    cases ee
    refine ⟨rfl, fun p l e R s m args below meth c β D cA d m0 z0 Q X hm0 hz0 hmR hzR k H locs ls hP hF hl => ?_⟩
    obtain ⟨hx, hb, hml, hown, hts, hK, -⟩ := X
    exact lv_iload hx hb hd (xls_mem hl (xget_mem hg)) (k H locs ls hP hF hl)
  · cases ee
theorem s_aload_n {xm : Nat → XY} {scr : Nat × (Nat → Int32)} {Y : XY} {pc : Nat} {i : Nat} {j : Fin 4} (hi : (j : Nat) = i) (hd : decode Y.2.1 pc = .ok (.aload_n j, 1)) : XSnd xm scr Y pc (x_aload i (pc + 1)) := by
  refine XSnd_P fun L st h pc1 L1 st1 h1 ee => ?_
  split at ee
  · rename_i r hg
    cases ee
    refine ⟨rfl, fun p l e R s m args below meth c β D cA d m0 z0 Q X hm0 hz0 hmR hzR k H locs ls hP hF hl => ?_⟩
    obtain ⟨hx, hb, hml, hown, hts, hK, -⟩ := X
    rcases r with _ | r
    · exact lv_aload_n hx hb hd hi (xls_mem hl (xget_mem hg)) (k H locs ls hP hF hl)
    · exact lv_aload_n hx hb hd hi (xls_mem hl (xget_mem hg)) (k H locs ls hP hF hl)
  · cases ee
theorem s_aload {xm : Nat → XY} {scr : Nat × (Nat → Int32)} {Y : XY} {pc : Nat} {i : Nat}  (hd : decode Y.2.1 pc = .ok (.aload i, 2)) : XSnd xm scr Y pc (x_aload i (pc + 2)) := by
  refine XSnd_P fun L st h pc1 L1 st1 h1 ee => ?_
  split at ee
  · rename_i r hg
    cases ee
    refine ⟨rfl, fun p l e R s m args below meth c β D cA d m0 z0 Q X hm0 hz0 hmR hzR k H locs ls hP hF hl => ?_⟩
    obtain ⟨hx, hb, hml, hown, hts, hK, -⟩ := X
    rcases r with _ | r
    · exact lv_aload hx hb hd (xls_mem hl (xget_mem hg)) (k H locs ls hP hF hl)
    · exact lv_aload hx hb hd (xls_mem hl (xget_mem hg)) (k H locs ls hP hF hl)
  · cases ee
def x_istore (i n : Nat) : XI := xiN fun L st h => match st with
  | .inl x :: st => some (n, xput L i (.inl x), st, h)
  | _ => none
def x_astore (i n : Nat) : XI := xiN fun L st h => match st with
  | .inr (some r) :: st => some (n, xput L i (.inr (some r)), st, h)
  | _ => none
theorem s_istore_n {xm : Nat → XY} {scr : Nat × (Nat → Int32)} {Y : XY} {pc : Nat} {i : Nat} {j : Fin 4} (hi : (j : Nat) = i) (hd : decode Y.2.1 pc = .ok (.istore_n j, 1)) (hn : i < Y.2.2.1) : XSnd xm scr Y pc (x_istore i (pc + 1)) := by
  refine XSnd_P fun L st h pc1 L1 st1 h1 ee => ?_
  split at ee
  · rename_i x st0
    cases ee
    refine ⟨rfl, fun p l e R s m args below meth c β D cA d m0 z0 Q X hm0 hz0 hmR hzR k H locs ls hP hF hl => ?_⟩
    obtain ⟨hx, hb, hml, hown, hts, hK, -⟩ := X
    exact lv_istore_n hx hb hd hi hl hn (xls_put β L i (.inl x)) (fun ls2 hl2 => k H locs ls2 hP hF hl2)
  · cases ee
theorem s_istore {xm : Nat → XY} {scr : Nat × (Nat → Int32)} {Y : XY} {pc : Nat} {i : Nat}  (hd : decode Y.2.1 pc = .ok (.istore i, 2)) (hn : i < Y.2.2.1) : XSnd xm scr Y pc (x_istore i (pc + 2)) := by
  refine XSnd_P fun L st h pc1 L1 st1 h1 ee => ?_
  split at ee
  · rename_i x st0
    cases ee
    refine ⟨rfl, fun p l e R s m args below meth c β D cA d m0 z0 Q X hm0 hz0 hmR hzR k H locs ls hP hF hl => ?_⟩
    obtain ⟨hx, hb, hml, hown, hts, hK, -⟩ := X
    exact lv_istore hx hb hd hl hn (xls_put β L i (.inl x)) (fun ls2 hl2 => k H locs ls2 hP hF hl2)
  · cases ee
theorem s_astore_n {xm : Nat → XY} {scr : Nat × (Nat → Int32)} {Y : XY} {pc : Nat} {i : Nat} {j : Fin 4} (hi : (j : Nat) = i) (hd : decode Y.2.1 pc = .ok (.astore_n j, 1)) (hn : i < Y.2.2.1) : XSnd xm scr Y pc (x_astore i (pc + 1)) := by
  refine XSnd_P fun L st h pc1 L1 st1 h1 ee => ?_
  split at ee
  · rename_i r st0
    cases ee
    refine ⟨rfl, fun p l e R s m args below meth c β D cA d m0 z0 Q X hm0 hz0 hmR hzR k H locs ls hP hF hl => ?_⟩
    obtain ⟨hx, hb, hml, hown, hts, hK, -⟩ := X
    rcases r with _ | r
    · exact lv_astore_n hx hb hd hi hl hn (xls_put β L i (.inr (some none))) (fun ls2 hl2 => k H locs ls2 hP hF hl2)
    · exact lv_astore_n hx hb hd hi hl hn (xls_put β L i (.inr (some (some r)))) (fun ls2 hl2 => k H locs ls2 hP hF hl2)
  · cases ee
theorem s_astore {xm : Nat → XY} {scr : Nat × (Nat → Int32)} {Y : XY} {pc : Nat} {i : Nat}  (hd : decode Y.2.1 pc = .ok (.astore i, 2)) (hn : i < Y.2.2.1) : XSnd xm scr Y pc (x_astore i (pc + 2)) := by
  refine XSnd_P fun L st h pc1 L1 st1 h1 ee => ?_
  split at ee
  · rename_i r st0
    cases ee
    refine ⟨rfl, fun p l e R s m args below meth c β D cA d m0 z0 Q X hm0 hz0 hmR hzR k H locs ls hP hF hl => ?_⟩
    obtain ⟨hx, hb, hml, hown, hts, hK, -⟩ := X
    rcases r with _ | r
    · exact lv_astore hx hb hd hl hn (xls_put β L i (.inr (some none))) (fun ls2 hl2 => k H locs ls2 hP hF hl2)
    · exact lv_astore hx hb hd hl hn (xls_put β L i (.inr (some (some r)))) (fun ls2 hl2 => k H locs ls2 hP hF hl2)
  · cases ee
def x_iinc (i : Nat) (a : Int32) (n : Nat) : XI := xiN fun L st h => match xget L i with
  | some (.inl x) => some (n, xput L i (.inl (x + a)), st, h)
  | _ => none
theorem s_iinc {xm : Nat → XY} {scr : Nat × (Nat → Int32)} {Y : XY} {pc : Nat} {i : Nat} {z : Int} {a : Int32} (hd : decode Y.2.1 pc = .ok (.iinc i z, 3)) (ha : Int32.ofInt z = a) (hn : i < Y.2.2.1) : XSnd xm scr Y pc (x_iinc i a (pc + 3)) := by
  refine XSnd_P fun L st h pc1 L1 st1 h1 ee => ?_
  split at ee
  · rename_i x hg
    cases ee
    refine ⟨rfl, fun p l e R s m args below meth c β D cA d m0 z0 Q X hm0 hz0 hmR hzR k H locs ls hP hF hl => ?_⟩
    obtain ⟨hx, hb, hml, hown, hts, hK, -⟩ := X
    obtain ⟨q, hq⟩ := List.getElem?_of_mem (List.mem_map.mpr ⟨(i, .inl x), xget_mem hg, rfl⟩ : (i, Value.int x) ∈ xls β L)
    exact lv_iinc hx hb hd hl hq (by rw [ha]) hn (xls_put β L i (.inl (x + a))) (fun ls2 hl2 => k H locs ls2 hP hF hl2)
  · cases ee
def x_dup (n : Nat) : XI := xiN fun L st h => match st with
  | v :: st => some (n, L, v :: v :: st, h)
  | _ => none
theorem s_dup {xm : Nat → XY} {scr : Nat × (Nat → Int32)} {Y : XY} {pc : Nat} (hd : decode Y.2.1 pc = .ok (.dup, 1)) : XSnd xm scr Y pc (x_dup (pc + 1)) := by
  refine XSnd_P fun L st h pc1 L1 st1 h1 ee => ?_
  split at ee
  · cases ee
    refine ⟨rfl, fun p l e R s m args below meth c β D cA d m0 z0 Q X hm0 hz0 hmR hzR k H locs ls hP hF hl => ?_⟩
    obtain ⟨hx, hb, hml, hown, hts, hK, -⟩ := X
    exact lv_dup hx hb hd (xv_cat _ _) (k H locs ls hP hF hl)
  · cases ee
def x_pop (n : Nat) : XI := xiN fun L st h => match st with
  | _ :: st => some (n, L, st, h)
  | _ => none
theorem s_pop {xm : Nat → XY} {scr : Nat × (Nat → Int32)} {Y : XY} {pc : Nat} (hd : decode Y.2.1 pc = .ok (.pop, 1)) : XSnd xm scr Y pc (x_pop (pc + 1)) := by
  refine XSnd_P fun L st h pc1 L1 st1 h1 ee => ?_
  split at ee
  · cases ee
    refine ⟨rfl, fun p l e R s m args below meth c β D cA d m0 z0 Q X hm0 hz0 hmR hzR k H locs ls hP hF hl => ?_⟩
    obtain ⟨hx, hb, hml, hown, hts, hK, -⟩ := X
    exact lv_pop hx hb hd (xv_cat _ _) (k H locs ls hP hF hl)
  · cases ee
def x_dup_x1 (n : Nat) : XI := xiN fun L st h => match st with
  | v :: w :: st => some (n, L, v :: w :: v :: st, h)
  | _ => none
theorem s_dup_x1 {xm : Nat → XY} {scr : Nat × (Nat → Int32)} {Y : XY} {pc : Nat} (hd : decode Y.2.1 pc = .ok (.dup_x1, 1)) : XSnd xm scr Y pc (x_dup_x1 (pc + 1)) := by
  refine XSnd_P fun L st h pc1 L1 st1 h1 ee => ?_
  split at ee
  · cases ee
    refine ⟨rfl, fun p l e R s m args below meth c β D cA d m0 z0 Q X hm0 hz0 hmR hzR k H locs ls hP hF hl => ?_⟩
    obtain ⟨hx, hb, hml, hown, hts, hK, -⟩ := X
    exact lv_dup_x1 hx hb hd (xv_cat _ _) (xv_cat _ _) (k H locs ls hP hF hl)
  · cases ee
def x_dup_x2 (n : Nat) : XI := xiN fun L st h => match st with
  | v :: w :: u :: st => some (n, L, v :: w :: u :: v :: st, h)
  | _ => none
theorem s_dup_x2 {xm : Nat → XY} {scr : Nat × (Nat → Int32)} {Y : XY} {pc : Nat} (hd : decode Y.2.1 pc = .ok (.dup_x2, 1)) : XSnd xm scr Y pc (x_dup_x2 (pc + 1)) := by
  refine XSnd_P fun L st h pc1 L1 st1 h1 ee => ?_
  split at ee
  · cases ee
    refine ⟨rfl, fun p l e R s m args below meth c β D cA d m0 z0 Q X hm0 hz0 hmR hzR k H locs ls hP hF hl => ?_⟩
    obtain ⟨hx, hb, hml, hown, hts, hK, -⟩ := X
    exact lv_dup_x2 hx hb hd (xv_cat _ _) (xv_cat _ _) (xv_cat _ _) (k H locs ls hP hF hl)
  · cases ee
def x_dup2 (n : Nat) : XI := xiN fun L st h => match st with
  | v :: w :: st => some (n, L, v :: w :: v :: w :: st, h)
  | _ => none
theorem s_dup2 {xm : Nat → XY} {scr : Nat × (Nat → Int32)} {Y : XY} {pc : Nat} (hd : decode Y.2.1 pc = .ok (.dup2, 1)) : XSnd xm scr Y pc (x_dup2 (pc + 1)) := by
  refine XSnd_P fun L st h pc1 L1 st1 h1 ee => ?_
  split at ee
  · cases ee
    refine ⟨rfl, fun p l e R s m args below meth c β D cA d m0 z0 Q X hm0 hz0 hmR hzR k H locs ls hP hF hl => ?_⟩
    obtain ⟨hx, hb, hml, hown, hts, hK, -⟩ := X
    exact lv_dup2_11 hx hb hd (xv_cat _ _) (xv_cat _ _) (k H locs ls hP hF hl)
  · cases ee
def x_iadd (n : Nat) : XI := xiN fun L st h => match st with
  | .inl y :: .inl x :: st => some (n, L, .inl (x + y) :: st, h)
  | _ => none
theorem s_iadd {xm : Nat → XY} {scr : Nat × (Nat → Int32)} {Y : XY} {pc : Nat} (hd : decode Y.2.1 pc = .ok (.iadd, 1)) : XSnd xm scr Y pc (x_iadd (pc + 1)) := by
  refine XSnd_P fun L st h pc1 L1 st1 h1 ee => ?_
  split at ee
  · cases ee
    refine ⟨rfl, fun p l e R s m args below meth c β D cA d m0 z0 Q X hm0 hz0 hmR hzR k H locs ls hP hF hl => ?_⟩
    obtain ⟨hx, hb, hml, hown, hts, hK, -⟩ := X
    exact lv_iadd hx hb hd (k H locs ls hP hF hl)
  · cases ee
def x_isub (n : Nat) : XI := xiN fun L st h => match st with
  | .inl y :: .inl x :: st => some (n, L, .inl (x - y) :: st, h)
  | _ => none
theorem s_isub {xm : Nat → XY} {scr : Nat × (Nat → Int32)} {Y : XY} {pc : Nat} (hd : decode Y.2.1 pc = .ok (.isub, 1)) : XSnd xm scr Y pc (x_isub (pc + 1)) := by
  refine XSnd_P fun L st h pc1 L1 st1 h1 ee => ?_
  split at ee
  · cases ee
    refine ⟨rfl, fun p l e R s m args below meth c β D cA d m0 z0 Q X hm0 hz0 hmR hzR k H locs ls hP hF hl => ?_⟩
    obtain ⟨hx, hb, hml, hown, hts, hK, -⟩ := X
    exact lv_isub hx hb hd (k H locs ls hP hF hl)
  · cases ee
def x_imul (n : Nat) : XI := xiN fun L st h => match st with
  | .inl y :: .inl x :: st => some (n, L, .inl (x * y) :: st, h)
  | _ => none
theorem s_imul {xm : Nat → XY} {scr : Nat × (Nat → Int32)} {Y : XY} {pc : Nat} (hd : decode Y.2.1 pc = .ok (.imul, 1)) : XSnd xm scr Y pc (x_imul (pc + 1)) := by
  refine XSnd_P fun L st h pc1 L1 st1 h1 ee => ?_
  split at ee
  · cases ee
    refine ⟨rfl, fun p l e R s m args below meth c β D cA d m0 z0 Q X hm0 hz0 hmR hzR k H locs ls hP hF hl => ?_⟩
    obtain ⟨hx, hb, hml, hown, hts, hK, -⟩ := X
    exact lv_imul hx hb hd (k H locs ls hP hF hl)
  · cases ee
def x_iand (n : Nat) : XI := xiN fun L st h => match st with
  | .inl y :: .inl x :: st => some (n, L, .inl (x &&& y) :: st, h)
  | _ => none
theorem s_iand {xm : Nat → XY} {scr : Nat × (Nat → Int32)} {Y : XY} {pc : Nat} (hd : decode Y.2.1 pc = .ok (.iand, 1)) : XSnd xm scr Y pc (x_iand (pc + 1)) := by
  refine XSnd_P fun L st h pc1 L1 st1 h1 ee => ?_
  split at ee
  · cases ee
    refine ⟨rfl, fun p l e R s m args below meth c β D cA d m0 z0 Q X hm0 hz0 hmR hzR k H locs ls hP hF hl => ?_⟩
    obtain ⟨hx, hb, hml, hown, hts, hK, -⟩ := X
    exact lv_iand hx hb hd (k H locs ls hP hF hl)
  · cases ee
def x_ior (n : Nat) : XI := xiN fun L st h => match st with
  | .inl y :: .inl x :: st => some (n, L, .inl (x ||| y) :: st, h)
  | _ => none
theorem s_ior {xm : Nat → XY} {scr : Nat × (Nat → Int32)} {Y : XY} {pc : Nat} (hd : decode Y.2.1 pc = .ok (.ior, 1)) : XSnd xm scr Y pc (x_ior (pc + 1)) := by
  refine XSnd_P fun L st h pc1 L1 st1 h1 ee => ?_
  split at ee
  · cases ee
    refine ⟨rfl, fun p l e R s m args below meth c β D cA d m0 z0 Q X hm0 hz0 hmR hzR k H locs ls hP hF hl => ?_⟩
    obtain ⟨hx, hb, hml, hown, hts, hK, -⟩ := X
    exact lv_ior hx hb hd (k H locs ls hP hF hl)
  · cases ee
def x_ixor (n : Nat) : XI := xiN fun L st h => match st with
  | .inl y :: .inl x :: st => some (n, L, .inl (x ^^^ y) :: st, h)
  | _ => none
theorem s_ixor {xm : Nat → XY} {scr : Nat × (Nat → Int32)} {Y : XY} {pc : Nat} (hd : decode Y.2.1 pc = .ok (.ixor, 1)) : XSnd xm scr Y pc (x_ixor (pc + 1)) := by
  refine XSnd_P fun L st h pc1 L1 st1 h1 ee => ?_
  split at ee
  · cases ee
    refine ⟨rfl, fun p l e R s m args below meth c β D cA d m0 z0 Q X hm0 hz0 hmR hzR k H locs ls hP hF hl => ?_⟩
    obtain ⟨hx, hb, hml, hown, hts, hK, -⟩ := X
    exact lv_ixor hx hb hd (k H locs ls hP hF hl)
  · cases ee
def x_ishl (n : Nat) : XI := xiN fun L st h => match st with
  | .inl y :: .inl x :: st => some (n, L, .inl (x <<< (y &&& 31)) :: st, h)
  | _ => none
theorem s_ishl {xm : Nat → XY} {scr : Nat × (Nat → Int32)} {Y : XY} {pc : Nat} (hd : decode Y.2.1 pc = .ok (.ishl, 1)) : XSnd xm scr Y pc (x_ishl (pc + 1)) := by
  refine XSnd_P fun L st h pc1 L1 st1 h1 ee => ?_
  split at ee
  · cases ee
    refine ⟨rfl, fun p l e R s m args below meth c β D cA d m0 z0 Q X hm0 hz0 hmR hzR k H locs ls hP hF hl => ?_⟩
    obtain ⟨hx, hb, hml, hown, hts, hK, -⟩ := X
    exact lv_ishl hx hb hd (k H locs ls hP hF hl)
  · cases ee
def x_iushr (n : Nat) : XI := xiN fun L st h => match st with
  | .inl y :: .inl x :: st => some (n, L, .inl ((x.toUInt32 >>> (y.toUInt32 &&& Int32.toUInt32 31)).toInt32) :: st, h)
  | _ => none
theorem s_iushr {xm : Nat → XY} {scr : Nat × (Nat → Int32)} {Y : XY} {pc : Nat} (hd : decode Y.2.1 pc = .ok (.iushr, 1)) : XSnd xm scr Y pc (x_iushr (pc + 1)) := by
  refine XSnd_P fun L st h pc1 L1 st1 h1 ee => ?_
  split at ee
  · cases ee
    refine ⟨rfl, fun p l e R s m args below meth c β D cA d m0 z0 Q X hm0 hz0 hmR hzR k H locs ls hP hF hl => ?_⟩
    obtain ⟨hx, hb, hml, hown, hts, hK, -⟩ := X
    exact lv_iushr hx hb hd rfl (k H locs ls hP hF hl)
  · cases ee
def x_ineg (n : Nat) : XI := xiN fun L st h => match st with
  | .inl x :: st => some (n, L, .inl (-x) :: st, h)
  | _ => none
theorem s_ineg {xm : Nat → XY} {scr : Nat × (Nat → Int32)} {Y : XY} {pc : Nat} (hd : decode Y.2.1 pc = .ok (.ineg, 1)) : XSnd xm scr Y pc (x_ineg (pc + 1)) := by
  refine XSnd_P fun L st h pc1 L1 st1 h1 ee => ?_
  split at ee
  · cases ee
    refine ⟨rfl, fun p l e R s m args below meth c β D cA d m0 z0 Q X hm0 hz0 hmR hzR k H locs ls hP hF hl => ?_⟩
    obtain ⟨hx, hb, hml, hown, hts, hK, -⟩ := X
    exact lv_ineg hx hb hd (k H locs ls hP hF hl)
  · cases ee
def x_idiv (n : Nat) : XI := xiN fun L st h => match st with
  | .inl y :: .inl x :: st => if y = 0 then none else some (n, L, .inl (x / y) :: st, h)
  | _ => none
theorem s_idiv {xm : Nat → XY} {scr : Nat × (Nat → Int32)} {Y : XY} {pc : Nat} (hd : decode Y.2.1 pc = .ok (.idiv, 1)) : XSnd xm scr Y pc (x_idiv (pc + 1)) := by
  refine XSnd_P fun L st h pc1 L1 st1 h1 ee => ?_
  split at ee
  · split at ee
    · cases ee
    rename_i hne
    cases ee
    refine ⟨rfl, fun p l e R s m args below meth c β D cA d m0 z0 Q X hm0 hz0 hmR hzR k H locs ls hP hF hl => ?_⟩
    obtain ⟨hx, hb, hml, hown, hts, hK, -⟩ := X
    exact lv_idiv hx hb hd hne (k H locs ls hP hF hl)
  · cases ee
def x_irem (n : Nat) : XI := xiN fun L st h => match st with
  | .inl y :: .inl x :: st => if y = 0 then none else some (n, L, .inl (x - x / y * y) :: st, h)
  | _ => none
theorem s_irem {xm : Nat → XY} {scr : Nat × (Nat → Int32)} {Y : XY} {pc : Nat} (hd : decode Y.2.1 pc = .ok (.irem, 1)) : XSnd xm scr Y pc (x_irem (pc + 1)) := by
  refine XSnd_P fun L st h pc1 L1 st1 h1 ee => ?_
  split at ee
  · split at ee
    · cases ee
    rename_i hne
    cases ee
    refine ⟨rfl, fun p l e R s m args below meth c β D cA d m0 z0 Q X hm0 hz0 hmR hzR k H locs ls hP hF hl => ?_⟩
    obtain ⟨hx, hb, hml, hown, hts, hK, -⟩ := X
    exact lv_irem hx hb hd hne (k H locs ls hP hF hl)
  · cases ee
def x_goto (t : Nat) : XI := xiN fun L st h => some (t, L, st, h)
theorem s_goto {xm : Nat → XY} {scr : Nat × (Nat → Int32)} {Y : XY} {pc : Nat} {off : Int} {t : Nat} (hd : decode Y.2.1 pc = .ok (.goto off, 3)) (ht : (pc : Int) + off = (t : Int)) : XSnd xm scr Y pc (x_goto t) := by
  refine XSnd_P fun L st h pc1 L1 st1 h1 ee => ?_
  cases ee
  refine ⟨rfl, fun p l e R s m args below meth c β D cA d m0 z0 Q X hm0 hz0 hmR hzR k H locs ls hP hF hl => ?_⟩
  obtain ⟨hx, hb, hml, hown, hts, hK, -⟩ := X
  exact lv_goto hx hb hd ht (k H locs ls hP hF hl)
def x_ifeq (t n : Nat) : XI := xiN fun L st h => match st with
  | .inl x :: st => if x = 0 then some (t, L, st, h) else some (n, L, st, h)
  | _ => none
def x_ifne (t n : Nat) : XI := xiN fun L st h => match st with
  | .inl x :: st => if ¬ x = 0 then some (t, L, st, h) else some (n, L, st, h)
  | _ => none
def x_iflt (t n : Nat) : XI := xiN fun L st h => match st with
  | .inl x :: st => if x < 0 then some (t, L, st, h) else some (n, L, st, h)
  | _ => none
def x_ifge (t n : Nat) : XI := xiN fun L st h => match st with
  | .inl x :: st => if 0 ≤ x then some (t, L, st, h) else some (n, L, st, h)
  | _ => none
def x_ifgt (t n : Nat) : XI := xiN fun L st h => match st with
  | .inl x :: st => if 0 < x then some (t, L, st, h) else some (n, L, st, h)
  | _ => none
def x_ifle (t n : Nat) : XI := xiN fun L st h => match st with
  | .inl x :: st => if x ≤ 0 then some (t, L, st, h) else some (n, L, st, h)
  | _ => none
def x_iceq (t n : Nat) : XI := xiN fun L st h => match st with
  | .inl y :: .inl x :: st => if x = y then some (t, L, st, h) else some (n, L, st, h)
  | _ => none
def x_icne (t n : Nat) : XI := xiN fun L st h => match st with
  | .inl y :: .inl x :: st => if ¬ x = y then some (t, L, st, h) else some (n, L, st, h)
  | _ => none
def x_iclt (t n : Nat) : XI := xiN fun L st h => match st with
  | .inl y :: .inl x :: st => if x < y then some (t, L, st, h) else some (n, L, st, h)
  | _ => none
def x_icge (t n : Nat) : XI := xiN fun L st h => match st with
  | .inl y :: .inl x :: st => if y ≤ x then some (t, L, st, h) else some (n, L, st, h)
  | _ => none
def x_icgt (t n : Nat) : XI := xiN fun L st h => match st with
  | .inl y :: .inl x :: st => if y < x then some (t, L, st, h) else some (n, L, st, h)
  | _ => none
def x_icle (t n : Nat) : XI := xiN fun L st h => match st with
  | .inl y :: .inl x :: st => if x ≤ y then some (t, L, st, h) else some (n, L, st, h)
  | _ => none
theorem s_ifeq {xm : Nat → XY} {scr : Nat × (Nat → Int32)} {Y : XY} {pc : Nat} {off : Int} {t : Nat} (hd : decode Y.2.1 pc = .ok (.ifCond .eq off, 3)) (ht : (pc : Int) + off = (t : Int)) : XSnd xm scr Y pc (x_ifeq t (pc + 3)) := by
  refine XSnd_P fun L st h pc1 L1 st1 h1 ee => ?_
  split at ee
  · split at ee
    · rename_i hc
      cases ee
      refine ⟨rfl, fun p l e R s m args below meth c β D cA d m0 z0 Q X hm0 hz0 hmR hzR k H locs ls hP hF hl => ?_⟩
      obtain ⟨hx, hb, hml, hown, hts, hK, -⟩ := X
      exact lv_if_eq hx hb hd ht (fun _ => (k H locs ls hP hF hl)) (fun q => absurd hc q)
    · rename_i hc
      cases ee
      refine ⟨rfl, fun p l e R s m args below meth c β D cA d m0 z0 Q X hm0 hz0 hmR hzR k H locs ls hP hF hl => ?_⟩
      obtain ⟨hx, hb, hml, hown, hts, hK, -⟩ := X
      exact lv_if_eq hx hb hd ht (fun q => absurd q hc) (fun _ => (k H locs ls hP hF hl))
  · cases ee
theorem s_iceq {xm : Nat → XY} {scr : Nat × (Nat → Int32)} {Y : XY} {pc : Nat} {off : Int} {t : Nat} (hd : decode Y.2.1 pc = .ok (.if_icmp .eq off, 3)) (ht : (pc : Int) + off = (t : Int)) : XSnd xm scr Y pc (x_iceq t (pc + 3)) := by
  refine XSnd_P fun L st h pc1 L1 st1 h1 ee => ?_
  split at ee
  · split at ee
    · rename_i hc
      cases ee
      refine ⟨rfl, fun p l e R s m args below meth c β D cA d m0 z0 Q X hm0 hz0 hmR hzR k H locs ls hP hF hl => ?_⟩
      obtain ⟨hx, hb, hml, hown, hts, hK, -⟩ := X
      exact lv_icmp_eq hx hb hd ht (fun _ => (k H locs ls hP hF hl)) (fun q => absurd hc q)
    · rename_i hc
      cases ee
      refine ⟨rfl, fun p l e R s m args below meth c β D cA d m0 z0 Q X hm0 hz0 hmR hzR k H locs ls hP hF hl => ?_⟩
      obtain ⟨hx, hb, hml, hown, hts, hK, -⟩ := X
      exact lv_icmp_eq hx hb hd ht (fun q => absurd q hc) (fun _ => (k H locs ls hP hF hl))
  · cases ee
theorem s_ifne {xm : Nat → XY} {scr : Nat × (Nat → Int32)} {Y : XY} {pc : Nat} {off : Int} {t : Nat} (hd : decode Y.2.1 pc = .ok (.ifCond .ne off, 3)) (ht : (pc : Int) + off = (t : Int)) : XSnd xm scr Y pc (x_ifne t (pc + 3)) := by
  refine XSnd_P fun L st h pc1 L1 st1 h1 ee => ?_
  split at ee
  · split at ee
    · rename_i hc
      cases ee
      refine ⟨rfl, fun p l e R s m args below meth c β D cA d m0 z0 Q X hm0 hz0 hmR hzR k H locs ls hP hF hl => ?_⟩
      obtain ⟨hx, hb, hml, hown, hts, hK, -⟩ := X
      exact lv_if_ne hx hb hd ht (fun _ => (k H locs ls hP hF hl)) (fun q => absurd q hc)
    · rename_i hc
      cases ee
      refine ⟨rfl, fun p l e R s m args below meth c β D cA d m0 z0 Q X hm0 hz0 hmR hzR k H locs ls hP hF hl => ?_⟩
      obtain ⟨hx, hb, hml, hown, hts, hK, -⟩ := X
      exact lv_if_ne hx hb hd ht (fun q => absurd q hc) (fun _ => (k H locs ls hP hF hl))
  · cases ee
theorem s_icne {xm : Nat → XY} {scr : Nat × (Nat → Int32)} {Y : XY} {pc : Nat} {off : Int} {t : Nat} (hd : decode Y.2.1 pc = .ok (.if_icmp .ne off, 3)) (ht : (pc : Int) + off = (t : Int)) : XSnd xm scr Y pc (x_icne t (pc + 3)) := by
  refine XSnd_P fun L st h pc1 L1 st1 h1 ee => ?_
  split at ee
  · split at ee
    · rename_i hc
      cases ee
      refine ⟨rfl, fun p l e R s m args below meth c β D cA d m0 z0 Q X hm0 hz0 hmR hzR k H locs ls hP hF hl => ?_⟩
      obtain ⟨hx, hb, hml, hown, hts, hK, -⟩ := X
      exact lv_icmp_ne hx hb hd ht (fun _ => (k H locs ls hP hF hl)) (fun q => absurd q hc)
    · rename_i hc
      cases ee
      refine ⟨rfl, fun p l e R s m args below meth c β D cA d m0 z0 Q X hm0 hz0 hmR hzR k H locs ls hP hF hl => ?_⟩
      obtain ⟨hx, hb, hml, hown, hts, hK, -⟩ := X
      exact lv_icmp_ne hx hb hd ht (fun q => absurd q hc) (fun _ => (k H locs ls hP hF hl))
  · cases ee
theorem s_iflt {xm : Nat → XY} {scr : Nat × (Nat → Int32)} {Y : XY} {pc : Nat} {off : Int} {t : Nat} (hd : decode Y.2.1 pc = .ok (.ifCond .lt off, 3)) (ht : (pc : Int) + off = (t : Int)) : XSnd xm scr Y pc (x_iflt t (pc + 3)) := by
  refine XSnd_P fun L st h pc1 L1 st1 h1 ee => ?_
  split at ee
  · split at ee
    · rename_i hc
      cases ee
      refine ⟨rfl, fun p l e R s m args below meth c β D cA d m0 z0 Q X hm0 hz0 hmR hzR k H locs ls hP hF hl => ?_⟩
      obtain ⟨hx, hb, hml, hown, hts, hK, -⟩ := X
      exact lv_if_lt hx hb hd ht (fun _ => (k H locs ls hP hF hl)) (fun q => absurd hc q)
    · rename_i hc
      cases ee
      refine ⟨rfl, fun p l e R s m args below meth c β D cA d m0 z0 Q X hm0 hz0 hmR hzR k H locs ls hP hF hl => ?_⟩
      obtain ⟨hx, hb, hml, hown, hts, hK, -⟩ := X
      exact lv_if_lt hx hb hd ht (fun q => absurd q hc) (fun _ => (k H locs ls hP hF hl))
  · cases ee
theorem s_iclt {xm : Nat → XY} {scr : Nat × (Nat → Int32)} {Y : XY} {pc : Nat} {off : Int} {t : Nat} (hd : decode Y.2.1 pc = .ok (.if_icmp .lt off, 3)) (ht : (pc : Int) + off = (t : Int)) : XSnd xm scr Y pc (x_iclt t (pc + 3)) := by
  refine XSnd_P fun L st h pc1 L1 st1 h1 ee => ?_
  split at ee
  · split at ee
    · rename_i hc
      cases ee
      refine ⟨rfl, fun p l e R s m args below meth c β D cA d m0 z0 Q X hm0 hz0 hmR hzR k H locs ls hP hF hl => ?_⟩
      obtain ⟨hx, hb, hml, hown, hts, hK, -⟩ := X
      exact lv_icmp_lt hx hb hd ht (fun _ => (k H locs ls hP hF hl)) (fun q => absurd hc q)
    · rename_i hc
      cases ee
      refine ⟨rfl, fun p l e R s m args below meth c β D cA d m0 z0 Q X hm0 hz0 hmR hzR k H locs ls hP hF hl => ?_⟩
      obtain ⟨hx, hb, hml, hown, hts, hK, -⟩ := X
      exact lv_icmp_lt hx hb hd ht (fun q => absurd q hc) (fun _ => (k H locs ls hP hF hl))
  · cases ee
theorem s_ifge {xm : Nat → XY} {scr : Nat × (Nat → Int32)} {Y : XY} {pc : Nat} {off : Int} {t : Nat} (hd : decode Y.2.1 pc = .ok (.ifCond .ge off, 3)) (ht : (pc : Int) + off = (t : Int)) : XSnd xm scr Y pc (x_ifge t (pc + 3)) := by
  refine XSnd_P fun L st h pc1 L1 st1 h1 ee => ?_
  split at ee
  · split at ee
    · rename_i hc
      cases ee
      refine ⟨rfl, fun p l e R s m args below meth c β D cA d m0 z0 Q X hm0 hz0 hmR hzR k H locs ls hP hF hl => ?_⟩
      obtain ⟨hx, hb, hml, hown, hts, hK, -⟩ := X
      exact lv_if_ge hx hb hd ht (fun _ => (k H locs ls hP hF hl)) (fun q => absurd hc q)
    · rename_i hc
      cases ee
      refine ⟨rfl, fun p l e R s m args below meth c β D cA d m0 z0 Q X hm0 hz0 hmR hzR k H locs ls hP hF hl => ?_⟩
      obtain ⟨hx, hb, hml, hown, hts, hK, -⟩ := X
      exact lv_if_ge hx hb hd ht (fun q => absurd q hc) (fun _ => (k H locs ls hP hF hl))
  · cases ee
theorem s_icge {xm : Nat → XY} {scr : Nat × (Nat → Int32)} {Y : XY} {pc : Nat} {off : Int} {t : Nat} (hd : decode Y.2.1 pc = .ok (.if_icmp .ge off, 3)) (ht : (pc : Int) + off = (t : Int)) : XSnd xm scr Y pc (x_icge t (pc + 3)) := by
  refine XSnd_P fun L st h pc1 L1 st1 h1 ee => ?_
  split at ee
  · split at ee
    · rename_i hc
      cases ee
      refine ⟨rfl, fun p l e R s m args below meth c β D cA d m0 z0 Q X hm0 hz0 hmR hzR k H locs ls hP hF hl => ?_⟩
      obtain ⟨hx, hb, hml, hown, hts, hK, -⟩ := X
      exact lv_icmp_ge hx hb hd ht (fun _ => (k H locs ls hP hF hl)) (fun q => absurd hc q)
    · rename_i hc
      cases ee
      refine ⟨rfl, fun p l e R s m args below meth c β D cA d m0 z0 Q X hm0 hz0 hmR hzR k H locs ls hP hF hl => ?_⟩
      obtain ⟨hx, hb, hml, hown, hts, hK, -⟩ := X
      exact lv_icmp_ge hx hb hd ht (fun q => absurd q hc) (fun _ => (k H locs ls hP hF hl))
  · cases ee
theorem s_ifgt {xm : Nat → XY} {scr : Nat × (Nat → Int32)} {Y : XY} {pc : Nat} {off : Int} {t : Nat} (hd : decode Y.2.1 pc = .ok (.ifCond .gt off, 3)) (ht : (pc : Int) + off = (t : Int)) : XSnd xm scr Y pc (x_ifgt t (pc + 3)) := by
  refine XSnd_P fun L st h pc1 L1 st1 h1 ee => ?_
  split at ee
  · split at ee
    · rename_i hc
      cases ee
      refine ⟨rfl, fun p l e R s m args below meth c β D cA d m0 z0 Q X hm0 hz0 hmR hzR k H locs ls hP hF hl => ?_⟩
      obtain ⟨hx, hb, hml, hown, hts, hK, -⟩ := X
      exact lv_if_gt hx hb hd ht (fun _ => (k H locs ls hP hF hl)) (fun q => absurd hc q)
    · rename_i hc
      cases ee
      refine ⟨rfl, fun p l e R s m args below meth c β D cA d m0 z0 Q X hm0 hz0 hmR hzR k H locs ls hP hF hl => ?_⟩
      obtain ⟨hx, hb, hml, hown, hts, hK, -⟩ := X
      exact lv_if_gt hx hb hd ht (fun q => absurd q hc) (fun _ => (k H locs ls hP hF hl))
  · cases ee
theorem s_icgt {xm : Nat → XY} {scr : Nat × (Nat → Int32)} {Y : XY} {pc : Nat} {off : Int} {t : Nat} (hd : decode Y.2.1 pc = .ok (.if_icmp .gt off, 3)) (ht : (pc : Int) + off = (t : Int)) : XSnd xm scr Y pc (x_icgt t (pc + 3)) := by
  refine XSnd_P fun L st h pc1 L1 st1 h1 ee => ?_
  split at ee
  · split at ee
    · rename_i hc
      cases ee
      refine ⟨rfl, fun p l e R s m args below meth c β D cA d m0 z0 Q X hm0 hz0 hmR hzR k H locs ls hP hF hl => ?_⟩
      obtain ⟨hx, hb, hml, hown, hts, hK, -⟩ := X
      exact lv_icmp_gt hx hb hd ht (fun _ => (k H locs ls hP hF hl)) (fun q => absurd hc q)
    · rename_i hc
      cases ee
      refine ⟨rfl, fun p l e R s m args below meth c β D cA d m0 z0 Q X hm0 hz0 hmR hzR k H locs ls hP hF hl => ?_⟩
      obtain ⟨hx, hb, hml, hown, hts, hK, -⟩ := X
      exact lv_icmp_gt hx hb hd ht (fun q => absurd q hc) (fun _ => (k H locs ls hP hF hl))
  · cases ee
theorem s_ifle {xm : Nat → XY} {scr : Nat × (Nat → Int32)} {Y : XY} {pc : Nat} {off : Int} {t : Nat} (hd : decode Y.2.1 pc = .ok (.ifCond .le off, 3)) (ht : (pc : Int) + off = (t : Int)) : XSnd xm scr Y pc (x_ifle t (pc + 3)) := by
  refine XSnd_P fun L st h pc1 L1 st1 h1 ee => ?_
  split at ee
  · split at ee
    · rename_i hc
      cases ee
      refine ⟨rfl, fun p l e R s m args below meth c β D cA d m0 z0 Q X hm0 hz0 hmR hzR k H locs ls hP hF hl => ?_⟩
      obtain ⟨hx, hb, hml, hown, hts, hK, -⟩ := X
      exact lv_if_le hx hb hd ht (fun _ => (k H locs ls hP hF hl)) (fun q => absurd hc q)
    · rename_i hc
      cases ee
      refine ⟨rfl, fun p l e R s m args below meth c β D cA d m0 z0 Q X hm0 hz0 hmR hzR k H locs ls hP hF hl => ?_⟩
      obtain ⟨hx, hb, hml, hown, hts, hK, -⟩ := X
      exact lv_if_le hx hb hd ht (fun q => absurd q hc) (fun _ => (k H locs ls hP hF hl))
  · cases ee
theorem s_icle {xm : Nat → XY} {scr : Nat × (Nat → Int32)} {Y : XY} {pc : Nat} {off : Int} {t : Nat} (hd : decode Y.2.1 pc = .ok (.if_icmp .le off, 3)) (ht : (pc : Int) + off = (t : Int)) : XSnd xm scr Y pc (x_icle t (pc + 3)) := by
  refine XSnd_P fun L st h pc1 L1 st1 h1 ee => ?_
  split at ee
  · split at ee
    · rename_i hc
      cases ee
      refine ⟨rfl, fun p l e R s m args below meth c β D cA d m0 z0 Q X hm0 hz0 hmR hzR k H locs ls hP hF hl => ?_⟩
      obtain ⟨hx, hb, hml, hown, hts, hK, -⟩ := X
      exact lv_icmp_le hx hb hd ht (fun _ => (k H locs ls hP hF hl)) (fun q => absurd hc q)
    · rename_i hc
      cases ee
      refine ⟨rfl, fun p l e R s m args below meth c β D cA d m0 z0 Q X hm0 hz0 hmR hzR k H locs ls hP hF hl => ?_⟩
      obtain ⟨hx, hb, hml, hown, hts, hK, -⟩ := X
      exact lv_icmp_le hx hb hd ht (fun q => absurd q hc) (fun _ => (k H locs ls hP hF hl))
  · cases ee
def x_tsw (lo hi : Int) (ts : List Nat) (t : Nat) : XI := xiN fun L st h => match st with
  | .inl x :: st => if x.toInt < lo ∨ hi < x.toInt then some (t, L, st, h) else match ts[(x.toInt - lo).toNat]? with
    | some u => some (u, L, st, h)
    | none => none
  | _ => none
theorem s_tsw {xm : Nat → XY} {scr : Nat × (Nat → Int32)} {Y : XY} {pc : Nat} {dflt lo hi : Int} {offs : Array Int} {len t : Nat} {ts : List Nat} (hd : decode Y.2.1 pc = .ok (.tableswitch dflt lo hi offs, len)) (ht : (pc : Int) + dflt = (t : Int)) (hts0 : offs.toList.map (fun o => (pc : Int) + o) = ts.map (fun (u : Nat) => (u : Int))) : XSnd xm scr Y pc (x_tsw lo hi ts t) := by
  refine XSnd_P fun L st h pc1 L1 st1 h1 ee => ?_
  split at ee
  · split at ee
    · rename_i hc
      cases ee
      refine ⟨rfl, fun p l e R s m args below meth c β D cA d m0 z0 Q X hm0 hz0 hmR hzR k H locs ls hP hF hl => ?_⟩
      obtain ⟨hx, hb, hml, hown, hts, hK, -⟩ := X
      exact lv_tableOut hx hb hd hc ht (k H locs ls hP hF hl)
    · rename_i hc
      split at ee
      · rename_i u hu
        cases ee
        refine ⟨rfl, fun p l e R s m args below meth c β D cA d m0 z0 Q X hm0 hz0 hmR hzR k H locs ls hP hF hl => ?_⟩
        obtain ⟨hx, hb, hml, hown, hts, hK, -⟩ := X
        have h2 := congrArg (Option.map (fun (u : Nat) => (u : Int))) hu
        rw [← List.getElem?_map, ← hts0, List.getElem?_map] at h2
        obtain ⟨o, ho, hou⟩ := Option.map_eq_some_iff.mp h2
        exact lv_tableIn hx hb hd (fun q => hc (Or.inl q)) (fun q => hc (Or.inr q)) (by rw [← Array.getElem?_toList]; exact ho) hou (k H locs ls hP hF hl)
      · cases ee
  · cases ee
def x_lsw (ps : List (Int × Nat)) (t : Nat) : XI := xiN fun L st h => match st with
  | .inl x :: st => some ((match ps.find? (fun q => decide (x.toInt = q.1)) with | some q => q.2 | none => t), L, st, h)
  | _ => none
theorem xlsw_off {pc : Nat} {d : Int} {t : Nat} (ht : (pc : Int) + d = (t : Int)) {x : Int} : ∀ {r : List (Int × Int)} {ps : List (Int × Nat)}, r.map (fun q => (q.1, (pc : Int) + q.2)) = ps.map (fun q => (q.1, (q.2 : Int))) → (pc : Int) + Op.lookupswitch.offset r d x = (((match ps.find? (fun q => decide (x = q.1)) with | some q => q.2 | none => t) : Nat) : Int)
  | [], [], _ => by simpa [Op.lookupswitch.offset] using ht
  | [], _ :: _, h => by simp at h
  | _ :: _, [], h => by simp at h
  | (a, o) :: r, (b, u) :: ps, h => by
    simp only [List.map_cons, List.cons.injEq, Prod.mk.injEq] at h
    obtain ⟨⟨rfl, h2⟩, h3⟩ := h
    rw [Op.lookupswitch.offset_cons, List.find?_cons]
    by_cases hx : x = a
    · simp [hx, h2]
    · simp only [hx, decide_false, if_false]
      rw [if_neg (fun e => hx e.symm)]
      exact xlsw_off ht h3
theorem s_lsw {xm : Nat → XY} {scr : Nat × (Nat → Int32)} {Y : XY} {pc : Nat} {dflt : Int} {r : Array (Int × Int)} {len t : Nat} {ps : List (Int × Nat)} (hd : decode Y.2.1 pc = .ok (.lookupswitch dflt r, len)) (hp : (r.toList.zip (r.toList.drop 1)).all (fun (a, next) => a.1 < next.1) = true) (ht : (pc : Int) + dflt = (t : Int)) (hps : r.toList.map (fun q => (q.1, (pc : Int) + q.2)) = ps.map (fun q => (q.1, (q.2 : Int)))) : XSnd xm scr Y pc (x_lsw ps t) := by
  refine XSnd_P fun L st h pc1 L1 st1 h1 ee => ?_
  split at ee
  · cases ee
    refine ⟨rfl, fun p l e R s m args below meth c β D cA d m0 z0 Q X hm0 hz0 hmR hzR k H locs ls hP hF hl => ?_⟩
    obtain ⟨hx, hb, hml, hown, hts, hK, -⟩ := X
    exact lv_lookup hx hb hd hp rfl (xlsw_off ht hps) (k H locs ls hP hF hl)
  · cases ee
def x_ret : XI := fun _ st _ => match st with
  | [] => .inr (.inr (some none))
  | _ => xbad
def x_iret : XI := fun _ st _ => match st with
  | [.inl x] => .inr (.inr (some (some (.inl x))))
  | _ => xbad
def x_zret : XI := fun _ st _ => match st with
  | [.inl x] => if x = 0 ∨ x = 1 then .inr (.inr (some (some (.inl x)))) else xbad
  | _ => xbad
theorem s_ret {xm : Nat → XY} {scr : Nat × (Nat → Int32)} {Y : XY} {pc : Nat} (hd : decode Y.2.1 pc = .ok (.return_, 1)) (hr : Y.2.2.2 = none) : XSnd xm scr Y pc x_ret := by
  intro L st h
  unfold x_ret
  split
  · exact ⟨fun _ _ _ _ e => (by cases e), fun _ _ _ _ e => (by cases e), fun r e => by cases e; exact Or.inl ⟨rfl, rfl, hd, hr⟩⟩
  · exact ⟨fun _ _ _ _ e => (by cases e), fun _ _ _ _ e => (by cases e), fun _ e => (by cases e)⟩
theorem s_iret {xm : Nat → XY} {scr : Nat × (Nat → Int32)} {Y : XY} {pc : Nat} (hd : decode Y.2.1 pc = .ok (.ireturn, 1)) (hr : Y.2.2.2 = some .int) : XSnd xm scr Y pc x_iret := by
  intro L st h
  unfold x_iret
  split
  · exact ⟨fun _ _ _ _ e => (by cases e), fun _ _ _ _ e => (by cases e), fun r e => by cases e; exact Or.inr ⟨_, .int, rfl, rfl, hd, hr, rfl⟩⟩
  · exact ⟨fun _ _ _ _ e => (by cases e), fun _ _ _ _ e => (by cases e), fun _ e => (by cases e)⟩
theorem xnarZ {x : Int32} (h : x = 0 ∨ x = 1) : narrow .boolean (.int x) = .int x := by
  rcases h with rfl | rfl <;> rfl
theorem s_zret {xm : Nat → XY} {scr : Nat × (Nat → Int32)} {Y : XY} {pc : Nat} (hd : decode Y.2.1 pc = .ok (.ireturn, 1)) (hr : Y.2.2.2 = some .boolean) : XSnd xm scr Y pc x_zret := by
  intro L st h
  unfold x_zret
  split
  · split
    · rename_i hz
      exact ⟨fun _ _ _ _ e => (by cases e), fun _ _ _ _ e => (by cases e), fun r e => by cases e; exact Or.inr ⟨_, .boolean, rfl, rfl, hd, hr, xnarZ hz⟩⟩
    · exact ⟨fun _ _ _ _ e => (by cases e), fun _ _ _ _ e => (by cases e), fun _ e => (by cases e)⟩
  · exact ⟨fun _ _ _ _ e => (by cases e), fun _ _ _ _ e => (by cases e), fun _ e => (by cases e)⟩
