-- ===== PART A: goes FIRST, ahead of the names: the tables' words, and 'selects' of the private methods out of them =====
/-- a private method of a class that the tables say can be made, by its rows of tables_1 -/
def lw_okq (q : MethodName × Nat) : Prop := (q.1.cls ≠ "java/lang/invoke/MethodHandle" ∧ q.1.cls ≠ "java/lang/invoke/VarHandle") ∧ Cond.instantiable q.1.cls q.2 ∈ tables_1 ∧ Cond.privateMethod q.1 ∈ tables_1 ∧ Cond.instanceMethod q.1 ∈ tables_1
theorem lw_p0 : lw_okq (⟨"ActorTrees$World", "howItStands", "()I"⟩, 13) := ⟨⟨by decide +kernel, by decide +kernel⟩, List.mem_of_getElem? (i := 21) (by decide +kernel), List.mem_of_getElem? (i := 304) (by decide +kernel), List.mem_of_getElem? (i := 305) (by decide +kernel)⟩
theorem lw_p1 : lw_okq (⟨"ActorTrees$World", "nextDealer", "()I"⟩, 13) := ⟨⟨by decide +kernel, by decide +kernel⟩, List.mem_of_getElem? (i := 21) (by decide +kernel), List.mem_of_getElem? (i := 316) (by decide +kernel), List.mem_of_getElem? (i := 317) (by decide +kernel)⟩
theorem lw_p2 : lw_okq (⟨"ActorTrees$World", "fireTimer", "()Z"⟩, 13) := ⟨⟨by decide +kernel, by decide +kernel⟩, List.mem_of_getElem? (i := 21) (by decide +kernel), List.mem_of_getElem? (i := 325) (by decide +kernel), List.mem_of_getElem? (i := 326) (by decide +kernel)⟩
theorem lw_p3 : lw_okq (⟨"ActorTrees$Timers", "move", "(II)V"⟩, 4) := ⟨⟨by decide +kernel, by decide +kernel⟩, List.mem_of_getElem? (i := 29) (by decide +kernel), List.mem_of_getElem? (i := 345) (by decide +kernel), List.mem_of_getElem? (i := 346) (by decide +kernel)⟩
theorem lw_p4 : lw_okq (⟨"ActorTrees$World", "dealLater", "(III)I"⟩, 13) := ⟨⟨by decide +kernel, by decide +kernel⟩, List.mem_of_getElem? (i := 21) (by decide +kernel), List.mem_of_getElem? (i := 383) (by decide +kernel), List.mem_of_getElem? (i := 384) (by decide +kernel)⟩
theorem lw_p5 : lw_okq (⟨"ActorTrees$World", "sendDown", "(III)V"⟩, 13) := ⟨⟨by decide +kernel, by decide +kernel⟩, List.mem_of_getElem? (i := 21) (by decide +kernel), List.mem_of_getElem? (i := 391) (by decide +kernel), List.mem_of_getElem? (i := 392) (by decide +kernel)⟩
theorem lw_p6 : lw_okq (⟨"ActorTrees$World", "watch", "(II)V"⟩, 13) := ⟨⟨by decide +kernel, by decide +kernel⟩, List.mem_of_getElem? (i := 21) (by decide +kernel), List.mem_of_getElem? (i := 399) (by decide +kernel), List.mem_of_getElem? (i := 400) (by decide +kernel)⟩
theorem lw_p7 : lw_okq (⟨"ActorTrees$World", "greatestLiveChild", "(I)I"⟩, 13) := ⟨⟨by decide +kernel, by decide +kernel⟩, List.mem_of_getElem? (i := 21) (by decide +kernel), List.mem_of_getElem? (i := 415) (by decide +kernel), List.mem_of_getElem? (i := 416) (by decide +kernel)⟩
theorem lw_p8 : lw_okq (⟨"ActorTrees$World", "dealEarlier", "(IIII)I"⟩, 13) := ⟨⟨by decide +kernel, by decide +kernel⟩, List.mem_of_getElem? (i := 21) (by decide +kernel), List.mem_of_getElem? (i := 432) (by decide +kernel), List.mem_of_getElem? (i := 433) (by decide +kernel)⟩
theorem lw_p9 : lw_okq (⟨"ActorTrees$World", "unstash", "(LActorTrees$Actor;)V"⟩, 13) := ⟨⟨by decide +kernel, by decide +kernel⟩, List.mem_of_getElem? (i := 21) (by decide +kernel), List.mem_of_getElem? (i := 436) (by decide +kernel), List.mem_of_getElem? (i := 437) (by decide +kernel)⟩
theorem lw_p10 : lw_okq (⟨"ActorTrees$World", "isOverBudgetAbove", "(I)Z"⟩, 13) := ⟨⟨by decide +kernel, by decide +kernel⟩, List.mem_of_getElem? (i := 21) (by decide +kernel), List.mem_of_getElem? (i := 451) (by decide +kernel), List.mem_of_getElem? (i := 452) (by decide +kernel)⟩
theorem lw_p11 : lw_okq (⟨"ActorTrees$World", "isRestartedWith", "(II)Z"⟩, 13) := ⟨⟨by decide +kernel, by decide +kernel⟩, List.mem_of_getElem? (i := 21) (by decide +kernel), List.mem_of_getElem? (i := 459) (by decide +kernel), List.mem_of_getElem? (i := 460) (by decide +kernel)⟩
theorem lw_p12 : lw_okq (⟨"ActorTrees$World", "restart", "(I)V"⟩, 13) := ⟨⟨by decide +kernel, by decide +kernel⟩, List.mem_of_getElem? (i := 21) (by decide +kernel), List.mem_of_getElem? (i := 463) (by decide +kernel), List.mem_of_getElem? (i := 464) (by decide +kernel)⟩
def lw_privs_1 : List (MethodName × Nat) := [(⟨"ActorTrees$World", "howItStands", "()I"⟩, 13), (⟨"ActorTrees$World", "nextDealer", "()I"⟩, 13), (⟨"ActorTrees$World", "fireTimer", "()Z"⟩, 13), (⟨"ActorTrees$Timers", "move", "(II)V"⟩, 4), (⟨"ActorTrees$World", "dealLater", "(III)I"⟩, 13), (⟨"ActorTrees$World", "sendDown", "(III)V"⟩, 13), (⟨"ActorTrees$World", "watch", "(II)V"⟩, 13), (⟨"ActorTrees$World", "greatestLiveChild", "(I)I"⟩, 13), (⟨"ActorTrees$World", "dealEarlier", "(IIII)I"⟩, 13), (⟨"ActorTrees$World", "unstash", "(LActorTrees$Actor;)V"⟩, 13), (⟨"ActorTrees$World", "isOverBudgetAbove", "(I)Z"⟩, 13), (⟨"ActorTrees$World", "isRestartedWith", "(II)Z"⟩, 13), (⟨"ActorTrees$World", "restart", "(I)V"⟩, 13)]
theorem lw_r1 : ∀ q ∈ lw_privs_1, lw_okq q := List.forall_mem_cons.mpr ⟨lw_p0, List.forall_mem_cons.mpr ⟨lw_p1, List.forall_mem_cons.mpr ⟨lw_p2, List.forall_mem_cons.mpr ⟨lw_p3, List.forall_mem_cons.mpr ⟨lw_p4, List.forall_mem_cons.mpr ⟨lw_p5, List.forall_mem_cons.mpr ⟨lw_p6, List.forall_mem_cons.mpr ⟨lw_p7, List.forall_mem_cons.mpr ⟨lw_p8, List.forall_mem_cons.mpr ⟨lw_p9, List.forall_mem_cons.mpr ⟨lw_p10, List.forall_mem_cons.mpr ⟨lw_p11, List.forall_mem_cons.mpr ⟨lw_p12, fun _ h => absurd h List.not_mem_nil⟩⟩⟩⟩⟩⟩⟩⟩⟩⟩⟩⟩⟩
def lw_privs : List (MethodName × Nat) := lw_privs_1
def lw_tbl : List Cond := k2_sels lw_privs ++ tables_1
theorem lw_privs_ok : ∀ q ∈ lw_privs, lw_okq q := lw_r1
-- ===== end of PART A; then your names; then what follows =====
/-! ===== BEGIN words of one list among another's, by their places ===== -/
theorem goodIn_r {big : List Cond} (ws : List Cond) (ps : List Nat) (hp : ws = ps.filterMap (fun i => big[i]?)) (h : ws.all goodWord = true) : GoodIn big ws := by
  intro w hw
  have h1 := List.all_eq_true.mp h w hw
  rw [hp] at hw
  obtain ⟨i, -, hi⟩ := List.mem_filterMap.mp hw
  have hm : w ∈ big := by first | exact List.mem_of_getElem? hi | exact List.getElem?_mem hi
  exact ⟨hm, good_of_word h1⟩
theorem goodIn_app {big a b : List Cond} (ha : GoodIn big a) (hb : GoodIn big b) : GoodIn big (a ++ b) := fun w h => (List.mem_append.mp h).elim (ha w) (hb w)
theorem goodIn_ca {big a b : List Cond} {c : Cond} (ha : GoodIn big (c :: a)) (hb : GoodIn big b) : GoodIn big (c :: (a ++ b)) := fun w h => (List.mem_cons.mp h).elim (fun e => ha w (List.mem_cons.mpr (Or.inl e))) (fun h => (List.mem_append.mp h).elim (fun h => ha w (List.mem_cons.mpr (Or.inr h))) (hb w))
theorem goodIn_sub {big ws : List Cond} (hm : ∀ w ∈ ws, w ∈ big) (h : ws.all goodWord = true) : GoodIn big ws := fun w hw => ⟨hm w hw, good_of_word (List.all_eq_true.mp h w hw)⟩
/-! ===== END ===== -/

/-! ===== BEGIN new T[n][m]: the outer array a place, the inner ones among the pooled ===== -/
/-- f, but v at every address of l -/
def vr_up {α : Type} (f : Nat → α) (l : List Nat) (v : α) : Nat → α := fun a => if a ∈ l then v else f a
theorem vr_up_in {α : Type} {f : Nat → α} {l : List Nat} {v : α} {a : Nat} (h : a ∈ l) : vr_up f l v a = v := if_pos h
theorem vr_up_ne {α : Type} {f : Nat → α} {l : List Nat} {v : α} {a : Nat} (h : a ∉ l) : vr_up f l v a = f a := if_neg h
theorem vr_rows {L l : List Nat} {f : Nat → va_E} {e : va_E} (h : ∀ a, a ∈ l → a ∉ L) : va_pl L f ++ l.map (fun a => (a, e)) = va_pl (L ++ l) (vr_up f l e) := by
  unfold va_pl
  rw [List.map_append]
  congr 1
  · apply List.map_congr_left
    intro a ha
    rw [vr_up_ne (fun q => h a q ha)]
  · apply List.map_congr_left
    intro a ha
    rw [vr_up_in ha]
theorem vr_lay {X rows : va_W} {x : Nat × va_E} {pl : va_W} {D : va_G} {cl : List vw_C} {H : Heap} (hP : va_P D cl (((X ++ pl) ++ [x]) ++ rows) H) : va_P D cl ((X ++ [x]) ++ (pl ++ rows)) H := by
  rw [List.append_assoc (X ++ pl)] at hP
  have h := va_P.swap hP
  rw [← List.append_assoc X] at h
  have h2 := va_P.swap h
  rw [List.append_assoc (X ++ [x])] at h2
  exact h2
theorem vr_layD {X rows : va_W} {x : Nat × va_E} {pl : va_W} {A : Nat → Prop} (hD : va_D A (((X ++ pl) ++ [x]) ++ rows)) : va_D A ((X ++ [x]) ++ (pl ++ rows)) := by
  rw [List.append_assoc (X ++ pl)] at hD
  have h := va_D.swap hD
  rw [← List.append_assoc X] at h
  have h2 := va_D.swap h
  rw [List.append_assoc (X ++ [x])] at h2
  exact h2
theorem vr_outer (c : ClassId) (N h0 : Nat) : ∀ i : Nat, Jvm.Free.Multi.outerC c N h0 i = arrV c N (fun j => va_rf (if j < i then some (h0 + 1 + j) else none))
  | 0 => by
    show ({ cls := c, slots := Array.replicate N .null, vm := .none } : Cell) = _
    rw [arrV_new]
    refine congrArg (arrV c N) (funext fun j => ?_)
    simp [va_rf]
  | i + 1 => by
    show (Jvm.Free.Multi.outerC c N h0 i).setSlot i (.ref (h0 + 1 + i)) = _
    rw [vr_outer c N h0 i, arrV_store]
    refine congrArg (arrV c N) (funext fun j => ?_)
    by_cases e : j = i
    · subst e
      simp [updV, va_rf]
    · by_cases h : j < i
      · simp [updV, e, h, Nat.lt_succ_of_lt h]
      · simp [updV, e, h, show ¬ j < i + 1 by omega]

/-! ===== END ===== -/

/-! ===== BEGIN printed: names, fields, word lists, decode rows ===== -/
def RX0 : String := "ActorTrees$Actor"
def TX0 : u_T := fun k => match k with
  | 0 => ("ActorTrees$Actor", "parent", "I", false)
  | 1 => ("ActorTrees$Actor", "own", "I", false)
  | 2 => ("ActorTrees$Actor", "strategy", "I", false)
  | 3 => ("ActorTrees$Actor", "budget", "I", false)
  | 4 => ("ActorTrees$Actor", "window", "I", false)
  | 5 => ("ActorTrees$Actor", "count", "I", false)
  | 6 => ("ActorTrees$Actor", "live", "Z", false)
  | 7 => ("ActorTrees$Actor", "stack", "LActorTrees$Numbers;", true)
  | 8 => ("ActorTrees$Actor", "mailbox", "LActorTrees$Pairs;", true)
  | 9 => ("ActorTrees$Actor", "stash", "LActorTrees$Pairs;", true)
  | 10 => ("ActorTrees$Actor", "watchers", "LActorTrees$Numbers;", true)
  | _ => ("ActorTrees$Actor", "notes", "LActorTrees$Numbers;", true)
def tyX0 : Nat → FieldType := fun k => match k with
  | 0 => .int
  | 1 => .int
  | 2 => .int
  | 3 => .int
  | 4 => .int
  | 5 => .int
  | 6 => .boolean
  | 7 => .object "ActorTrees$Numbers"
  | 8 => .object "ActorTrees$Pairs"
  | 9 => .object "ActorTrees$Pairs"
  | 10 => .object "ActorTrees$Numbers"
  | _ => .object "ActorTrees$Numbers"
abbrev wsX00 : List Cond := u_ws RX0 TX0 12
theorem nmX0 : ∀ a, a < 12 → ∀ b, b < 12 → a ≠ b → (TX0 a).2.1 ≠ (TX0 b).2.1 := by decide +kernel
theorem tyX0_ok : ∀ k, k < 12 → parseFieldDescriptor (TX0 k).2.2.1 = some (tyX0 k) := by decide +kernel
abbrev cX0_init : ByteArray := prog_2_method_1_code
def yX0_init : MethodName := ⟨RX0, "<init>", "()V"⟩
abbrev cX0_begin : ByteArray := prog_2_method_2_code
def yX0_begin : MethodName := ⟨RX0, "begin", "(II)V"⟩
abbrev cX0_keepOwnOnly : ByteArray := prog_2_method_3_code
def yX0_keepOwnOnly : MethodName := ⟨RX0, "keepOwnOnly", "()V"⟩
abbrev cX0_copyFrom : ByteArray := prog_2_method_4_code
def yX0_copyFrom : MethodName := ⟨RX0, "copyFrom", "(LActorTrees$Actor;)V"⟩
def RX1 : String := "ActorTrees$Handle"
def TX1 : u_T := fun k => match k with
  | 0 => ("ActorTrees$Handle", "items", "LActorTrees$Numbers;", true)
  | 1 => ("ActorTrees$Handle", "sort", "I", false)
  | _ => ("ActorTrees$Handle", "actor", "I", false)
def tyX1 : Nat → FieldType := fun k => match k with
  | 0 => .object "ActorTrees$Numbers"
  | 1 => .int
  | _ => .int
abbrev wsX10 : List Cond := u_ws RX1 TX1 3
theorem nmX1 : ∀ a, a < 3 → ∀ b, b < 3 → a ≠ b → (TX1 a).2.1 ≠ (TX1 b).2.1 := by decide +kernel
theorem tyX1_ok : ∀ k, k < 3 → parseFieldDescriptor (TX1 k).2.2.1 = some (tyX1 k) := by decide +kernel
abbrev cX1_init : ByteArray := prog_3_method_1_code
def yX1_init : MethodName := ⟨RX1, "<init>", "()V"⟩
def RX2 : String := "ActorTrees$Numbers"
def TX2 : u_T := fun k => match k with
  | 0 => ("ActorTrees$Numbers", "items", "[I", true)
  | _ => ("ActorTrees$Numbers", "size", "I", false)
def tyX2 : Nat → FieldType := fun k => match k with
  | 0 => .array .int
  | _ => .int
abbrev wsX20 : List Cond := u_ws RX2 TX2 2
theorem nmX2 : ∀ a, a < 2 → ∀ b, b < 2 → a ≠ b → (TX2 a).2.1 ≠ (TX2 b).2.1 := by decide +kernel
theorem tyX2_ok : ∀ k, k < 2 → parseFieldDescriptor (TX2 k).2.2.1 = some (tyX2 k) := by decide +kernel
abbrev cX2_init : ByteArray := prog_4_method_1_code
def yX2_init : MethodName := ⟨RX2, "<init>", "(I)V"⟩
abbrev cX2_at : ByteArray := prog_4_method_2_code
def yX2_at : MethodName := ⟨RX2, "at", "(I)I"⟩
abbrev cX2_add : ByteArray := prog_4_method_4_code
def yX2_add : MethodName := ⟨RX2, "add", "(I)Z"⟩
abbrev cX2_has : ByteArray := prog_4_method_5_code
def yX2_has : MethodName := ⟨RX2, "has", "(I)Z"⟩
abbrev cX2_remove : ByteArray := prog_4_method_6_code
def yX2_remove : MethodName := ⟨RX2, "remove", "(I)V"⟩
abbrev cX2_removeBelow : ByteArray := prog_4_method_7_code
def yX2_removeBelow : MethodName := ⟨RX2, "removeBelow", "(I)V"⟩
abbrev cX2_countFrom : ByteArray := prog_4_method_8_code
def yX2_countFrom : MethodName := ⟨RX2, "countFrom", "(I)I"⟩
abbrev cX2_copyFrom : ByteArray := prog_4_method_10_code
def yX2_copyFrom : MethodName := ⟨RX2, "copyFrom", "(LActorTrees$Numbers;)V"⟩
def RX3 : String := "ActorTrees$Pairs"
def TX3 : u_T := fun k => match k with
  | 0 => ("ActorTrees$Pairs", "firsts", "[I", true)
  | 1 => ("ActorTrees$Pairs", "seconds", "[I", true)
  | _ => ("ActorTrees$Pairs", "size", "I", false)
def tyX3 : Nat → FieldType := fun k => match k with
  | 0 => .array .int
  | 1 => .array .int
  | _ => .int
abbrev wsX30 : List Cond := u_ws RX3 TX3 3
theorem nmX3 : ∀ a, a < 3 → ∀ b, b < 3 → a ≠ b → (TX3 a).2.1 ≠ (TX3 b).2.1 := by decide +kernel
theorem tyX3_ok : ∀ k, k < 3 → parseFieldDescriptor (TX3 k).2.2.1 = some (tyX3 k) := by decide +kernel
abbrev cX3_init : ByteArray := prog_5_method_1_code
def yX3_init : MethodName := ⟨RX3, "<init>", "(I)V"⟩
abbrev cX3_firstAt : ByteArray := prog_5_method_2_code
def yX3_firstAt : MethodName := ⟨RX3, "firstAt", "(I)I"⟩
abbrev cX3_secondAt : ByteArray := prog_5_method_3_code
def yX3_secondAt : MethodName := ⟨RX3, "secondAt", "(I)I"⟩
abbrev cX3_add : ByteArray := prog_5_method_4_code
def yX3_add : MethodName := ⟨RX3, "add", "(II)Z"⟩
abbrev cX3_addDroppingOldest : ByteArray := prog_5_method_5_code
def yX3_addDroppingOldest : MethodName := ⟨RX3, "addDroppingOldest", "(II)V"⟩
abbrev cX3_removeFirst : ByteArray := prog_5_method_6_code
def yX3_removeFirst : MethodName := ⟨RX3, "removeFirst", "()V"⟩
abbrev cX3_putAhead : ByteArray := prog_5_method_7_code
def yX3_putAhead : MethodName := ⟨RX3, "putAhead", "(LActorTrees$Pairs;)I"⟩
abbrev cX3_copyFrom : ByteArray := prog_5_method_8_code
def yX3_copyFrom : MethodName := ⟨RX3, "copyFrom", "(LActorTrees$Pairs;)V"⟩
def RX4 : String := "ActorTrees$Tape"
def TX4 : u_T := fun k => match k with
  | 0 => ("ActorTrees$Tape", "bytes", "LActorTrees$Numbers;", true)
  | 1 => ("ActorTrees$Tape", "numbers", "LActorTrees$Numbers;", true)
  | 2 => ("ActorTrees$Tape", "kind", "I", false)
  | _ => ("ActorTrees$Tape", "place", "I", false)
def tyX4 : Nat → FieldType := fun k => match k with
  | 0 => .object "ActorTrees$Numbers"
  | 1 => .object "ActorTrees$Numbers"
  | 2 => .int
  | _ => .int
abbrev wsX40 : List Cond := u_ws RX4 TX4 4
theorem nmX4 : ∀ a, a < 4 → ∀ b, b < 4 → a ≠ b → (TX4 a).2.1 ≠ (TX4 b).2.1 := by decide +kernel
theorem tyX4_ok : ∀ k, k < 4 → parseFieldDescriptor (TX4 k).2.2.1 = some (tyX4 k) := by decide +kernel
abbrev cX4_init : ByteArray := prog_6_method_1_code
def yX4_init : MethodName := ⟨RX4, "<init>", "()V"⟩
def RX5 : String := "ActorTrees$Timers"
def TX5 : u_T := fun k => match k with
  | 0 => ("ActorTrees$Timers", "owners", "[I", true)
  | 1 => ("ActorTrees$Timers", "dues", "[I", true)
  | 2 => ("ActorTrees$Timers", "numbers", "[I", true)
  | _ => ("ActorTrees$Timers", "size", "I", false)
def tyX5 : Nat → FieldType := fun k => match k with
  | 0 => .array .int
  | 1 => .array .int
  | 2 => .array .int
  | _ => .int
abbrev wsX50 : List Cond := u_ws RX5 TX5 4
theorem nmX5 : ∀ a, a < 4 → ∀ b, b < 4 → a ≠ b → (TX5 a).2.1 ≠ (TX5 b).2.1 := by decide +kernel
theorem tyX5_ok : ∀ k, k < 4 → parseFieldDescriptor (TX5 k).2.2.1 = some (tyX5 k) := by decide +kernel
abbrev cX5_init : ByteArray := prog_7_method_1_code
def yX5_init : MethodName := ⟨RX5, "<init>", "()V"⟩
abbrev cX5_ownerAt : ByteArray := prog_7_method_2_code
def yX5_ownerAt : MethodName := ⟨RX5, "ownerAt", "(I)I"⟩
abbrev cX5_dueAt : ByteArray := prog_7_method_3_code
def yX5_dueAt : MethodName := ⟨RX5, "dueAt", "(I)I"⟩
abbrev cX5_numberAt : ByteArray := prog_7_method_4_code
def yX5_numberAt : MethodName := ⟨RX5, "numberAt", "(I)I"⟩
abbrev cX5_countOf : ByteArray := prog_7_method_5_code
def yX5_countOf : MethodName := ⟨RX5, "countOf", "(I)I"⟩
abbrev cX5_set : ByteArray := prog_7_method_6_code
def yX5_set : MethodName := ⟨RX5, "set", "(III)V"⟩
abbrev cX5_removeOf : ByteArray := prog_7_method_7_code
def yX5_removeOf : MethodName := ⟨RX5, "removeOf", "(I)V"⟩
abbrev cX5_removeFirst : ByteArray := prog_7_method_8_code
def yX5_removeFirst : MethodName := ⟨RX5, "removeFirst", "()V"⟩
abbrev cX5_move : ByteArray := prog_7_method_9_code
def yX5_move : MethodName := ⟨RX5, "move", "(II)V"⟩
abbrev cX5_copyFrom : ByteArray := prog_7_method_10_code
def yX5_copyFrom : MethodName := ⟨RX5, "copyFrom", "(LActorTrees$Timers;)V"⟩
def RX6 : String := "ActorTrees$World"
def TX6 : u_T := fun k => match k with
  | 0 => ("ActorTrees$World", "actors", "[LActorTrees$Actor;", true)
  | 1 => ("ActorTrees$World", "timers", "LActorTrees$Timers;", true)
  | 2 => ("ActorTrees$World", "dealt", "LActorTrees$Pairs;", true)
  | 3 => ("ActorTrees$World", "causes", "LActorTrees$Pairs;", true)
  | 4 => ("ActorTrees$World", "came", "I", false)
  | 5 => ("ActorTrees$World", "latest", "I", false)
  | 6 => ("ActorTrees$World", "time", "I", false)
  | 7 => ("ActorTrees$World", "clock", "I", false)
  | 8 => ("ActorTrees$World", "deadLetters", "I", false)
  | 9 => ("ActorTrees$World", "seed", "I", false)
  | 10 => ("ActorTrees$World", "ended", "I", false)
  | 11 => ("ActorTrees$World", "hasFailed", "Z", false)
  | _ => ("ActorTrees$World", "restarted", "I", false)
def tyX6 : Nat → FieldType := fun k => match k with
  | 0 => .array (.object "ActorTrees$Actor")
  | 1 => .object "ActorTrees$Timers"
  | 2 => .object "ActorTrees$Pairs"
  | 3 => .object "ActorTrees$Pairs"
  | 4 => .int
  | 5 => .int
  | 6 => .int
  | 7 => .int
  | 8 => .int
  | 9 => .int
  | 10 => .int
  | 11 => .boolean
  | _ => .int
abbrev wsX60 : List Cond := u_ws RX6 TX6 13
theorem nmX6 : ∀ a, a < 13 → ∀ b, b < 13 → a ≠ b → (TX6 a).2.1 ≠ (TX6 b).2.1 := by decide +kernel
theorem tyX6_ok : ∀ k, k < 13 → parseFieldDescriptor (TX6 k).2.2.1 = some (tyX6 k) := by decide +kernel
abbrev cX6_init : ByteArray := prog_8_method_1_code
def yX6_init : MethodName := ⟨RX6, "<init>", "()V"⟩
abbrev cX6_copyFrom : ByteArray := prog_8_method_2_code
def yX6_copyFrom : MethodName := ⟨RX6, "copyFrom", "(LActorTrees$World;)V"⟩
abbrev cX6_isActor : ByteArray := prog_8_method_3_code
def yX6_isActor : MethodName := ⟨RX6, "isActor", "(I)Z"⟩
abbrev cX6_isLive : ByteArray := prog_8_method_4_code
def yX6_isLive : MethodName := ⟨RX6, "isLive", "(I)Z"⟩
abbrev cX6_isLiveChild : ByteArray := prog_8_method_5_code
def yX6_isLiveChild : MethodName := ⟨RX6, "isLiveChild", "(II)Z"⟩
abbrev cX6_childBits : ByteArray := prog_8_method_6_code
def yX6_childBits : MethodName := ⟨RX6, "childBits", "(I)I"⟩
abbrev cX6_liveBits : ByteArray := prog_8_method_7_code
def yX6_liveBits : MethodName := ⟨RX6, "liveBits", "()I"⟩
abbrev cX6_mailed : ByteArray := prog_8_method_8_code
def yX6_mailed : MethodName := ⟨RX6, "mailed", "()I"⟩
abbrev cX6_addActor : ByteArray := prog_8_method_9_code
def yX6_addActor : MethodName := ⟨RX6, "addActor", "(IIIII)I"⟩
abbrev cX6_send : ByteArray := prog_8_method_10_code
def yX6_send : MethodName := ⟨RX6, "send", "(III)Z"⟩
abbrev cX6_makeSteps : ByteArray := prog_8_method_11_code
def yX6_makeSteps : MethodName := ⟨RX6, "makeSteps", "(I)I"⟩
abbrev cX6_howItStands : ByteArray := prog_8_method_12_code
def yX6_howItStands : MethodName := ⟨RX6, "howItStands", "()I"⟩
abbrev cX6_hasStep : ByteArray := prog_8_method_13_code
def yX6_hasStep : MethodName := ⟨RX6, "hasStep", "()Z"⟩
abbrev cX6_nextDealer : ByteArray := prog_8_method_14_code
def yX6_nextDealer : MethodName := ⟨RX6, "nextDealer", "()I"⟩
abbrev cX6_step : ByteArray := prog_8_method_15_code
def yX6_step : MethodName := ⟨RX6, "step", "()Z"⟩
abbrev cX6_fireTimer : ByteArray := prog_8_method_16_code
def yX6_fireTimer : MethodName := ⟨RX6, "fireTimer", "()Z"⟩
abbrev cX6_deal : ByteArray := prog_8_method_17_code
def yX6_deal : MethodName := ⟨RX6, "deal", "(III)I"⟩
abbrev cX6_dealEarlier : ByteArray := prog_8_method_18_code
def yX6_dealEarlier : MethodName := ⟨RX6, "dealEarlier", "(IIII)I"⟩
abbrev cX6_dealLater : ByteArray := prog_8_method_19_code
def yX6_dealLater : MethodName := ⟨RX6, "dealLater", "(III)I"⟩
abbrev cX6_sendDown : ByteArray := prog_8_method_20_code
def yX6_sendDown : MethodName := ⟨RX6, "sendDown", "(III)V"⟩
abbrev cX6_unstash : ByteArray := prog_8_method_21_code
def yX6_unstash : MethodName := ⟨RX6, "unstash", "(LActorTrees$Actor;)V"⟩
abbrev cX6_watch : ByteArray := prog_8_method_22_code
def yX6_watch : MethodName := ⟨RX6, "watch", "(II)V"⟩
abbrev cX6_fail : ByteArray := prog_8_method_23_code
def yX6_fail : MethodName := ⟨RX6, "fail", "(II)V"⟩
abbrev cX6_isOverBudgetAbove : ByteArray := prog_8_method_24_code
def yX6_isOverBudgetAbove : MethodName := ⟨RX6, "isOverBudgetAbove", "(I)Z"⟩
abbrev cX6_isRestartedWith : ByteArray := prog_8_method_25_code
def yX6_isRestartedWith : MethodName := ⟨RX6, "isRestartedWith", "(II)Z"⟩
abbrev cX6_restart : ByteArray := prog_8_method_26_code
def yX6_restart : MethodName := ⟨RX6, "restart", "(I)V"⟩
abbrev cX6_halt : ByteArray := prog_8_method_27_code
def yX6_halt : MethodName := ⟨RX6, "halt", "(I)I"⟩
abbrev cX6_greatestLiveChild : ByteArray := prog_8_method_28_code
def yX6_greatestLiveChild : MethodName := ⟨RX6, "greatestLiveChild", "(I)I"⟩
def RX7 : String := "ActorTrees"
def TX7 : u_T := fun k => match k with
  | 0 => ("ActorTrees", "now", "LActorTrees$World;", true)
  | 1 => ("ActorTrees", "thought", "LActorTrees$World;", true)
  | 2 => ("ActorTrees", "kept", "LActorTrees$World;", true)
  | 3 => ("ActorTrees", "ahead", "LActorTrees$World;", true)
  | 4 => ("ActorTrees", "tape", "LActorTrees$Tape;", true)
  | 5 => ("ActorTrees", "handles", "[LActorTrees$Handle;", true)
  | _ => ("ActorTrees", "hasImage", "Z", false)
def tyX7 : Nat → FieldType := fun k => match k with
  | 0 => .object "ActorTrees$World"
  | 1 => .object "ActorTrees$World"
  | 2 => .object "ActorTrees$World"
  | 3 => .object "ActorTrees$World"
  | 4 => .object "ActorTrees$Tape"
  | 5 => .array (.object "ActorTrees$Handle")
  | _ => .boolean
abbrev wsX70 : List Cond := u_ws RX7 TX7 7
theorem nmX7 : ∀ a, a < 7 → ∀ b, b < 7 → a ≠ b → (TX7 a).2.1 ≠ (TX7 b).2.1 := by decide +kernel
theorem tyX7_ok : ∀ k, k < 7 → parseFieldDescriptor (TX7 k).2.2.1 = some (tyX7 k) := by decide +kernel
abbrev cX7_init : ByteArray := prog_1_method_1_code
def yX7_init : MethodName := ⟨RX7, "<init>", "()V"⟩
abbrev cX7_actor : ByteArray := prog_1_method_2_code
def yX7_actor : MethodName := ⟨RX7, "actor", "(III)I"⟩
abbrev cX7_tell : ByteArray := prog_1_method_3_code
def yX7_tell : MethodName := ⟨RX7, "tell", "(III)I"⟩
abbrev cX7_of : ByteArray := prog_1_method_4_code
def yX7_of : MethodName := ⟨RX7, "of", "(II)I"⟩
abbrev cX7_counted : ByteArray := prog_1_method_5_code
def yX7_counted : MethodName := ⟨RX7, "counted", "(I)I"⟩
abbrev cX7_watcher : ByteArray := prog_1_method_9_code
def yX7_watcher : MethodName := ⟨RX7, "watcher", "(II)I"⟩
abbrev cX7_timer : ByteArray := prog_1_method_10_code
def yX7_timer : MethodName := ⟨RX7, "timer", "(II)I"⟩
abbrev cX7_stop : ByteArray := prog_1_method_11_code
def yX7_stop : MethodName := ⟨RX7, "stop", "(I)I"⟩
abbrev cX7_run : ByteArray := prog_1_method_12_code
def yX7_run : MethodName := ⟨RX7, "run", "(I)I"⟩
abbrev cX7_ended : ByteArray := prog_1_method_13_code
def yX7_ended : MethodName := ⟨RX7, "ended", "()I"⟩
abbrev cX7_dry : ByteArray := prog_1_method_16_code
def yX7_dry : MethodName := ⟨RX7, "dry", "(II)I"⟩
abbrev cX7_quiet : ByteArray := prog_1_method_18_code
def yX7_quiet : MethodName := ⟨RX7, "quiet", "()I"⟩
abbrev cX7_drawn : ByteArray := prog_1_method_24_code
def yX7_drawn : MethodName := ⟨RX7, "drawn", "(I)I"⟩
abbrev cX7_seed : ByteArray := prog_1_method_25_code
def yX7_seed : MethodName := ⟨RX7, "seed", "(I)I"⟩
abbrev cX7_image : ByteArray := prog_1_method_27_code
def yX7_image : MethodName := ⟨RX7, "image", "()I"⟩
abbrev cX7_back : ByteArray := prog_1_method_28_code
def yX7_back : MethodName := ⟨RX7, "back", "()I"⟩
abbrev cX7_count : ByteArray := prog_1_method_33_code
def yX7_count : MethodName := ⟨RX7, "count", "(I)I"⟩
abbrev cX7_isNumber : ByteArray := prog_1_method_34_code
def yX7_isNumber : MethodName := ⟨RX7, "isNumber", "(I)Z"⟩
abbrev cX7_isSteps : ByteArray := prog_1_method_35_code
def yX7_isSteps : MethodName := ⟨RX7, "isSteps", "(I)Z"⟩
abbrev cX7_itemOf : ByteArray := prog_1_method_37_code
def yX7_itemOf : MethodName := ⟨RX7, "itemOf", "(LActorTrees$Numbers;I)I"⟩
def RX8 : String := "ActorTreesModel"
def TX8 : u_T := fun k => match k with
  | _ => ("", "", "", false)
def tyX8 : Nat → FieldType := fun k => match k with
  | _ => .int
abbrev wsX80 : List Cond := u_ws RX8 TX8 0
theorem nmX8 : ∀ a, a < 0 → ∀ b, b < 0 → a ≠ b → (TX8 a).2.1 ≠ (TX8 b).2.1 := by decide +kernel
theorem tyX8_ok : ∀ k, k < 0 → parseFieldDescriptor (TX8 k).2.2.1 = some (tyX8 k) := by decide +kernel
def RJ6 : String := "java/lang/Integer"
def TJ6 : u_T := fun k => match k with
  | _ => ("", "", "", false)
def tyJ6 : Nat → FieldType := fun k => match k with
  | _ => .int
abbrev wsJ60 : List Cond := u_ws RJ6 TJ6 0
theorem nmJ6 : ∀ a, a < 0 → ∀ b, b < 0 → a ≠ b → (TJ6 a).2.1 ≠ (TJ6 b).2.1 := by decide +kernel
theorem tyJ6_ok : ∀ k, k < 0 → parseFieldDescriptor (TJ6 k).2.2.1 = some (tyJ6 k) := by decide +kernel
abbrev cJ6_bitCount_0f7a4 : ByteArray := prog_11_method_49_code
def yJ6_bitCount_0f7a4 : MethodName := ⟨RJ6, "bitCount", "(I)I"⟩
def RJ9 : String := "java/lang/Math"
def TJ9 : u_T := fun k => match k with
  | _ => ("", "", "", false)
def tyJ9 : Nat → FieldType := fun k => match k with
  | _ => .int
abbrev wsJ90 : List Cond := u_ws RJ9 TJ9 0
theorem nmJ9 : ∀ a, a < 0 → ∀ b, b < 0 → a ≠ b → (TJ9 a).2.1 ≠ (TJ9 b).2.1 := by decide +kernel
theorem tyJ9_ok : ∀ k, k < 0 → parseFieldDescriptor (TJ9 k).2.2.1 = some (tyJ9 k) := by decide +kernel
abbrev cJ9_max_7cf53 : ByteArray := prog_12_method_65_code
def yJ9_max_7cf53 : MethodName := ⟨RJ9, "max", "(II)I"⟩
abbrev cJ9_min_7cf53 : ByteArray := prog_12_method_69_code
def yJ9_min_7cf53 : MethodName := ⟨RJ9, "min", "(II)I"⟩
def RJ10 : String := "java/lang/System"
def TJ10 : u_T := fun k => match k with
  | _ => ("", "", "", false)
def tyJ10 : Nat → FieldType := fun k => match k with
  | _ => .int
abbrev wsJ100 : List Cond := u_ws RJ10 TJ10 0
theorem nmJ10 : ∀ a, a < 0 → ∀ b, b < 0 → a ≠ b → (TJ10 a).2.1 ≠ (TJ10 b).2.1 := by decide +kernel
theorem tyJ10_ok : ∀ k, k < 0 → parseFieldDescriptor (TJ10 k).2.2.1 = some (tyJ10 k) := by decide +kernel
def RL : String := "ActorTreesLaw"
abbrev cL_cell : ByteArray := method_2_code
def yL_cell : MethodName := ⟨RL, "cell", "([II)I"⟩
abbrev cL_act : ByteArray := method_3_code
def yL_act : MethodName := ⟨RL, "act", "(LActorTrees;[II)V"⟩
abbrev cL_isFair : ByteArray := method_4_code
def yL_isFair : MethodName := ⟨RL, "isFair", "(LActorTrees;)Z"⟩
abbrev cL_law : ByteArray := code
def yL_law : MethodName := ⟨RL, "law", "([I)Z"⟩
abbrev xcl : List vw_C := [(RX0, TX0, 12), (RX1, TX1, 3), (RX2, TX2, 2), (RX3, TX3, 3), (RX4, TX4, 4), (RX5, TX5, 4), (RX6, TX6, 13), (RX7, TX7, 7)]
