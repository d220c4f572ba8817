section
-- ===== PART A: goes FIRST, ahead of the names: the tables' words, and 'selects' of the private methods out of them =====
/-- a private method of a class that the tables say can be made, by its rows of tables_1 -/
def lw_okq (q : MethodName × Nat) : Prop := (q.1.cls ≠ "java/lang/invoke/MethodHandle" ∧ q.1.cls ≠ "java/lang/invoke/VarHandle") ∧ Cond.instantiable q.1.cls q.2 ∈ tables_1 ∧ Cond.privateMethod q.1 ∈ tables_1 ∧ Cond.instanceMethod q.1 ∈ tables_1
theorem lw_p0 : lw_okq (⟨"ActorTrees$World", "greatestLiveChild", "(I)I"⟩, 13) := ⟨⟨by decide +kernel, by decide +kernel⟩, List.mem_of_getElem? (i := 22) (by decide +kernel), List.mem_of_getElem? (i := 395) (by decide +kernel), List.mem_of_getElem? (i := 396) (by decide +kernel)⟩
theorem lw_p1 : lw_okq (⟨"ActorTrees$Timers", "move", "(II)V"⟩, 4) := ⟨⟨by decide +kernel, by decide +kernel⟩, List.mem_of_getElem? (i := 30) (by decide +kernel), List.mem_of_getElem? (i := 408) (by decide +kernel), List.mem_of_getElem? (i := 409) (by decide +kernel)⟩
theorem lw_p2 : lw_okq (⟨"ActorTrees$World", "howItStands", "()I"⟩, 13) := ⟨⟨by decide +kernel, by decide +kernel⟩, List.mem_of_getElem? (i := 22) (by decide +kernel), List.mem_of_getElem? (i := 429) (by decide +kernel), List.mem_of_getElem? (i := 430) (by decide +kernel)⟩
theorem lw_p3 : lw_okq (⟨"ActorTrees$World", "nextDealer", "()I"⟩, 13) := ⟨⟨by decide +kernel, by decide +kernel⟩, List.mem_of_getElem? (i := 22) (by decide +kernel), List.mem_of_getElem? (i := 437) (by decide +kernel), List.mem_of_getElem? (i := 438) (by decide +kernel)⟩
theorem lw_p4 : lw_okq (⟨"ActorTrees$World", "fireTimer", "()Z"⟩, 13) := ⟨⟨by decide +kernel, by decide +kernel⟩, List.mem_of_getElem? (i := 22) (by decide +kernel), List.mem_of_getElem? (i := 445) (by decide +kernel), List.mem_of_getElem? (i := 446) (by decide +kernel)⟩
theorem lw_p5 : lw_okq (⟨"ActorTrees$World", "dealLater", "(III)I"⟩, 13) := ⟨⟨by decide +kernel, by decide +kernel⟩, List.mem_of_getElem? (i := 22) (by decide +kernel), List.mem_of_getElem? (i := 475) (by decide +kernel), List.mem_of_getElem? (i := 476) (by decide +kernel)⟩
theorem lw_p6 : lw_okq (⟨"ActorTrees$World", "sendDown", "(III)V"⟩, 13) := ⟨⟨by decide +kernel, by decide +kernel⟩, List.mem_of_getElem? (i := 22) (by decide +kernel), List.mem_of_getElem? (i := 483) (by decide +kernel), List.mem_of_getElem? (i := 484) (by decide +kernel)⟩
theorem lw_p7 : lw_okq (⟨"ActorTrees$World", "watch", "(II)V"⟩, 13) := ⟨⟨by decide +kernel, by decide +kernel⟩, List.mem_of_getElem? (i := 22) (by decide +kernel), List.mem_of_getElem? (i := 487) (by decide +kernel), List.mem_of_getElem? (i := 488) (by decide +kernel)⟩
theorem lw_p8 : lw_okq (⟨"ActorTrees$World", "dealEarlier", "(IIII)I"⟩, 13) := ⟨⟨by decide +kernel, by decide +kernel⟩, List.mem_of_getElem? (i := 22) (by decide +kernel), List.mem_of_getElem? (i := 497) (by decide +kernel), List.mem_of_getElem? (i := 498) (by decide +kernel)⟩
theorem lw_p9 : lw_okq (⟨"ActorTrees$World", "unstash", "(LActorTrees$Actor;)V"⟩, 13) := ⟨⟨by decide +kernel, by decide +kernel⟩, List.mem_of_getElem? (i := 22) (by decide +kernel), List.mem_of_getElem? (i := 501) (by decide +kernel), List.mem_of_getElem? (i := 502) (by decide +kernel)⟩
theorem lw_p10 : lw_okq (⟨"ActorTrees$World", "isOverBudgetAbove", "(I)Z"⟩, 13) := ⟨⟨by decide +kernel, by decide +kernel⟩, List.mem_of_getElem? (i := 22) (by decide +kernel), List.mem_of_getElem? (i := 516) (by decide +kernel), List.mem_of_getElem? (i := 517) (by decide +kernel)⟩
theorem lw_p11 : lw_okq (⟨"ActorTrees$World", "isRestartedWith", "(II)Z"⟩, 13) := ⟨⟨by decide +kernel, by decide +kernel⟩, List.mem_of_getElem? (i := 22) (by decide +kernel), List.mem_of_getElem? (i := 524) (by decide +kernel), List.mem_of_getElem? (i := 525) (by decide +kernel)⟩
theorem lw_p12 : lw_okq (⟨"ActorTrees$World", "restart", "(I)V"⟩, 13) := ⟨⟨by decide +kernel, by decide +kernel⟩, List.mem_of_getElem? (i := 22) (by decide +kernel), List.mem_of_getElem? (i := 528) (by decide +kernel), List.mem_of_getElem? (i := 529) (by decide +kernel)⟩
theorem lw_p13 : lw_okq (⟨"ActorTrees$Tape", "readNumber", "(Z)Z"⟩, 4) := ⟨⟨by decide +kernel, by decide +kernel⟩, List.mem_of_getElem? (i := 207) (by decide +kernel), List.mem_of_getElem? (i := 628) (by decide +kernel), List.mem_of_getElem? (i := 629) (by decide +kernel)⟩
theorem lw_p14 : lw_okq (⟨"ActorTrees$Tape", "isNext", "(C)Z"⟩, 4) := ⟨⟨by decide +kernel, by decide +kernel⟩, List.mem_of_getElem? (i := 207) (by decide +kernel), List.mem_of_getElem? (i := 632) (by decide +kernel), List.mem_of_getElem? (i := 633) (by decide +kernel)⟩
theorem lw_p15 : lw_okq (⟨"ActorTrees$Tape", "isDigitNext", "()Z"⟩, 4) := ⟨⟨by decide +kernel, by decide +kernel⟩, List.mem_of_getElem? (i := 207) (by decide +kernel), List.mem_of_getElem? (i := 636) (by decide +kernel), List.mem_of_getElem? (i := 637) (by decide +kernel)⟩
def lw_privs_1 : List (MethodName × Nat) := [(⟨"ActorTrees$World", "greatestLiveChild", "(I)I"⟩, 13), (⟨"ActorTrees$Timers", "move", "(II)V"⟩, 4), (⟨"ActorTrees$World", "howItStands", "()I"⟩, 13), (⟨"ActorTrees$World", "nextDealer", "()I"⟩, 13), (⟨"ActorTrees$World", "fireTimer", "()Z"⟩, 13), (⟨"ActorTrees$World", "dealLater", "(III)I"⟩, 13), (⟨"ActorTrees$World", "sendDown", "(III)V"⟩, 13), (⟨"ActorTrees$World", "watch", "(II)V"⟩, 13), (⟨"ActorTrees$World", "dealEarlier", "(IIII)I"⟩, 13), (⟨"ActorTrees$World", "unstash", "(LActorTrees$Actor;)V"⟩, 13), (⟨"ActorTrees$World", "isOverBudgetAbove", "(I)Z"⟩, 13), (⟨"ActorTrees$World", "isRestartedWith", "(II)Z"⟩, 13), (⟨"ActorTrees$World", "restart", "(I)V"⟩, 13), (⟨"ActorTrees$Tape", "readNumber", "(Z)Z"⟩, 4), (⟨"ActorTrees$Tape", "isNext", "(C)Z"⟩, 4), (⟨"ActorTrees$Tape", "isDigitNext", "()Z"⟩, 4)]
theorem lw_r1 : ∀ q ∈ lw_privs_1, lw_okq q := List.forall_mem_cons.mpr ⟨lw_p0, List.forall_mem_cons.mpr ⟨lw_p1, List.forall_mem_cons.mpr ⟨lw_p2, List.forall_mem_cons.mpr ⟨lw_p3, List.forall_mem_cons.mpr ⟨lw_p4, List.forall_mem_cons.mpr ⟨lw_p5, List.forall_mem_cons.mpr ⟨lw_p6, List.forall_mem_cons.mpr ⟨lw_p7, List.forall_mem_cons.mpr ⟨lw_p8, List.forall_mem_cons.mpr ⟨lw_p9, List.forall_mem_cons.mpr ⟨lw_p10, List.forall_mem_cons.mpr ⟨lw_p11, List.forall_mem_cons.mpr ⟨lw_p12, List.forall_mem_cons.mpr ⟨lw_p13, List.forall_mem_cons.mpr ⟨lw_p14, List.forall_mem_cons.mpr ⟨lw_p15, fun _ h => absurd h List.not_mem_nil⟩⟩⟩⟩⟩⟩⟩⟩⟩⟩⟩⟩⟩⟩⟩⟩
theorem lw_p16 : lw_okq (⟨"ActorTrees", "doLineButSteps", "()I"⟩, 7) := ⟨⟨by decide +kernel, by decide +kernel⟩, List.mem_of_getElem? (i := 14) (by decide +kernel), List.mem_of_getElem? (i := 642) (by decide +kernel), List.mem_of_getElem? (i := 643) (by decide +kernel)⟩
theorem lw_p17 : lw_okq (⟨"ActorTrees", "firstOtherwise", "(LActorTrees$Numbers;I)I"⟩, 7) := ⟨⟨by decide +kernel, by decide +kernel⟩, List.mem_of_getElem? (i := 14) (by decide +kernel), List.mem_of_getElem? (i := 663) (by decide +kernel), List.mem_of_getElem? (i := 664) (by decide +kernel)⟩
theorem lw_p18 : lw_okq (⟨"ActorTreesModel", "canBe", "(III)I"⟩, 22) := ⟨⟨by decide +kernel, by decide +kernel⟩, List.mem_of_getElem? (i := 714) (by decide +kernel), List.mem_of_getElem? (i := 793) (by decide +kernel), List.mem_of_getElem? (i := 794) (by decide +kernel)⟩
theorem lw_p19 : lw_okq (⟨"ActorTreesModel", "isActor", "(I)Z"⟩, 22) := ⟨⟨by decide +kernel, by decide +kernel⟩, List.mem_of_getElem? (i := 714) (by decide +kernel), List.mem_of_getElem? (i := 797) (by decide +kernel), List.mem_of_getElem? (i := 798) (by decide +kernel)⟩
theorem lw_p20 : lw_okq (⟨"ActorTreesModel", "isLive", "(I)Z"⟩, 22) := ⟨⟨by decide +kernel, by decide +kernel⟩, List.mem_of_getElem? (i := 714) (by decide +kernel), List.mem_of_getElem? (i := 807) (by decide +kernel), List.mem_of_getElem? (i := 808) (by decide +kernel)⟩
theorem lw_p21 : lw_okq (⟨"ActorTreesModel", "at", "(II)I"⟩, 22) := ⟨⟨by decide +kernel, by decide +kernel⟩, List.mem_of_getElem? (i := 714) (by decide +kernel), List.mem_of_getElem? (i := 811) (by decide +kernel), List.mem_of_getElem? (i := 812) (by decide +kernel)⟩
theorem lw_p22 : lw_okq (⟨"ActorTreesModel", "sets", "(III)V"⟩, 22) := ⟨⟨by decide +kernel, by decide +kernel⟩, List.mem_of_getElem? (i := 714) (by decide +kernel), List.mem_of_getElem? (i := 815) (by decide +kernel), List.mem_of_getElem? (i := 816) (by decide +kernel)⟩
theorem lw_p23 : lw_okq (⟨"ActorTreesModel", "sends", "(III)Z"⟩, 22) := ⟨⟨by decide +kernel, by decide +kernel⟩, List.mem_of_getElem? (i := 714) (by decide +kernel), List.mem_of_getElem? (i := 826) (by decide +kernel), List.mem_of_getElem? (i := 827) (by decide +kernel)⟩
theorem lw_p24 : lw_okq (⟨"ActorTreesModel", "doing", "(I)I"⟩, 22) := ⟨⟨by decide +kernel, by decide +kernel⟩, List.mem_of_getElem? (i := 714) (by decide +kernel), List.mem_of_getElem? (i := 834) (by decide +kernel), List.mem_of_getElem? (i := 835) (by decide +kernel)⟩
theorem lw_p25 : lw_okq (⟨"ActorTreesModel", "timersOf", "(I)I"⟩, 22) := ⟨⟨by decide +kernel, by decide +kernel⟩, List.mem_of_getElem? (i := 714) (by decide +kernel), List.mem_of_getElem? (i := 838) (by decide +kernel), List.mem_of_getElem? (i := 839) (by decide +kernel)⟩
theorem lw_p26 : lw_okq (⟨"ActorTreesModel", "noted", "(IZ)I"⟩, 22) := ⟨⟨by decide +kernel, by decide +kernel⟩, List.mem_of_getElem? (i := 714) (by decide +kernel), List.mem_of_getElem? (i := 842) (by decide +kernel), List.mem_of_getElem? (i := 843) (by decide +kernel)⟩
theorem lw_p27 : lw_okq (⟨"ActorTreesModel", "childrenOf", "(I)I"⟩, 22) := ⟨⟨by decide +kernel, by decide +kernel⟩, List.mem_of_getElem? (i := 714) (by decide +kernel), List.mem_of_getElem? (i := 846) (by decide +kernel), List.mem_of_getElem? (i := 847) (by decide +kernel)⟩
theorem lw_p28 : lw_okq (⟨"ActorTreesModel", "messageAt", "(IIZ)I"⟩, 22) := ⟨⟨by decide +kernel, by decide +kernel⟩, List.mem_of_getElem? (i := 714) (by decide +kernel), List.mem_of_getElem? (i := 859) (by decide +kernel), List.mem_of_getElem? (i := 860) (by decide +kernel)⟩
theorem lw_p29 : lw_okq (⟨"ActorTreesModel", "liveOnes", "()I"⟩, 22) := ⟨⟨by decide +kernel, by decide +kernel⟩, List.mem_of_getElem? (i := 714) (by decide +kernel), List.mem_of_getElem? (i := 883) (by decide +kernel), List.mem_of_getElem? (i := 884) (by decide +kernel)⟩
theorem lw_p30 : lw_okq (⟨"ActorTreesModel", "stops", "(I)V"⟩, 22) := ⟨⟨by decide +kernel, by decide +kernel⟩, List.mem_of_getElem? (i := 714) (by decide +kernel), List.mem_of_getElem? (i := 890) (by decide +kernel), List.mem_of_getElem? (i := 891) (by decide +kernel)⟩
theorem lw_p31 : lw_okq (⟨"ActorTreesModel", "stopsChildren", "(I)V"⟩, 22) := ⟨⟨by decide +kernel, by decide +kernel⟩, List.mem_of_getElem? (i := 714) (by decide +kernel), List.mem_of_getElem? (i := 894) (by decide +kernel), List.mem_of_getElem? (i := 895) (by decide +kernel)⟩
def lw_privs_2 : List (MethodName × Nat) := [(⟨"ActorTrees", "doLineButSteps", "()I"⟩, 7), (⟨"ActorTrees", "firstOtherwise", "(LActorTrees$Numbers;I)I"⟩, 7), (⟨"ActorTreesModel", "canBe", "(III)I"⟩, 22), (⟨"ActorTreesModel", "isActor", "(I)Z"⟩, 22), (⟨"ActorTreesModel", "isLive", "(I)Z"⟩, 22), (⟨"ActorTreesModel", "at", "(II)I"⟩, 22), (⟨"ActorTreesModel", "sets", "(III)V"⟩, 22), (⟨"ActorTreesModel", "sends", "(III)Z"⟩, 22), (⟨"ActorTreesModel", "doing", "(I)I"⟩, 22), (⟨"ActorTreesModel", "timersOf", "(I)I"⟩, 22), (⟨"ActorTreesModel", "noted", "(IZ)I"⟩, 22), (⟨"ActorTreesModel", "childrenOf", "(I)I"⟩, 22), (⟨"ActorTreesModel", "messageAt", "(IIZ)I"⟩, 22), (⟨"ActorTreesModel", "liveOnes", "()I"⟩, 22), (⟨"ActorTreesModel", "stops", "(I)V"⟩, 22), (⟨"ActorTreesModel", "stopsChildren", "(I)V"⟩, 22)]
theorem lw_r2 : ∀ q ∈ lw_privs_2, lw_okq q := List.forall_mem_cons.mpr ⟨lw_p16, List.forall_mem_cons.mpr ⟨lw_p17, List.forall_mem_cons.mpr ⟨lw_p18, List.forall_mem_cons.mpr ⟨lw_p19, List.forall_mem_cons.mpr ⟨lw_p20, List.forall_mem_cons.mpr ⟨lw_p21, List.forall_mem_cons.mpr ⟨lw_p22, List.forall_mem_cons.mpr ⟨lw_p23, List.forall_mem_cons.mpr ⟨lw_p24, List.forall_mem_cons.mpr ⟨lw_p25, List.forall_mem_cons.mpr ⟨lw_p26, List.forall_mem_cons.mpr ⟨lw_p27, List.forall_mem_cons.mpr ⟨lw_p28, List.forall_mem_cons.mpr ⟨lw_p29, List.forall_mem_cons.mpr ⟨lw_p30, List.forall_mem_cons.mpr ⟨lw_p31, fun _ h => absurd h List.not_mem_nil⟩⟩⟩⟩⟩⟩⟩⟩⟩⟩⟩⟩⟩⟩⟩⟩
theorem lw_p32 : lw_okq (⟨"ActorTreesModel", "isLiveChild", "(II)Z"⟩, 22) := ⟨⟨by decide +kernel, by decide +kernel⟩, List.mem_of_getElem? (i := 714) (by decide +kernel), List.mem_of_getElem? (i := 898) (by decide +kernel), List.mem_of_getElem? (i := 899) (by decide +kernel)⟩
theorem lw_p33 : lw_okq (⟨"ActorTreesModel", "forgets", "(I)V"⟩, 22) := ⟨⟨by decide +kernel, by decide +kernel⟩, List.mem_of_getElem? (i := 714) (by decide +kernel), List.mem_of_getElem? (i := 902) (by decide +kernel), List.mem_of_getElem? (i := 903) (by decide +kernel)⟩
theorem lw_p34 : lw_okq (⟨"ActorTreesModel", "unwatches", "(I)V"⟩, 22) := ⟨⟨by decide +kernel, by decide +kernel⟩, List.mem_of_getElem? (i := 714) (by decide +kernel), List.mem_of_getElem? (i := 906) (by decide +kernel), List.mem_of_getElem? (i := 907) (by decide +kernel)⟩
theorem lw_p35 : lw_okq (⟨"ActorTreesModel", "runs", "(I)I"⟩, 22) := ⟨⟨by decide +kernel, by decide +kernel⟩, List.mem_of_getElem? (i := 714) (by decide +kernel), List.mem_of_getElem? (i := 914) (by decide +kernel), List.mem_of_getElem? (i := 915) (by decide +kernel)⟩
theorem lw_p36 : lw_okq (⟨"ActorTreesModel", "isEnd", "(II)Z"⟩, 22) := ⟨⟨by decide +kernel, by decide +kernel⟩, List.mem_of_getElem? (i := 714) (by decide +kernel), List.mem_of_getElem? (i := 918) (by decide +kernel), List.mem_of_getElem? (i := 919) (by decide +kernel)⟩
theorem lw_p37 : lw_okq (⟨"ActorTreesModel", "hasStep", "()Z"⟩, 22) := ⟨⟨by decide +kernel, by decide +kernel⟩, List.mem_of_getElem? (i := 714) (by decide +kernel), List.mem_of_getElem? (i := 922) (by decide +kernel), List.mem_of_getElem? (i := 923) (by decide +kernel)⟩
theorem lw_p38 : lw_okq (⟨"ActorTreesModel", "nextActor", "()I"⟩, 22) := ⟨⟨by decide +kernel, by decide +kernel⟩, List.mem_of_getElem? (i := 714) (by decide +kernel), List.mem_of_getElem? (i := 926) (by decide +kernel), List.mem_of_getElem? (i := 927) (by decide +kernel)⟩
theorem lw_p39 : lw_okq (⟨"ActorTreesModel", "step", "()V"⟩, 22) := ⟨⟨by decide +kernel, by decide +kernel⟩, List.mem_of_getElem? (i := 714) (by decide +kernel), List.mem_of_getElem? (i := 930) (by decide +kernel), List.mem_of_getElem? (i := 931) (by decide +kernel)⟩
theorem lw_p40 : lw_okq (⟨"ActorTreesModel", "logs", "(II)V"⟩, 22) := ⟨⟨by decide +kernel, by decide +kernel⟩, List.mem_of_getElem? (i := 714) (by decide +kernel), List.mem_of_getElem? (i := 934) (by decide +kernel), List.mem_of_getElem? (i := 935) (by decide +kernel)⟩
theorem lw_p41 : lw_okq (⟨"ActorTreesModel", "deals", "(III)V"⟩, 22) := ⟨⟨by decide +kernel, by decide +kernel⟩, List.mem_of_getElem? (i := 714) (by decide +kernel), List.mem_of_getElem? (i := 941) (by decide +kernel), List.mem_of_getElem? (i := 942) (by decide +kernel)⟩
theorem lw_p42 : lw_okq (⟨"ActorTreesModel", "fails", "(II)V"⟩, 22) := ⟨⟨by decide +kernel, by decide +kernel⟩, List.mem_of_getElem? (i := 714) (by decide +kernel), List.mem_of_getElem? (i := 945) (by decide +kernel), List.mem_of_getElem? (i := 946) (by decide +kernel)⟩
theorem lw_p43 : lw_okq (⟨"ActorTreesModel", "isOverBudget", "(I)Z"⟩, 22) := ⟨⟨by decide +kernel, by decide +kernel⟩, List.mem_of_getElem? (i := 714) (by decide +kernel), List.mem_of_getElem? (i := 949) (by decide +kernel), List.mem_of_getElem? (i := 950) (by decide +kernel)⟩
theorem lw_p44 : lw_okq (⟨"ActorTreesModel", "restarts", "(I)V"⟩, 22) := ⟨⟨by decide +kernel, by decide +kernel⟩, List.mem_of_getElem? (i := 714) (by decide +kernel), List.mem_of_getElem? (i := 953) (by decide +kernel), List.mem_of_getElem? (i := 954) (by decide +kernel)⟩
theorem lw_p45 : lw_okq (⟨"ActorTreesModel", "comesBack", "(I)V"⟩, 22) := ⟨⟨by decide +kernel, by decide +kernel⟩, List.mem_of_getElem? (i := 714) (by decide +kernel), List.mem_of_getElem? (i := 957) (by decide +kernel), List.mem_of_getElem? (i := 958) (by decide +kernel)⟩
theorem lw_p46 : lw_okq (⟨"ActorTreesModel", "pass", "(IIZ)V"⟩, 22) := ⟨⟨by decide +kernel, by decide +kernel⟩, List.mem_of_getElem? (i := 714) (by decide +kernel), List.mem_of_getElem? (i := 961) (by decide +kernel), List.mem_of_getElem? (i := 962) (by decide +kernel)⟩
theorem lw_p47 : lw_okq (⟨"ActorTreesModel", "holds", "(III)V"⟩, 22) := ⟨⟨by decide +kernel, by decide +kernel⟩, List.mem_of_getElem? (i := 714) (by decide +kernel), List.mem_of_getElem? (i := 965) (by decide +kernel), List.mem_of_getElem? (i := 966) (by decide +kernel)⟩
def lw_privs_3 : List (MethodName × Nat) := [(⟨"ActorTreesModel", "isLiveChild", "(II)Z"⟩, 22), (⟨"ActorTreesModel", "forgets", "(I)V"⟩, 22), (⟨"ActorTreesModel", "unwatches", "(I)V"⟩, 22), (⟨"ActorTreesModel", "runs", "(I)I"⟩, 22), (⟨"ActorTreesModel", "isEnd", "(II)Z"⟩, 22), (⟨"ActorTreesModel", "hasStep", "()Z"⟩, 22), (⟨"ActorTreesModel", "nextActor", "()I"⟩, 22), (⟨"ActorTreesModel", "step", "()V"⟩, 22), (⟨"ActorTreesModel", "logs", "(II)V"⟩, 22), (⟨"ActorTreesModel", "deals", "(III)V"⟩, 22), (⟨"ActorTreesModel", "fails", "(II)V"⟩, 22), (⟨"ActorTreesModel", "isOverBudget", "(I)Z"⟩, 22), (⟨"ActorTreesModel", "restarts", "(I)V"⟩, 22), (⟨"ActorTreesModel", "comesBack", "(I)V"⟩, 22), (⟨"ActorTreesModel", "pass", "(IIZ)V"⟩, 22), (⟨"ActorTreesModel", "holds", "(III)V"⟩, 22)]
theorem lw_r3 : ∀ q ∈ lw_privs_3, lw_okq q := List.forall_mem_cons.mpr ⟨lw_p32, List.forall_mem_cons.mpr ⟨lw_p33, List.forall_mem_cons.mpr ⟨lw_p34, List.forall_mem_cons.mpr ⟨lw_p35, List.forall_mem_cons.mpr ⟨lw_p36, List.forall_mem_cons.mpr ⟨lw_p37, List.forall_mem_cons.mpr ⟨lw_p38, List.forall_mem_cons.mpr ⟨lw_p39, List.forall_mem_cons.mpr ⟨lw_p40, List.forall_mem_cons.mpr ⟨lw_p41, List.forall_mem_cons.mpr ⟨lw_p42, List.forall_mem_cons.mpr ⟨lw_p43, List.forall_mem_cons.mpr ⟨lw_p44, List.forall_mem_cons.mpr ⟨lw_p45, List.forall_mem_cons.mpr ⟨lw_p46, List.forall_mem_cons.mpr ⟨lw_p47, fun _ h => absurd h List.not_mem_nil⟩⟩⟩⟩⟩⟩⟩⟩⟩⟩⟩⟩⟩⟩⟩⟩
theorem lw_p48 : lw_okq (⟨"ActorTreesModel", "switches", "(II)V"⟩, 22) := ⟨⟨by decide +kernel, by decide +kernel⟩, List.mem_of_getElem? (i := 714) (by decide +kernel), List.mem_of_getElem? (i := 969) (by decide +kernel), List.mem_of_getElem? (i := 970) (by decide +kernel)⟩
theorem lw_p49 : lw_okq (⟨"ActorTreesModel", "delays", "(II)V"⟩, 22) := ⟨⟨by decide +kernel, by decide +kernel⟩, List.mem_of_getElem? (i := 714) (by decide +kernel), List.mem_of_getElem? (i := 973) (by decide +kernel), List.mem_of_getElem? (i := 974) (by decide +kernel)⟩
theorem lw_p50 : lw_okq (⟨"ActorTreesModel", "watches", "(II)V"⟩, 22) := ⟨⟨by decide +kernel, by decide +kernel⟩, List.mem_of_getElem? (i := 714) (by decide +kernel), List.mem_of_getElem? (i := 977) (by decide +kernel), List.mem_of_getElem? (i := 978) (by decide +kernel)⟩
theorem lw_p51 : lw_okq (⟨"ActorTreesModel", "firstTimer", "()I"⟩, 22) := ⟨⟨by decide +kernel, by decide +kernel⟩, List.mem_of_getElem? (i := 714) (by decide +kernel), List.mem_of_getElem? (i := 981) (by decide +kernel), List.mem_of_getElem? (i := 982) (by decide +kernel)⟩
theorem lw_p52 : lw_okq (⟨"ActorTreesModel", "isNext", "(II)Z"⟩, 22) := ⟨⟨by decide +kernel, by decide +kernel⟩, List.mem_of_getElem? (i := 714) (by decide +kernel), List.mem_of_getElem? (i := 1024) (by decide +kernel), List.mem_of_getElem? (i := 1025) (by decide +kernel)⟩
theorem lw_p53 : lw_okq (⟨"ActorTreesModel", "isForm", "()Z"⟩, 22) := ⟨⟨by decide +kernel, by decide +kernel⟩, List.mem_of_getElem? (i := 714) (by decide +kernel), List.mem_of_getElem? (i := 1036) (by decide +kernel), List.mem_of_getElem? (i := 1037) (by decide +kernel)⟩
theorem lw_p54 : lw_okq (⟨"ActorTreesModel", "line", "()I"⟩, 22) := ⟨⟨by decide +kernel, by decide +kernel⟩, List.mem_of_getElem? (i := 714) (by decide +kernel), List.mem_of_getElem? (i := 1040) (by decide +kernel), List.mem_of_getElem? (i := 1041) (by decide +kernel)⟩
theorem lw_p55 : lw_okq (⟨"ActorTreesModel", "sees", "(II)Z"⟩, 22) := ⟨⟨by decide +kernel, by decide +kernel⟩, List.mem_of_getElem? (i := 714) (by decide +kernel), List.mem_of_getElem? (i := 1044) (by decide +kernel), List.mem_of_getElem? (i := 1045) (by decide +kernel)⟩
theorem lw_p56 : lw_okq (⟨"ActorTreesModel", "must", "(II)I"⟩, 22) := ⟨⟨by decide +kernel, by decide +kernel⟩, List.mem_of_getElem? (i := 714) (by decide +kernel), List.mem_of_getElem? (i := 1048) (by decide +kernel), List.mem_of_getElem? (i := 1049) (by decide +kernel)⟩
theorem lw_p57 : lw_okq (⟨"ActorTreesModel", "number", "(Z)I"⟩, 22) := ⟨⟨by decide +kernel, by decide +kernel⟩, List.mem_of_getElem? (i := 714) (by decide +kernel), List.mem_of_getElem? (i := 1052) (by decide +kernel), List.mem_of_getElem? (i := 1053) (by decide +kernel)⟩
theorem lw_p58 : lw_okq (⟨"ActorTreesModel", "does", "(I)Z"⟩, 22) := ⟨⟨by decide +kernel, by decide +kernel⟩, List.mem_of_getElem? (i := 714) (by decide +kernel), List.mem_of_getElem? (i := 1056) (by decide +kernel), List.mem_of_getElem? (i := 1057) (by decide +kernel)⟩
theorem lw_p59 : lw_okq (⟨"ActorTreesModel", "isHandle", "(I)Z"⟩, 22) := ⟨⟨by decide +kernel, by decide +kernel⟩, List.mem_of_getElem? (i := 714) (by decide +kernel), List.mem_of_getElem? (i := 1075) (by decide +kernel), List.mem_of_getElem? (i := 1076) (by decide +kernel)⟩
theorem lw_p60 : lw_okq (⟨"ActorTreesModel", "ordered", "(II)I"⟩, 22) := ⟨⟨by decide +kernel, by decide +kernel⟩, List.mem_of_getElem? (i := 714) (by decide +kernel), List.mem_of_getElem? (i := 1079) (by decide +kernel), List.mem_of_getElem? (i := 1080) (by decide +kernel)⟩
def lw_privs_4 : List (MethodName × Nat) := [(⟨"ActorTreesModel", "switches", "(II)V"⟩, 22), (⟨"ActorTreesModel", "delays", "(II)V"⟩, 22), (⟨"ActorTreesModel", "watches", "(II)V"⟩, 22), (⟨"ActorTreesModel", "firstTimer", "()I"⟩, 22), (⟨"ActorTreesModel", "isNext", "(II)Z"⟩, 22), (⟨"ActorTreesModel", "isForm", "()Z"⟩, 22), (⟨"ActorTreesModel", "line", "()I"⟩, 22), (⟨"ActorTreesModel", "sees", "(II)Z"⟩, 22), (⟨"ActorTreesModel", "must", "(II)I"⟩, 22), (⟨"ActorTreesModel", "number", "(Z)I"⟩, 22), (⟨"ActorTreesModel", "does", "(I)Z"⟩, 22), (⟨"ActorTreesModel", "isHandle", "(I)Z"⟩, 22), (⟨"ActorTreesModel", "ordered", "(II)I"⟩, 22)]
theorem lw_r4 : ∀ q ∈ lw_privs_4, lw_okq q := List.forall_mem_cons.mpr ⟨lw_p48, List.forall_mem_cons.mpr ⟨lw_p49, List.forall_mem_cons.mpr ⟨lw_p50, List.forall_mem_cons.mpr ⟨lw_p51, List.forall_mem_cons.mpr ⟨lw_p52, List.forall_mem_cons.mpr ⟨lw_p53, List.forall_mem_cons.mpr ⟨lw_p54, List.forall_mem_cons.mpr ⟨lw_p55, List.forall_mem_cons.mpr ⟨lw_p56, List.forall_mem_cons.mpr ⟨lw_p57, List.forall_mem_cons.mpr ⟨lw_p58, List.forall_mem_cons.mpr ⟨lw_p59, List.forall_mem_cons.mpr ⟨lw_p60, fun _ h => absurd h List.not_mem_nil⟩⟩⟩⟩⟩⟩⟩⟩⟩⟩⟩⟩⟩
def lw_privs : List (MethodName × Nat) := lw_privs_1 ++ (lw_privs_2 ++ (lw_privs_3 ++ (lw_privs_4)))
def lw_tbl : List Cond := k2_sels lw_privs ++ tables_1
theorem lw_privs_ok : ∀ q ∈ lw_privs, lw_okq q := by
  show ∀ q ∈ lw_privs_1 ++ (lw_privs_2 ++ (lw_privs_3 ++ (lw_privs_4))), lw_okq q
  exact List.forall_mem_append.mpr ⟨lw_r1, List.forall_mem_append.mpr ⟨lw_r2, List.forall_mem_append.mpr ⟨lw_r3, lw_r4⟩⟩⟩
-- ===== end of PART A; then your names; then what follows =====
/-! ===== BEGIN words of one list among another's, by their places ===== -/
theorem goodIn_r {big : List Cond} (ws : List Cond) (ps : List Nat) (hp : ws = ps.filterMap (fun i => big[i]?)) (h : ws.all goodWord = true) : GoodIn big ws := by
  intro w hw
  have h1 := List.all_eq_true.mp h w hw
  rw [hp] at hw
  obtain ⟨i, -, hi⟩ := List.mem_filterMap.mp hw
  have hm : w ∈ big := by first | exact List.mem_of_getElem? hi | exact List.getElem?_mem hi
  exact ⟨hm, good_of_word h1⟩
theorem goodIn_app {big a b : List Cond} (ha : GoodIn big a) (hb : GoodIn big b) : GoodIn big (a ++ b) := fun w h => (List.mem_append.mp h).elim (ha w) (hb w)
theorem goodIn_ca {big a b : List Cond} {c : Cond} (ha : GoodIn big (c :: a)) (hb : GoodIn big b) : GoodIn big (c :: (a ++ b)) := fun w h => (List.mem_cons.mp h).elim (fun e => ha w (List.mem_cons.mpr (Or.inl e))) (fun h => (List.mem_append.mp h).elim (fun h => ha w (List.mem_cons.mpr (Or.inr h))) (hb w))
theorem goodIn_sub {big ws : List Cond} (hm : ∀ w ∈ ws, w ∈ big) (h : ws.all goodWord = true) : GoodIn big ws := fun w hw => ⟨hm w hw, good_of_word (List.all_eq_true.mp h w hw)⟩
/-! ===== END ===== -/

/-! ===== BEGIN new T[n][m]: the outer array a place, the inner ones among the pooled ===== -/
/-- f, but v at every address of l -/
def vr_up {α : Type} (f : Nat → α) (l : List Nat) (v : α) : Nat → α := fun a => if a ∈ l then v else f a
theorem vr_up_in {α : Type} {f : Nat → α} {l : List Nat} {v : α} {a : Nat} (h : a ∈ l) : vr_up f l v a = v := if_pos h
theorem vr_up_ne {α : Type} {f : Nat → α} {l : List Nat} {v : α} {a : Nat} (h : a ∉ l) : vr_up f l v a = f a := if_neg h
theorem vr_rows {L l : List Nat} {f : Nat → va_E} {e : va_E} (h : ∀ a, a ∈ l → a ∉ L) : va_pl L f ++ l.map (fun a => (a, e)) = va_pl (L ++ l) (vr_up f l e) := by
  unfold va_pl
  rw [List.map_append]
  congr 1
  · apply List.map_congr_left
    intro a ha
    rw [vr_up_ne (fun q => h a q ha)]
  · apply List.map_congr_left
    intro a ha
    rw [vr_up_in ha]
theorem vr_lay {X rows : va_W} {x : Nat × va_E} {pl : va_W} {D : va_G} {cl : List vw_C} {H : Heap} (hP : va_P D cl (((X ++ pl) ++ [x]) ++ rows) H) : va_P D cl ((X ++ [x]) ++ (pl ++ rows)) H := by
  rw [List.append_assoc (X ++ pl)] at hP
  have h := va_P.swap hP
  rw [← List.append_assoc X] at h
  have h2 := va_P.swap h
  rw [List.append_assoc (X ++ [x])] at h2
  exact h2
theorem vr_layD {X rows : va_W} {x : Nat × va_E} {pl : va_W} {A : Nat → Prop} (hD : va_D A (((X ++ pl) ++ [x]) ++ rows)) : va_D A ((X ++ [x]) ++ (pl ++ rows)) := by
  rw [List.append_assoc (X ++ pl)] at hD
  have h := va_D.swap hD
  rw [← List.append_assoc X] at h
  have h2 := va_D.swap h
  rw [List.append_assoc (X ++ [x])] at h2
  exact h2
theorem vr_outer (c : ClassId) (N h0 : Nat) : ∀ i : Nat, Jvm.Free.Multi.outerC c N h0 i = arrV c N (fun j => va_rf (if j < i then some (h0 + 1 + j) else none))
  | 0 => by
    show ({ cls := c, slots := Array.replicate N .null, vm := .none } : Cell) = _
    rw [arrV_new]
    refine congrArg (arrV c N) (funext fun j => ?_)
    simp [va_rf]
  | i + 1 => by
    show (Jvm.Free.Multi.outerC c N h0 i).setSlot i (.ref (h0 + 1 + i)) = _
    rw [vr_outer c N h0 i, arrV_store]
    refine congrArg (arrV c N) (funext fun j => ?_)
    by_cases e : j = i
    · subst e
      simp [updV, va_rf]
    · by_cases h : j < i
      · simp [updV, e, h, Nat.lt_succ_of_lt h]
      · simp [updV, e, h, show ¬ j < i + 1 by omega]

/-! ===== END ===== -/

/-! ===== BEGIN printed: names, fields, word lists, decode rows ===== -/
def RX0 : String := "ActorTrees$Actor"
def TX0 : u_T := fun k => match k with
  | 0 => ("ActorTrees$Actor", "parent", "I", false)
  | 1 => ("ActorTrees$Actor", "own", "I", false)
  | 2 => ("ActorTrees$Actor", "strategy", "I", false)
  | 3 => ("ActorTrees$Actor", "budget", "I", false)
  | 4 => ("ActorTrees$Actor", "window", "I", false)
  | 5 => ("ActorTrees$Actor", "count", "I", false)
  | 6 => ("ActorTrees$Actor", "live", "Z", false)
  | 7 => ("ActorTrees$Actor", "stack", "LActorTrees$Numbers;", true)
  | 8 => ("ActorTrees$Actor", "mailbox", "LActorTrees$Pairs;", true)
  | 9 => ("ActorTrees$Actor", "stash", "LActorTrees$Pairs;", true)
  | 10 => ("ActorTrees$Actor", "watchers", "LActorTrees$Numbers;", true)
  | _ => ("ActorTrees$Actor", "notes", "LActorTrees$Numbers;", true)
def tyX0 : Nat → FieldType := fun k => match k with
  | 0 => .int
  | 1 => .int
  | 2 => .int
  | 3 => .int
  | 4 => .int
  | 5 => .int
  | 6 => .boolean
  | 7 => .object "ActorTrees$Numbers"
  | 8 => .object "ActorTrees$Pairs"
  | 9 => .object "ActorTrees$Pairs"
  | 10 => .object "ActorTrees$Numbers"
  | _ => .object "ActorTrees$Numbers"
abbrev wsX00 : List Cond := u_ws RX0 TX0 12
theorem nmX0 : ∀ a, a < 12 → ∀ b, b < 12 → a ≠ b → (TX0 a).2.1 ≠ (TX0 b).2.1 := by decide +kernel
theorem tyX0_ok : ∀ k, k < 12 → parseFieldDescriptor (TX0 k).2.2.1 = some (tyX0 k) := by decide +kernel
abbrev cX0_init : ByteArray := prog_2_method_1_code
def yX0_init : MethodName := ⟨RX0, "<init>", "()V"⟩
abbrev cX0_begin : ByteArray := prog_2_method_2_code
def yX0_begin : MethodName := ⟨RX0, "begin", "(II)V"⟩
abbrev cX0_keepOwnOnly : ByteArray := prog_2_method_3_code
def yX0_keepOwnOnly : MethodName := ⟨RX0, "keepOwnOnly", "()V"⟩
abbrev cX0_copyFrom : ByteArray := prog_2_method_4_code
def yX0_copyFrom : MethodName := ⟨RX0, "copyFrom", "(LActorTrees$Actor;)V"⟩
def RX1 : String := "ActorTrees$Handle"
def TX1 : u_T := fun k => match k with
  | 0 => ("ActorTrees$Handle", "items", "LActorTrees$Numbers;", true)
  | 1 => ("ActorTrees$Handle", "sort", "I", false)
  | _ => ("ActorTrees$Handle", "actor", "I", false)
def tyX1 : Nat → FieldType := fun k => match k with
  | 0 => .object "ActorTrees$Numbers"
  | 1 => .int
  | _ => .int
abbrev wsX10 : List Cond := u_ws RX1 TX1 3
theorem nmX1 : ∀ a, a < 3 → ∀ b, b < 3 → a ≠ b → (TX1 a).2.1 ≠ (TX1 b).2.1 := by decide +kernel
theorem tyX1_ok : ∀ k, k < 3 → parseFieldDescriptor (TX1 k).2.2.1 = some (tyX1 k) := by decide +kernel
abbrev cX1_init : ByteArray := prog_3_method_1_code
def yX1_init : MethodName := ⟨RX1, "<init>", "()V"⟩
def RX2 : String := "ActorTrees$Numbers"
def TX2 : u_T := fun k => match k with
  | 0 => ("ActorTrees$Numbers", "items", "[I", true)
  | _ => ("ActorTrees$Numbers", "size", "I", false)
def tyX2 : Nat → FieldType := fun k => match k with
  | 0 => .array .int
  | _ => .int
abbrev wsX20 : List Cond := u_ws RX2 TX2 2
theorem nmX2 : ∀ a, a < 2 → ∀ b, b < 2 → a ≠ b → (TX2 a).2.1 ≠ (TX2 b).2.1 := by decide +kernel
theorem tyX2_ok : ∀ k, k < 2 → parseFieldDescriptor (TX2 k).2.2.1 = some (tyX2 k) := by decide +kernel
abbrev cX2_init : ByteArray := prog_4_method_1_code
def yX2_init : MethodName := ⟨RX2, "<init>", "(I)V"⟩
abbrev cX2_at : ByteArray := prog_4_method_2_code
def yX2_at : MethodName := ⟨RX2, "at", "(I)I"⟩
abbrev cX2_change : ByteArray := prog_4_method_3_code
def yX2_change : MethodName := ⟨RX2, "change", "(II)V"⟩
abbrev cX2_add : ByteArray := prog_4_method_4_code
def yX2_add : MethodName := ⟨RX2, "add", "(I)Z"⟩
abbrev cX2_has : ByteArray := prog_4_method_5_code
def yX2_has : MethodName := ⟨RX2, "has", "(I)Z"⟩
abbrev cX2_remove : ByteArray := prog_4_method_6_code
def yX2_remove : MethodName := ⟨RX2, "remove", "(I)V"⟩
abbrev cX2_removeBelow : ByteArray := prog_4_method_7_code
def yX2_removeBelow : MethodName := ⟨RX2, "removeBelow", "(I)V"⟩
abbrev cX2_countFrom : ByteArray := prog_4_method_8_code
def yX2_countFrom : MethodName := ⟨RX2, "countFrom", "(I)I"⟩
abbrev cX2_fillWithZeros : ByteArray := prog_4_method_9_code
def yX2_fillWithZeros : MethodName := ⟨RX2, "fillWithZeros", "(I)V"⟩
abbrev cX2_copyFrom : ByteArray := prog_4_method_10_code
def yX2_copyFrom : MethodName := ⟨RX2, "copyFrom", "(LActorTrees$Numbers;)V"⟩
def RX3 : String := "ActorTrees$Pairs"
def TX3 : u_T := fun k => match k with
  | 0 => ("ActorTrees$Pairs", "firsts", "[I", true)
  | 1 => ("ActorTrees$Pairs", "seconds", "[I", true)
  | _ => ("ActorTrees$Pairs", "size", "I", false)
def tyX3 : Nat → FieldType := fun k => match k with
  | 0 => .array .int
  | 1 => .array .int
  | _ => .int
abbrev wsX30 : List Cond := u_ws RX3 TX3 3
theorem nmX3 : ∀ a, a < 3 → ∀ b, b < 3 → a ≠ b → (TX3 a).2.1 ≠ (TX3 b).2.1 := by decide +kernel
theorem tyX3_ok : ∀ k, k < 3 → parseFieldDescriptor (TX3 k).2.2.1 = some (tyX3 k) := by decide +kernel
abbrev cX3_init : ByteArray := prog_5_method_1_code
def yX3_init : MethodName := ⟨RX3, "<init>", "(I)V"⟩
abbrev cX3_firstAt : ByteArray := prog_5_method_2_code
def yX3_firstAt : MethodName := ⟨RX3, "firstAt", "(I)I"⟩
abbrev cX3_secondAt : ByteArray := prog_5_method_3_code
def yX3_secondAt : MethodName := ⟨RX3, "secondAt", "(I)I"⟩
abbrev cX3_add : ByteArray := prog_5_method_4_code
def yX3_add : MethodName := ⟨RX3, "add", "(II)Z"⟩
abbrev cX3_addDroppingOldest : ByteArray := prog_5_method_5_code
def yX3_addDroppingOldest : MethodName := ⟨RX3, "addDroppingOldest", "(II)V"⟩
abbrev cX3_removeFirst : ByteArray := prog_5_method_6_code
def yX3_removeFirst : MethodName := ⟨RX3, "removeFirst", "()V"⟩
abbrev cX3_putAhead : ByteArray := prog_5_method_7_code
def yX3_putAhead : MethodName := ⟨RX3, "putAhead", "(LActorTrees$Pairs;)I"⟩
abbrev cX3_copyFrom : ByteArray := prog_5_method_8_code
def yX3_copyFrom : MethodName := ⟨RX3, "copyFrom", "(LActorTrees$Pairs;)V"⟩
def RX4 : String := "ActorTrees$Tape"
def TX4 : u_T := fun k => match k with
  | 0 => ("ActorTrees$Tape", "bytes", "LActorTrees$Numbers;", true)
  | 1 => ("ActorTrees$Tape", "numbers", "LActorTrees$Numbers;", true)
  | 2 => ("ActorTrees$Tape", "kind", "I", false)
  | _ => ("ActorTrees$Tape", "place", "I", false)
def tyX4 : Nat → FieldType := fun k => match k with
  | 0 => .object "ActorTrees$Numbers"
  | 1 => .object "ActorTrees$Numbers"
  | 2 => .int
  | _ => .int
abbrev wsX40 : List Cond := u_ws RX4 TX4 4
theorem nmX4 : ∀ a, a < 4 → ∀ b, b < 4 → a ≠ b → (TX4 a).2.1 ≠ (TX4 b).2.1 := by decide +kernel
theorem tyX4_ok : ∀ k, k < 4 → parseFieldDescriptor (TX4 k).2.2.1 = some (tyX4 k) := by decide +kernel
abbrev cX4_init : ByteArray := prog_6_method_1_code
def yX4_init : MethodName := ⟨RX4, "<init>", "()V"⟩
abbrev cX4_isRead : ByteArray := prog_6_method_2_code
def yX4_isRead : MethodName := ⟨RX4, "isRead", "()Z"⟩
abbrev cX4_faultOfForm : ByteArray := prog_6_method_3_code
def yX4_faultOfForm : MethodName := ⟨RX4, "faultOfForm", "()I"⟩
abbrev cX4_readLine : ByteArray := prog_6_method_4_code
def yX4_readLine : MethodName := ⟨RX4, "readLine", "()Z"⟩
abbrev cX4_readNumber : ByteArray := prog_6_method_5_code
def yX4_readNumber : MethodName := ⟨RX4, "readNumber", "(Z)Z"⟩
abbrev cX4_isNext : ByteArray := prog_6_method_6_code
def yX4_isNext : MethodName := ⟨RX4, "isNext", "(C)Z"⟩
abbrev cX4_isDigitNext : ByteArray := prog_6_method_7_code
def yX4_isDigitNext : MethodName := ⟨RX4, "isDigitNext", "()Z"⟩
def RX5 : String := "ActorTrees$Timers"
def TX5 : u_T := fun k => match k with
  | 0 => ("ActorTrees$Timers", "owners", "[I", true)
  | 1 => ("ActorTrees$Timers", "dues", "[I", true)
  | 2 => ("ActorTrees$Timers", "numbers", "[I", true)
  | _ => ("ActorTrees$Timers", "size", "I", false)
def tyX5 : Nat → FieldType := fun k => match k with
  | 0 => .array .int
  | 1 => .array .int
  | 2 => .array .int
  | _ => .int
abbrev wsX50 : List Cond := u_ws RX5 TX5 4
theorem nmX5 : ∀ a, a < 4 → ∀ b, b < 4 → a ≠ b → (TX5 a).2.1 ≠ (TX5 b).2.1 := by decide +kernel
theorem tyX5_ok : ∀ k, k < 4 → parseFieldDescriptor (TX5 k).2.2.1 = some (tyX5 k) := by decide +kernel
abbrev cX5_init : ByteArray := prog_7_method_1_code
def yX5_init : MethodName := ⟨RX5, "<init>", "()V"⟩
abbrev cX5_ownerAt : ByteArray := prog_7_method_2_code
def yX5_ownerAt : MethodName := ⟨RX5, "ownerAt", "(I)I"⟩
abbrev cX5_dueAt : ByteArray := prog_7_method_3_code
def yX5_dueAt : MethodName := ⟨RX5, "dueAt", "(I)I"⟩
abbrev cX5_numberAt : ByteArray := prog_7_method_4_code
def yX5_numberAt : MethodName := ⟨RX5, "numberAt", "(I)I"⟩
abbrev cX5_countOf : ByteArray := prog_7_method_5_code
def yX5_countOf : MethodName := ⟨RX5, "countOf", "(I)I"⟩
abbrev cX5_set : ByteArray := prog_7_method_6_code
def yX5_set : MethodName := ⟨RX5, "set", "(III)V"⟩
abbrev cX5_removeOf : ByteArray := prog_7_method_7_code
def yX5_removeOf : MethodName := ⟨RX5, "removeOf", "(I)V"⟩
abbrev cX5_removeFirst : ByteArray := prog_7_method_8_code
def yX5_removeFirst : MethodName := ⟨RX5, "removeFirst", "()V"⟩
abbrev cX5_move : ByteArray := prog_7_method_9_code
def yX5_move : MethodName := ⟨RX5, "move", "(II)V"⟩
abbrev cX5_copyFrom : ByteArray := prog_7_method_10_code
def yX5_copyFrom : MethodName := ⟨RX5, "copyFrom", "(LActorTrees$Timers;)V"⟩
def RX6 : String := "ActorTrees$World"
def TX6 : u_T := fun k => match k with
  | 0 => ("ActorTrees$World", "actors", "[LActorTrees$Actor;", true)
  | 1 => ("ActorTrees$World", "timers", "LActorTrees$Timers;", true)
  | 2 => ("ActorTrees$World", "dealt", "LActorTrees$Pairs;", true)
  | 3 => ("ActorTrees$World", "causes", "LActorTrees$Pairs;", true)
  | 4 => ("ActorTrees$World", "came", "I", false)
  | 5 => ("ActorTrees$World", "latest", "I", false)
  | 6 => ("ActorTrees$World", "time", "I", false)
  | 7 => ("ActorTrees$World", "clock", "I", false)
  | 8 => ("ActorTrees$World", "deadLetters", "I", false)
  | 9 => ("ActorTrees$World", "seed", "I", false)
  | 10 => ("ActorTrees$World", "ended", "I", false)
  | 11 => ("ActorTrees$World", "hasFailed", "Z", false)
  | _ => ("ActorTrees$World", "restarted", "I", false)
def tyX6 : Nat → FieldType := fun k => match k with
  | 0 => .array (.object "ActorTrees$Actor")
  | 1 => .object "ActorTrees$Timers"
  | 2 => .object "ActorTrees$Pairs"
  | 3 => .object "ActorTrees$Pairs"
  | 4 => .int
  | 5 => .int
  | 6 => .int
  | 7 => .int
  | 8 => .int
  | 9 => .int
  | 10 => .int
  | 11 => .boolean
  | _ => .int
abbrev wsX60 : List Cond := u_ws RX6 TX6 13
theorem nmX6 : ∀ a, a < 13 → ∀ b, b < 13 → a ≠ b → (TX6 a).2.1 ≠ (TX6 b).2.1 := by decide +kernel
theorem tyX6_ok : ∀ k, k < 13 → parseFieldDescriptor (TX6 k).2.2.1 = some (tyX6 k) := by decide +kernel
abbrev cX6_init : ByteArray := prog_8_method_1_code
def yX6_init : MethodName := ⟨RX6, "<init>", "()V"⟩
abbrev cX6_copyFrom : ByteArray := prog_8_method_2_code
def yX6_copyFrom : MethodName := ⟨RX6, "copyFrom", "(LActorTrees$World;)V"⟩
abbrev cX6_isActor : ByteArray := prog_8_method_3_code
def yX6_isActor : MethodName := ⟨RX6, "isActor", "(I)Z"⟩
abbrev cX6_isLive : ByteArray := prog_8_method_4_code
def yX6_isLive : MethodName := ⟨RX6, "isLive", "(I)Z"⟩
abbrev cX6_isLiveChild : ByteArray := prog_8_method_5_code
def yX6_isLiveChild : MethodName := ⟨RX6, "isLiveChild", "(II)Z"⟩
abbrev cX6_childBits : ByteArray := prog_8_method_6_code
def yX6_childBits : MethodName := ⟨RX6, "childBits", "(I)I"⟩
abbrev cX6_liveBits : ByteArray := prog_8_method_7_code
def yX6_liveBits : MethodName := ⟨RX6, "liveBits", "()I"⟩
abbrev cX6_mailed : ByteArray := prog_8_method_8_code
def yX6_mailed : MethodName := ⟨RX6, "mailed", "()I"⟩
abbrev cX6_addActor : ByteArray := prog_8_method_9_code
def yX6_addActor : MethodName := ⟨RX6, "addActor", "(IIIII)I"⟩
abbrev cX6_send : ByteArray := prog_8_method_10_code
def yX6_send : MethodName := ⟨RX6, "send", "(III)Z"⟩
abbrev cX6_makeSteps : ByteArray := prog_8_method_11_code
def yX6_makeSteps : MethodName := ⟨RX6, "makeSteps", "(I)I"⟩
abbrev cX6_howItStands : ByteArray := prog_8_method_12_code
def yX6_howItStands : MethodName := ⟨RX6, "howItStands", "()I"⟩
abbrev cX6_hasStep : ByteArray := prog_8_method_13_code
def yX6_hasStep : MethodName := ⟨RX6, "hasStep", "()Z"⟩
abbrev cX6_nextDealer : ByteArray := prog_8_method_14_code
def yX6_nextDealer : MethodName := ⟨RX6, "nextDealer", "()I"⟩
abbrev cX6_step : ByteArray := prog_8_method_15_code
def yX6_step : MethodName := ⟨RX6, "step", "()Z"⟩
abbrev cX6_fireTimer : ByteArray := prog_8_method_16_code
def yX6_fireTimer : MethodName := ⟨RX6, "fireTimer", "()Z"⟩
abbrev cX6_deal : ByteArray := prog_8_method_17_code
def yX6_deal : MethodName := ⟨RX6, "deal", "(III)I"⟩
abbrev cX6_dealEarlier : ByteArray := prog_8_method_18_code
def yX6_dealEarlier : MethodName := ⟨RX6, "dealEarlier", "(IIII)I"⟩
abbrev cX6_dealLater : ByteArray := prog_8_method_19_code
def yX6_dealLater : MethodName := ⟨RX6, "dealLater", "(III)I"⟩
abbrev cX6_sendDown : ByteArray := prog_8_method_20_code
def yX6_sendDown : MethodName := ⟨RX6, "sendDown", "(III)V"⟩
abbrev cX6_unstash : ByteArray := prog_8_method_21_code
def yX6_unstash : MethodName := ⟨RX6, "unstash", "(LActorTrees$Actor;)V"⟩
abbrev cX6_watch : ByteArray := prog_8_method_22_code
def yX6_watch : MethodName := ⟨RX6, "watch", "(II)V"⟩
abbrev cX6_fail : ByteArray := prog_8_method_23_code
def yX6_fail : MethodName := ⟨RX6, "fail", "(II)V"⟩
abbrev cX6_isOverBudgetAbove : ByteArray := prog_8_method_24_code
def yX6_isOverBudgetAbove : MethodName := ⟨RX6, "isOverBudgetAbove", "(I)Z"⟩
abbrev cX6_isRestartedWith : ByteArray := prog_8_method_25_code
def yX6_isRestartedWith : MethodName := ⟨RX6, "isRestartedWith", "(II)Z"⟩
abbrev cX6_restart : ByteArray := prog_8_method_26_code
def yX6_restart : MethodName := ⟨RX6, "restart", "(I)V"⟩
abbrev cX6_halt : ByteArray := prog_8_method_27_code
def yX6_halt : MethodName := ⟨RX6, "halt", "(I)I"⟩
abbrev cX6_greatestLiveChild : ByteArray := prog_8_method_28_code
def yX6_greatestLiveChild : MethodName := ⟨RX6, "greatestLiveChild", "(I)I"⟩
def RX7 : String := "ActorTrees"
def TX7 : u_T := fun k => match k with
  | 0 => ("ActorTrees", "now", "LActorTrees$World;", true)
  | 1 => ("ActorTrees", "thought", "LActorTrees$World;", true)
  | 2 => ("ActorTrees", "kept", "LActorTrees$World;", true)
  | 3 => ("ActorTrees", "ahead", "LActorTrees$World;", true)
  | 4 => ("ActorTrees", "tape", "LActorTrees$Tape;", true)
  | 5 => ("ActorTrees", "handles", "[LActorTrees$Handle;", true)
  | _ => ("ActorTrees", "hasImage", "Z", false)
def tyX7 : Nat → FieldType := fun k => match k with
  | 0 => .object "ActorTrees$World"
  | 1 => .object "ActorTrees$World"
  | 2 => .object "ActorTrees$World"
  | 3 => .object "ActorTrees$World"
  | 4 => .object "ActorTrees$Tape"
  | 5 => .array (.object "ActorTrees$Handle")
  | _ => .boolean
abbrev wsX70 : List Cond := u_ws RX7 TX7 7
theorem nmX7 : ∀ a, a < 7 → ∀ b, b < 7 → a ≠ b → (TX7 a).2.1 ≠ (TX7 b).2.1 := by decide +kernel
theorem tyX7_ok : ∀ k, k < 7 → parseFieldDescriptor (TX7 k).2.2.1 = some (tyX7 k) := by decide +kernel
abbrev cX7_init : ByteArray := prog_1_method_1_code
def yX7_init : MethodName := ⟨RX7, "<init>", "()V"⟩
abbrev cX7_actor : ByteArray := prog_1_method_2_code
def yX7_actor : MethodName := ⟨RX7, "actor", "(III)I"⟩
abbrev cX7_tell : ByteArray := prog_1_method_3_code
def yX7_tell : MethodName := ⟨RX7, "tell", "(III)I"⟩
abbrev cX7_of : ByteArray := prog_1_method_4_code
def yX7_of : MethodName := ⟨RX7, "of", "(II)I"⟩
abbrev cX7_counted : ByteArray := prog_1_method_5_code
def yX7_counted : MethodName := ⟨RX7, "counted", "(I)I"⟩
abbrev cX7_message : ByteArray := prog_1_method_6_code
def yX7_message : MethodName := ⟨RX7, "message", "(IIZ)I"⟩
abbrev cX7_sender : ByteArray := prog_1_method_7_code
def yX7_sender : MethodName := ⟨RX7, "sender", "(IIZ)I"⟩
abbrev cX7_stack : ByteArray := prog_1_method_8_code
def yX7_stack : MethodName := ⟨RX7, "stack", "(II)I"⟩
abbrev cX7_watcher : ByteArray := prog_1_method_9_code
def yX7_watcher : MethodName := ⟨RX7, "watcher", "(II)I"⟩
abbrev cX7_timer : ByteArray := prog_1_method_10_code
def yX7_timer : MethodName := ⟨RX7, "timer", "(II)I"⟩
abbrev cX7_stop : ByteArray := prog_1_method_11_code
def yX7_stop : MethodName := ⟨RX7, "stop", "(I)I"⟩
abbrev cX7_run : ByteArray := prog_1_method_12_code
def yX7_run : MethodName := ⟨RX7, "run", "(I)I"⟩
abbrev cX7_ended : ByteArray := prog_1_method_13_code
def yX7_ended : MethodName := ⟨RX7, "ended", "()I"⟩
abbrev cX7_log : ByteArray := prog_1_method_14_code
def yX7_log : MethodName := ⟨RX7, "log", "(I)I"⟩
abbrev cX7_cause : ByteArray := prog_1_method_15_code
def yX7_cause : MethodName := ⟨RX7, "cause", "(II)I"⟩
abbrev cX7_dry : ByteArray := prog_1_method_16_code
def yX7_dry : MethodName := ⟨RX7, "dry", "(II)I"⟩
abbrev cX7_first : ByteArray := prog_1_method_17_code
def yX7_first : MethodName := ⟨RX7, "first", "()I"⟩
abbrev cX7_quiet : ByteArray := prog_1_method_18_code
def yX7_quiet : MethodName := ⟨RX7, "quiet", "()I"⟩
abbrev cX7_would : ByteArray := prog_1_method_19_code
def yX7_would : MethodName := ⟨RX7, "would", "(III)I"⟩
abbrev cX7_brings : ByteArray := prog_1_method_20_code
def yX7_brings : MethodName := ⟨RX7, "brings", "(II)I"⟩
abbrev cX7_reach : ByteArray := prog_1_method_21_code
def yX7_reach : MethodName := ⟨RX7, "reach", "(II)I"⟩
abbrev cX7_feed : ByteArray := prog_1_method_22_code
def yX7_feed : MethodName := ⟨RX7, "feed", "(I)I"⟩
abbrev cX7_script : ByteArray := prog_1_method_23_code
def yX7_script : MethodName := ⟨RX7, "script", "()I"⟩
abbrev cX7_drawn : ByteArray := prog_1_method_24_code
def yX7_drawn : MethodName := ⟨RX7, "drawn", "(I)I"⟩
abbrev cX7_seed : ByteArray := prog_1_method_25_code
def yX7_seed : MethodName := ⟨RX7, "seed", "(I)I"⟩
abbrev cX7_order : ByteArray := prog_1_method_26_code
def yX7_order : MethodName := ⟨RX7, "order", "(II)I"⟩
abbrev cX7_image : ByteArray := prog_1_method_27_code
def yX7_image : MethodName := ⟨RX7, "image", "()I"⟩
abbrev cX7_back : ByteArray := prog_1_method_28_code
def yX7_back : MethodName := ⟨RX7, "back", "()I"⟩
abbrev cX7_hold : ByteArray := prog_1_method_29_code
def yX7_hold : MethodName := ⟨RX7, "hold", "(II)I"⟩
abbrev cX7_row : ByteArray := prog_1_method_30_code
def yX7_row : MethodName := ⟨RX7, "row", "(II)I"⟩
abbrev cX7_put : ByteArray := prog_1_method_31_code
def yX7_put : MethodName := ⟨RX7, "put", "(III)I"⟩
abbrev cX7_tells : ByteArray := prog_1_method_32_code
def yX7_tells : MethodName := ⟨RX7, "tells", "(II)I"⟩
abbrev cX7_count : ByteArray := prog_1_method_33_code
def yX7_count : MethodName := ⟨RX7, "count", "(I)I"⟩
abbrev cX7_isNumber : ByteArray := prog_1_method_34_code
def yX7_isNumber : MethodName := ⟨RX7, "isNumber", "(I)Z"⟩
abbrev cX7_isSteps : ByteArray := prog_1_method_35_code
def yX7_isSteps : MethodName := ⟨RX7, "isSteps", "(I)Z"⟩
abbrev cX7_isHandle : ByteArray := prog_1_method_36_code
def yX7_isHandle : MethodName := ⟨RX7, "isHandle", "(I)Z"⟩
abbrev cX7_itemOf : ByteArray := prog_1_method_37_code
def yX7_itemOf : MethodName := ⟨RX7, "itemOf", "(LActorTrees$Numbers;I)I"⟩
abbrev cX7_doLineButSteps : ByteArray := prog_1_method_38_code
def yX7_doLineButSteps : MethodName := ⟨RX7, "doLineButSteps", "()I"⟩
abbrev cX7_firstOtherwise : ByteArray := prog_1_method_39_code
def yX7_firstOtherwise : MethodName := ⟨RX7, "firstOtherwise", "(LActorTrees$Numbers;I)I"⟩
def RX8 : String := "ActorTreesModel"
def TX8 : u_T := fun k => match k with
  | 0 => ("ActorTreesModel", "g", "[I", true)
  | 1 => ("ActorTreesModel", "saved", "[I", true)
  | 2 => ("ActorTreesModel", "whole", "[I", true)
  | 3 => ("ActorTreesModel", "kept", "[I", true)
  | 4 => ("ActorTreesModel", "isKept", "Z", false)
  | 5 => ("ActorTreesModel", "hasFailed", "Z", false)
  | 6 => ("ActorTreesModel", "restarted", "I", false)
  | 7 => ("ActorTreesModel", "dealt", "I", false)
  | 8 => ("ActorTreesModel", "chain", "[I", true)
  | 9 => ("ActorTreesModel", "chained", "I", false)
  | 10 => ("ActorTreesModel", "tape", "[I", true)
  | 11 => ("ActorTreesModel", "tapeMany", "I", false)
  | 12 => ("ActorTreesModel", "held", "[I", true)
  | 13 => ("ActorTreesModel", "heldActor", "[I", true)
  | 14 => ("ActorTreesModel", "rowSize", "[I", true)
  | 15 => ("ActorTreesModel", "rows", "[[I", true)
  | 16 => ("ActorTreesModel", "queue", "[I", true)
  | 17 => ("ActorTreesModel", "ways", "[I", true)
  | 18 => ("ActorTreesModel", "how", "I", false)
  | 19 => ("ActorTreesModel", "spot", "I", false)
  | 20 => ("ActorTreesModel", "fault", "I", false)
  | _ => ("ActorTreesModel", "told", "[I", true)
def tyX8 : Nat → FieldType := fun k => match k with
  | 0 => .array .int
  | 1 => .array .int
  | 2 => .array .int
  | 3 => .array .int
  | 4 => .boolean
  | 5 => .boolean
  | 6 => .int
  | 7 => .int
  | 8 => .array .int
  | 9 => .int
  | 10 => .array .int
  | 11 => .int
  | 12 => .array .int
  | 13 => .array .int
  | 14 => .array .int
  | 15 => .array (.array .int)
  | 16 => .array .int
  | 17 => .array .int
  | 18 => .int
  | 19 => .int
  | 20 => .int
  | _ => .array .int
abbrev wsX80 : List Cond := u_ws RX8 TX8 22
theorem nmX8 : ∀ a, a < 22 → ∀ b, b < 22 → a ≠ b → (TX8 a).2.1 ≠ (TX8 b).2.1 := by decide +kernel
theorem tyX8_ok : ∀ k, k < 22 → parseFieldDescriptor (TX8 k).2.2.1 = some (tyX8 k) := by decide +kernel
abbrev cX8_init : ByteArray := prog_10_method_1_code
def yX8_init : MethodName := ⟨RX8, "<init>", "()V"⟩
abbrev cX8_in : ByteArray := prog_10_method_2_code
def yX8_in : MethodName := ⟨RX8, "in", "(III)Z"⟩
abbrev cX8_take : ByteArray := prog_10_method_3_code
def yX8_take : MethodName := ⟨RX8, "take", "([I[I)V"⟩
abbrev cX8_at : ByteArray := prog_10_method_4_code
def yX8_at : MethodName := ⟨RX8, "at", "(II)I"⟩
abbrev cX8_sets : ByteArray := prog_10_method_5_code
def yX8_sets : MethodName := ⟨RX8, "sets", "(III)V"⟩
abbrev cX8_isActor : ByteArray := prog_10_method_6_code
def yX8_isActor : MethodName := ⟨RX8, "isActor", "(I)Z"⟩
abbrev cX8_isLive : ByteArray := prog_10_method_7_code
def yX8_isLive : MethodName := ⟨RX8, "isLive", "(I)Z"⟩
abbrev cX8_isLiveChild : ByteArray := prog_10_method_8_code
def yX8_isLiveChild : MethodName := ⟨RX8, "isLiveChild", "(II)Z"⟩
abbrev cX8_sends : ByteArray := prog_10_method_9_code
def yX8_sends : MethodName := ⟨RX8, "sends", "(III)Z"⟩
abbrev cX8_comesBack : ByteArray := prog_10_method_10_code
def yX8_comesBack : MethodName := ⟨RX8, "comesBack", "(I)V"⟩
abbrev cX8_forgets : ByteArray := prog_10_method_11_code
def yX8_forgets : MethodName := ⟨RX8, "forgets", "(I)V"⟩
abbrev cX8_unwatches : ByteArray := prog_10_method_12_code
def yX8_unwatches : MethodName := ⟨RX8, "unwatches", "(I)V"⟩
abbrev cX8_stopsChildren : ByteArray := prog_10_method_13_code
def yX8_stopsChildren : MethodName := ⟨RX8, "stopsChildren", "(I)V"⟩
abbrev cX8_stops : ByteArray := prog_10_method_14_code
def yX8_stops : MethodName := ⟨RX8, "stops", "(I)V"⟩
abbrev cX8_restarts : ByteArray := prog_10_method_15_code
def yX8_restarts : MethodName := ⟨RX8, "restarts", "(I)V"⟩
abbrev cX8_noted : ByteArray := prog_10_method_16_code
def yX8_noted : MethodName := ⟨RX8, "noted", "(IZ)I"⟩
abbrev cX8_isOverBudget : ByteArray := prog_10_method_17_code
def yX8_isOverBudget : MethodName := ⟨RX8, "isOverBudget", "(I)Z"⟩
abbrev cX8_fails : ByteArray := prog_10_method_18_code
def yX8_fails : MethodName := ⟨RX8, "fails", "(II)V"⟩
abbrev cX8_pass : ByteArray := prog_10_method_19_code
def yX8_pass : MethodName := ⟨RX8, "pass", "(IIZ)V"⟩
abbrev cX8_holds : ByteArray := prog_10_method_20_code
def yX8_holds : MethodName := ⟨RX8, "holds", "(III)V"⟩
abbrev cX8_switches : ByteArray := prog_10_method_21_code
def yX8_switches : MethodName := ⟨RX8, "switches", "(II)V"⟩
abbrev cX8_delays : ByteArray := prog_10_method_22_code
def yX8_delays : MethodName := ⟨RX8, "delays", "(II)V"⟩
abbrev cX8_watches : ByteArray := prog_10_method_23_code
def yX8_watches : MethodName := ⟨RX8, "watches", "(II)V"⟩
abbrev cX8_doing : ByteArray := prog_10_method_24_code
def yX8_doing : MethodName := ⟨RX8, "doing", "(I)I"⟩
abbrev cX8_deals : ByteArray := prog_10_method_25_code
def yX8_deals : MethodName := ⟨RX8, "deals", "(III)V"⟩
abbrev cX8_nextActor : ByteArray := prog_10_method_26_code
def yX8_nextActor : MethodName := ⟨RX8, "nextActor", "()I"⟩
abbrev cX8_firstTimer : ByteArray := prog_10_method_27_code
def yX8_firstTimer : MethodName := ⟨RX8, "firstTimer", "()I"⟩
abbrev cX8_hasStep : ByteArray := prog_10_method_28_code
def yX8_hasStep : MethodName := ⟨RX8, "hasStep", "()Z"⟩
abbrev cX8_toldAs : ByteArray := prog_10_method_29_code
def yX8_toldAs : MethodName := ⟨RX8, "toldAs", "(I)I"⟩
abbrev cX8_logs : ByteArray := prog_10_method_30_code
def yX8_logs : MethodName := ⟨RX8, "logs", "(II)V"⟩
abbrev cX8_step : ByteArray := prog_10_method_31_code
def yX8_step : MethodName := ⟨RX8, "step", "()V"⟩
abbrev cX8_isEnd : ByteArray := prog_10_method_32_code
def yX8_isEnd : MethodName := ⟨RX8, "isEnd", "(II)Z"⟩
abbrev cX8_runs : ByteArray := prog_10_method_33_code
def yX8_runs : MethodName := ⟨RX8, "runs", "(I)I"⟩
abbrev cX8_isRule : ByteArray := prog_10_method_34_code
def yX8_isRule : MethodName := ⟨RX8, "isRule", "(I)Z"⟩
abbrev cX8_canBe : ByteArray := prog_10_method_35_code
def yX8_canBe : MethodName := ⟨RX8, "canBe", "(III)I"⟩
abbrev cX8_actor : ByteArray := prog_10_method_36_code
def yX8_actor : MethodName := ⟨RX8, "actor", "(III)I"⟩
abbrev cX8_isNumber : ByteArray := prog_10_method_37_code
def yX8_isNumber : MethodName := ⟨RX8, "isNumber", "(I)Z"⟩
abbrev cX8_tell : ByteArray := prog_10_method_38_code
def yX8_tell : MethodName := ⟨RX8, "tell", "(III)I"⟩
abbrev cX8_timersOf : ByteArray := prog_10_method_39_code
def yX8_timersOf : MethodName := ⟨RX8, "timersOf", "(I)I"⟩
abbrev cX8_childrenOf : ByteArray := prog_10_method_40_code
def yX8_childrenOf : MethodName := ⟨RX8, "childrenOf", "(I)I"⟩
abbrev cX8_of : ByteArray := prog_10_method_41_code
def yX8_of : MethodName := ⟨RX8, "of", "(II)I"⟩
abbrev cX8_counted : ByteArray := prog_10_method_42_code
def yX8_counted : MethodName := ⟨RX8, "counted", "(I)I"⟩
abbrev cX8_messageAt : ByteArray := prog_10_method_43_code
def yX8_messageAt : MethodName := ⟨RX8, "messageAt", "(IIZ)I"⟩
abbrev cX8_message : ByteArray := prog_10_method_44_code
def yX8_message : MethodName := ⟨RX8, "message", "(IIZ)I"⟩
abbrev cX8_sender : ByteArray := prog_10_method_45_code
def yX8_sender : MethodName := ⟨RX8, "sender", "(IIZ)I"⟩
abbrev cX8_stack : ByteArray := prog_10_method_46_code
def yX8_stack : MethodName := ⟨RX8, "stack", "(II)I"⟩
abbrev cX8_watcher : ByteArray := prog_10_method_47_code
def yX8_watcher : MethodName := ⟨RX8, "watcher", "(II)I"⟩
abbrev cX8_timer : ByteArray := prog_10_method_48_code
def yX8_timer : MethodName := ⟨RX8, "timer", "(II)I"⟩
abbrev cX8_liveOnes : ByteArray := prog_10_method_49_code
def yX8_liveOnes : MethodName := ⟨RX8, "liveOnes", "()I"⟩
abbrev cX8_bits : ByteArray := prog_10_method_50_code
def yX8_bits : MethodName := ⟨RX8, "bits", "(I)I"⟩
abbrev cX8_stop : ByteArray := prog_10_method_51_code
def yX8_stop : MethodName := ⟨RX8, "stop", "(I)I"⟩
abbrev cX8_run : ByteArray := prog_10_method_52_code
def yX8_run : MethodName := ⟨RX8, "run", "(I)I"⟩
abbrev cX8_ended : ByteArray := prog_10_method_53_code
def yX8_ended : MethodName := ⟨RX8, "ended", "()I"⟩
abbrev cX8_log : ByteArray := prog_10_method_54_code
def yX8_log : MethodName := ⟨RX8, "log", "(I)I"⟩
abbrev cX8_cause : ByteArray := prog_10_method_55_code
def yX8_cause : MethodName := ⟨RX8, "cause", "(II)I"⟩
abbrev cX8_dry : ByteArray := prog_10_method_56_code
def yX8_dry : MethodName := ⟨RX8, "dry", "(II)I"⟩
abbrev cX8_first : ByteArray := prog_10_method_57_code
def yX8_first : MethodName := ⟨RX8, "first", "()I"⟩
abbrev cX8_quiet : ByteArray := prog_10_method_58_code
def yX8_quiet : MethodName := ⟨RX8, "quiet", "()I"⟩
abbrev cX8_would : ByteArray := prog_10_method_59_code
def yX8_would : MethodName := ⟨RX8, "would", "(III)I"⟩
abbrev cX8_brings : ByteArray := prog_10_method_60_code
def yX8_brings : MethodName := ⟨RX8, "brings", "(II)I"⟩
abbrev cX8_isNext : ByteArray := prog_10_method_61_code
def yX8_isNext : MethodName := ⟨RX8, "isNext", "(II)Z"⟩
abbrev cX8_reach : ByteArray := prog_10_method_62_code
def yX8_reach : MethodName := ⟨RX8, "reach", "(II)I"⟩
abbrev cX8_feed : ByteArray := prog_10_method_63_code
def yX8_feed : MethodName := ⟨RX8, "feed", "(I)I"⟩
abbrev cX8_sees : ByteArray := prog_10_method_64_code
def yX8_sees : MethodName := ⟨RX8, "sees", "(II)Z"⟩
abbrev cX8_must : ByteArray := prog_10_method_65_code
def yX8_must : MethodName := ⟨RX8, "must", "(II)I"⟩
abbrev cX8_number : ByteArray := prog_10_method_66_code
def yX8_number : MethodName := ⟨RX8, "number", "(Z)I"⟩
abbrev cX8_line : ByteArray := prog_10_method_67_code
def yX8_line : MethodName := ⟨RX8, "line", "()I"⟩
abbrev cX8_isForm : ByteArray := prog_10_method_68_code
def yX8_isForm : MethodName := ⟨RX8, "isForm", "()Z"⟩
abbrev cX8_does : ByteArray := prog_10_method_69_code
def yX8_does : MethodName := ⟨RX8, "does", "(I)Z"⟩
abbrev cX8_script : ByteArray := prog_10_method_70_code
def yX8_script : MethodName := ⟨RX8, "script", "()I"⟩
abbrev cX8_drawn : ByteArray := prog_10_method_71_code
def yX8_drawn : MethodName := ⟨RX8, "drawn", "(I)I"⟩
abbrev cX8_seed : ByteArray := prog_10_method_72_code
def yX8_seed : MethodName := ⟨RX8, "seed", "(I)I"⟩
abbrev cX8_ordered : ByteArray := prog_10_method_73_code
def yX8_ordered : MethodName := ⟨RX8, "ordered", "(II)I"⟩
abbrev cX8_isHandle : ByteArray := prog_10_method_74_code
def yX8_isHandle : MethodName := ⟨RX8, "isHandle", "(I)Z"⟩
abbrev cX8_order : ByteArray := prog_10_method_75_code
def yX8_order : MethodName := ⟨RX8, "order", "(II)I"⟩
abbrev cX8_image : ByteArray := prog_10_method_76_code
def yX8_image : MethodName := ⟨RX8, "image", "()I"⟩
abbrev cX8_back : ByteArray := prog_10_method_77_code
def yX8_back : MethodName := ⟨RX8, "back", "()I"⟩
abbrev cX8_hold : ByteArray := prog_10_method_78_code
def yX8_hold : MethodName := ⟨RX8, "hold", "(II)I"⟩
abbrev cX8_row : ByteArray := prog_10_method_79_code
def yX8_row : MethodName := ⟨RX8, "row", "(II)I"⟩
abbrev cX8_put : ByteArray := prog_10_method_80_code
def yX8_put : MethodName := ⟨RX8, "put", "(III)I"⟩
abbrev cX8_tells : ByteArray := prog_10_method_81_code
def yX8_tells : MethodName := ⟨RX8, "tells", "(II)I"⟩
abbrev cX8_count : ByteArray := prog_10_method_82_code
def yX8_count : MethodName := ⟨RX8, "count", "(I)I"⟩
def RJ6 : String := "java/lang/Integer"
def TJ6 : u_T := fun k => match k with
  | _ => ("", "", "", false)
def tyJ6 : Nat → FieldType := fun k => match k with
  | _ => .int
abbrev wsJ60 : List Cond := u_ws RJ6 TJ6 0
theorem nmJ6 : ∀ a, a < 0 → ∀ b, b < 0 → a ≠ b → (TJ6 a).2.1 ≠ (TJ6 b).2.1 := by decide +kernel
theorem tyJ6_ok : ∀ k, k < 0 → parseFieldDescriptor (TJ6 k).2.2.1 = some (tyJ6 k) := by decide +kernel
abbrev cJ6_bitCount_0f7a4 : ByteArray := prog_11_method_49_code
def yJ6_bitCount_0f7a4 : MethodName := ⟨RJ6, "bitCount", "(I)I"⟩
def RJ9 : String := "java/lang/Math"
def TJ9 : u_T := fun k => match k with
  | _ => ("", "", "", false)
def tyJ9 : Nat → FieldType := fun k => match k with
  | _ => .int
abbrev wsJ90 : List Cond := u_ws RJ9 TJ9 0
theorem nmJ9 : ∀ a, a < 0 → ∀ b, b < 0 → a ≠ b → (TJ9 a).2.1 ≠ (TJ9 b).2.1 := by decide +kernel
theorem tyJ9_ok : ∀ k, k < 0 → parseFieldDescriptor (TJ9 k).2.2.1 = some (tyJ9 k) := by decide +kernel
abbrev cJ9_max_7cf53 : ByteArray := prog_12_method_65_code
def yJ9_max_7cf53 : MethodName := ⟨RJ9, "max", "(II)I"⟩
abbrev cJ9_min_7cf53 : ByteArray := prog_12_method_69_code
def yJ9_min_7cf53 : MethodName := ⟨RJ9, "min", "(II)I"⟩
def RJ10 : String := "java/lang/System"
def TJ10 : u_T := fun k => match k with
  | _ => ("", "", "", false)
def tyJ10 : Nat → FieldType := fun k => match k with
  | _ => .int
abbrev wsJ100 : List Cond := u_ws RJ10 TJ10 0
theorem nmJ10 : ∀ a, a < 0 → ∀ b, b < 0 → a ≠ b → (TJ10 a).2.1 ≠ (TJ10 b).2.1 := by decide +kernel
theorem tyJ10_ok : ∀ k, k < 0 → parseFieldDescriptor (TJ10 k).2.2.1 = some (tyJ10 k) := by decide +kernel
def RL : String := "ActorTreesLaw"
abbrev cL_law : ByteArray := code
def yL_law : MethodName := ⟨RL, "law", "([I)Z"⟩
abbrev xcl : List vw_C := [(RX0, TX0, 12), (RX1, TX1, 3), (RX2, TX2, 2), (RX3, TX3, 3), (RX4, TX4, 4), (RX5, TX5, 4), (RX6, TX6, 13), (RX7, TX7, 7), (RX8, TX8, 22)]
end
section
/-! the tables' words that stay; the abstract machine: cells by numbers, whole numbers, references by numbers -/
def xgd (w : Cond) : Bool := match w with
  | .privateMethod .. => false
  | .methodLinkNest .. => false
  | .arrayOver .. => false
  | _ => true
def xtbl : List Cond := k2_sels lw_privs ++ tables_1.filter xgd
set_option maxRecDepth 100000 in
theorem xtbl_good : xtbl.all goodWord = true := by decide +kernel
theorem xtbl_in {w : Cond} (h : w ∈ xtbl) : w ∈ lw_tbl := (List.mem_append.mp h).elim (fun h => List.mem_append_left _ h) (fun h => List.mem_append_right _ (List.mem_filter.mp h).1)
def xnf (ci : Nat) : Nat := match ci with
  | 0 => 12
  | 1 => 3
  | 2 => 2
  | 3 => 3
  | 4 => 4
  | 5 => 4
  | 6 => 13
  | 7 => 7
  | 8 => 22
  | _ => 0
def xty (ci : Nat) : Nat → FieldType := match ci with
  | 0 => tyX0
  | 1 => tyX1
  | 2 => tyX2
  | 3 => tyX3
  | 4 => tyX4
  | 5 => tyX5
  | 6 => tyX6
  | 7 => tyX7
  | 8 => tyX8
  | _ => fun _ => .int
def xisR (t : FieldType) : Bool := match t with
  | .object _ => true
  | .array _ => true
  | _ => false
def XCl (ci : Nat) (C : String) (T : u_T) : Prop := xcl[ci]? = some (C, T, xnf ci) ∧ (∀ w ∈ u_ws C T (xnf ci), w ∈ xtbl) ∧ (∀ k, k < xnf ci → parseFieldDescriptor (T k).2.2.1 = some (xty ci k)) ∧ (∀ a, a < xnf ci → ∀ b, b < xnf ci → a ≠ b → (T a).2.1 ≠ (T b).2.1)
theorem xin_of {ws : List Cond} (ps : List Nat) (h : ws = ps.filterMap (fun i => xtbl[i]?)) : ∀ w ∈ ws, w ∈ xtbl := by
  intro w hw
  rw [h] at hw
  obtain ⟨i, -, hi⟩ := List.mem_filterMap.mp hw
  exact List.mem_of_getElem? hi
theorem xC0 : XCl 0 RX0 TX0 := ⟨rfl, xin_of [187, 189, 191, 193, 195, 197, 199, 201, 203, 205, 207, 209] (by decide +kernel), tyX0_ok, nmX0⟩
theorem xC1 : XCl 1 RX1 TX1 := ⟨rfl, xin_of [299, 301, 303] (by decide +kernel), tyX1_ok, nmX1⟩
theorem xC2 : XCl 2 RX2 TX2 := ⟨rfl, xin_of [145, 147] (by decide +kernel), tyX2_ok, nmX2⟩
theorem xC3 : XCl 3 RX3 TX3 := ⟨rfl, xin_of [122, 124, 126] (by decide +kernel), tyX3_ok, nmX3⟩
theorem xC4 : XCl 4 RX4 TX4 := ⟨rfl, xin_of [279, 281, 283, 285] (by decide +kernel), tyX4_ok, nmX4⟩
theorem xC5 : XCl 5 RX5 TX5 := ⟨rfl, xin_of [100, 102, 104, 106] (by decide +kernel), tyX5_ok, nmX5⟩
theorem xC6 : XCl 6 RX6 TX6 := ⟨rfl, xin_of [237, 239, 241, 243, 245, 247, 249, 251, 253, 255, 257, 259, 261] (by decide +kernel), tyX6_ok, nmX6⟩
theorem xC7 : XCl 7 RX7 TX7 := ⟨rfl, xin_of [313, 315, 317, 319, 321, 323, 325] (by decide +kernel), tyX7_ok, nmX7⟩
theorem xC8 : XCl 8 RX8 TX8 := ⟨rfl, xin_of [779, 781, 783, 785, 787, 789, 791, 793, 795, 797, 799, 801, 803, 805, 807, 809, 811, 813, 815, 817, 819, 821] (by decide +kernel), tyX8_ok, nmX8⟩
/-! what isn't a word that stays -/
abbrev XV : Type := Int32 ⊕ Option (Option Nat)
abbrev XL : Type := List (Nat × XV)
abbrev XK : Type := Nat ⊕ (Nat × Nat)
abbrev XH : Type := Nat × Nat × (Nat → XK) × (Nat → Nat → Option Nat) × (Nat → Nat → Int32)
abbrev XA : Type := Nat × Nat
abbrev XO : Type := (Nat × XL × List XV × XH) ⊕ ((Nat × List XV × Nat × List XV) ⊕ Option (Option XV))
abbrev XI : Type := XL → List XV → XH → XO
abbrev XY : Type := MethodName × ByteArray × Nat × Option FieldType
def xM (h : XH) : Nat := h.1
def xZ (h : XH) : Nat := h.2.1
def xK (h : XH) : Nat → XK := h.2.2.1
def xR (h : XH) : Nat → Nat → Option Nat := h.2.2.2.1
def xS (h : XH) : Nat → Nat → Int32 := h.2.2.2.2
def xup {α : Type} (f : Nat → α) (i : Nat) (v : α) : Nat → α := fun a => if a = i then v else f a
def xsetS (h : XH) (i : Nat) (f : Nat → Int32) : XH := (h.1, h.2.1, h.2.2.1, h.2.2.2.1, xup h.2.2.2.2 i f)
def xsetR (h : XH) (i : Nat) (f : Nat → Option Nat) : XH := (h.1, h.2.1, h.2.2.1, xup h.2.2.2.1 i f, h.2.2.2.2)
def xnew (h : XH) (k : XK) (sz : Nat) : XH := (h.1 + 1, h.2.1 + sz, xup h.2.2.1 h.1 k, xup h.2.2.2.1 h.1 (fun _ => none), xup h.2.2.2.2 h.1 (fun _ => 0))
def xv (β : XA) (v : XV) : Value := match v with
  | .inl x => .int x
  | .inr none => .null
  | .inr (some none) => .ref β.2
  | .inr (some (some i)) => .ref (β.1 + i)
def xls (β : XA) (L : XL) : List (Nat × Value) := L.map fun q => (q.1, xv β q.2)
def xst (β : XA) (st : List XV) : List Value := st.map (xv β)
def xfs (β : XA) (h : XH) (i ci : Nat) : List Value := (List.range (xnf ci)).map fun k => if xisR (xty ci k) = true then va_rf ((xR h i k).map (fun q => β.1 + q)) else .int (xS h i k)
def xe (β : XA) (cA : Nat → ClassId) (h : XH) (i : Nat) : va_E := match xK h i with
  | .inl ci => .inr (ci, xfs β h i ci)
  | .inr (0, n) => .inl (cA 0, n, .inl (xS h i))
  | .inr (t + 1, n) => .inl (cA (t + 1), n, .inr (.inr (.inr (.inr (fun j => (xR h i j).map (fun q => β.1 + q))))))
def xal (k : XK) : Bool := match k with
  | .inl _ => true
  | .inr (t, _) => Nat.blt t 4
def XP (β : XA) (D : va_G) (cA : Nat → ClassId) (h : XH) (H : Heap) : Prop := H.size = β.1 + xM h ∧ ∀ i, i < xM h → xal (xK h i) = true → va_at D xcl (β.1 + i, xe β cA h i) H
def xaT (t : Nat) : FieldType := match t with
  | 0 => .int
  | 1 => .object "ActorTrees$Actor"
  | 2 => .object "ActorTrees$Handle"
  | _ => .array .int
def xtys (cA : Nat → ClassId) : List (ClassId × FieldType) := [(cA 0, xaT 0), (cA 1, xaT 1), (cA 2, xaT 2), (cA 3, xaT 3)]
def xnest : List Cond := [.methodLinkNest RX6 19 yX5_init RX7, .methodLinkNest RX6 43 yX0_init RX7, .methodLinkNest RX7 27 yX4_init RX7, .methodLinkNest RX7 38 yX1_init RX7, .arrayOver (xaT 1), .arrayOver (xaT 2), .arrayOver (xaT 3)]
def XNw (U : State) : Prop := ∀ w ∈ xnest, w.before #[] U = true
def XKn (D : va_G) (cA : Nat → ClassId) (U : State) : Prop := va_K D xcl (xtys cA) U ∧ XNw U
def XF (β : XA) (s : State) (H : Heap) (locs : List Loc) : Prop := (∀ q : Nat, q < β.1 → H[q]? = s.heap[q]?) ∧ ∀ q ∈ locs, β.1 ≤ q.base
theorem xAOA_moved {t : FieldType} {u U : State} (hvm : u.vm.Alike U.vm) (h : (Cond.arrayOver (.array t)).before #[] u = true) : (Cond.arrayOver (.array t)).before #[] U = true := by
  obtain ⟨comp, c, k, h1, h2, h3, h4, h5⟩ := arrayOverA_spec h
  obtain ⟨k', hk', he⟩ := hvm.2.2 _ _ h3
  have hi : (U.vm.classes.findIdx? fun (x : Class) => match x.kind with | .array component _ => component == comp | _ => false) = some c := by
    have e1 := va_idx_bare U.vm comp
    have e2 := va_idx_bare u.vm comp
    have hb : U.vm.bare = u.vm.bare := by first | exact hvm.bare_eq | exact hvm.bare_eq.symm
    rw [hb] at e1
    exact e1.symm.trans (e2.trans h2)
  have hkind : k'.kind = .array comp (.array t) := by rw [he]; exact h4
  have f1 : U.vm.findClass (FieldType.array t).toString = some comp := by rw [hvm.findClass]; exact h1
  have f2 : U.vm.findClass ("[" ++ (FieldType.array t).toString) = some c := by rw [hvm.findClass]; exact h5
  unfold Cond.before Cond.holds
  simp only [Cond.value]
  rw [f1, Option.bind_some]
  refine (congrArg (fun o : Option Nat => (o.bind (fun c => (U.vm.classes[c]?).map fun (k : Class) => match k.kind with | .array _ ty => decide (ty = FieldType.array t) && decide (U.vm.findClass ("[" ++ (FieldType.array t).toString) = some c) | _ => false) == some true)) hi).trans ?_
  simp [hk', hkind, f2]
theorem XNw.moved {u U : State} (hW : u.WarmedH U.vm) (h : XNw u) : XNw U := by
  intro w hw
  have h0 := h w hw
  simp only [xnest, List.mem_cons, List.not_mem_nil, or_false] at hw
  rcases hw with rfl | rfl | rfl | rfl | rfl | rfl | rfl
  · exact va_Nw.warmM hW h0
  · exact va_Nw.warmM hW h0
  · exact va_Nw.warmM hW h0
  · exact va_Nw.warmM hW h0
  · exact va_AO.moved hW.alike h0
  · exact va_AO.moved hW.alike h0
  · exact xAOA_moved hW.alike h0
theorem XKn.moved {D : va_G} {cA : Nat → ClassId} {u U : State} (hW : u.WarmedH U.vm) (h : XKn D cA u) : XKn D cA U := ⟨va_K.moved hW.alike h.1, h.2.moved hW⟩
end
section
/-! 03: what an instruction of the abstract machine owes to the machine -/
def XRM (d mc ms : Nat) : Room := { frames := d + 1, cells := mc, slots := ms, locals := 128 * (d + 1) }
def XWs (Y : XY) : List Cond := Cond.code Y.1 Y.2.1 Y.2.2.1 Y.2.2.2 :: xtbl
def XPre (β : XA) (D : va_G) (cA : Nat → ClassId) (h : XH) : State → Prop := fun U => XP β D cA h U.heap ∧ XKn D cA U
def XQ (β : XA) (D : va_G) (cA : Nat → ClassId) (r : Option XV) (h' : XH) : Array Value → State → Outcome → State → Prop := fun _ st oc t => oc = .returned (r.map (xv β)) ∧ XP β D cA h' t.heap ∧ ∀ q : Nat, q < β.1 → t.heap[q]? = st.heap[q]?
def XMet (l : Launch) (Y : XY) (d : Nat) (β : XA) (D : va_G) (cA : Nat → ClassId) (as : List XV) (h : XH) (r : Option XV) (h' : XH) : Prop := Met l Y.1 (XWs Y) (XRM d (xM h' - xM h) (xZ h' - xZ h)) (va_Pc (xst β as) (XPre β D cA h)) (XQ β D cA r h') (xM h' - xM h) (xZ h' - xZ h) (fun q => β.1 ≤ q)
def XC (scr : Nat × (Nat → Int32)) (p : Program) (R : Room) (s : State) (m : MethodId) (args : Array Value) (meth : Method) (c : Code) (Y : XY) (β : XA) (D : va_G) (cA : Nat → ClassId) (d : Nat) : Prop :=
  p.tables.exec = Jvm.exec ∧ c.code = Y.2.1 ∧ c.maxLocals = Y.2.2.1 ∧ s.vm.findClass Y.1.cls = some m.cls ∧ (∀ w ∈ xtbl, w.before args s = true) ∧ XKn D cA s ∧ meth.name = Y.1.name ∧ β.1 ≤ s.heap.size ∧ d + 1 ≤ R.frames ∧ 128 * (d + 1) ≤ R.locals ∧ (Y.1.name = "law" → va_X β.2 scr.1 scr.2 s s.heap ∧ β.2 < β.1)
/-- where a walk stands -/
def XWk (p : Program) (l : Launch) (e : Env) (R : Room) (s : State) (m : MethodId) (args : Array Value) (below : List Frame) (meth : Method) (c : Code) (Y : XY) (β : XA) (D : va_G) (cA : Nat → ClassId) (m0 z0 : Nat) (Q : State → Prop) (pc : Nat) (L : XL) (st : List XV) (h : XH) : Prop :=
  ∀ (H : Heap) (locs : List Loc) (ls : Array Slot), XP β D cA h H → XF β s H locs → lv_has ls Y.2.2.1 (xls β L) → W p l e R s m args below meth c H locs (xM h - m0) (xZ h - z0) Q (F0 m pc ls (xst β st))
def XNx (scr : Nat × (Nat → Int32)) (Y : XY) (pc : Nat) (L : XL) (st : List XV) (h : XH) (pc' : Nat) (L' : XL) (st' : List XV) (h' : XH) : Prop :=
  ∀ (p : Program) (l : Launch) (e : Env) (R : Room) (s : State) (m : MethodId) (args : Array Value) (below : List Frame) (meth : Method) (c : Code) (β : XA) (D : va_G) (cA : Nat → ClassId) (d m0 z0 : Nat) (Q : State → Prop), XC scr p R s m args meth c Y β D cA d → m0 ≤ xM h → z0 ≤ xZ h → xM h' - m0 ≤ R.cells → xZ h' - z0 ≤ R.slots →
    XWk p l e R s m args below meth c Y β D cA m0 z0 Q pc' L' st' h' → XWk p l e R s m args below meth c Y β D cA m0 z0 Q pc L st h
def XCx (xm : Nat → XY) (scr : Nat × (Nat → Int32)) (Y : XY) (pc : Nat) (L : XL) (st : List XV) (h : XH) (mid : Nat) (as : List XV) (pc' : Nat) (st' : List XV) : Prop :=
  as.length ≤ (xm mid).2.2.1 ∧ plainName (xm mid).1.cls = true ∧ (xm mid).1.name ≠ "law" ∧ ∀ (p : Program) (l : Launch) (e : Env) (R : Room) (s : State) (m : MethodId) (args : Array Value) (below : List Frame) (meth : Method) (c : Code) (β : XA) (D : va_G) (cA : Nat → ClassId) (d m0 z0 : Nat) (Q : State → Prop) (r : Option XV) (h2 : XH), XC scr p R s m args meth c Y β D cA (d + 1) → m0 ≤ xM h → z0 ≤ xZ h → xM h ≤ xM h2 → xZ h ≤ xZ h2 → xM h2 - m0 ≤ R.cells → xZ h2 - z0 ≤ R.slots →
    XMet l (xm mid) d β D cA as h r h2 → XWk p l e R s m args below meth c Y β D cA m0 z0 Q pc' L (r.toList ++ st') h2 → XWk p l e R s m args below meth c Y β D cA m0 z0 Q pc L st h
def XRx (Y : XY) (pc : Nat) (st : List XV) (r : Option XV) : Prop :=
  (r = none ∧ st = [] ∧ decode Y.2.1 pc = .ok (.return_, 1) ∧ Y.2.2.2 = none) ∨ (∃ (v : Int32) (ty : FieldType), r = some (.inl v) ∧ st = [.inl v] ∧ decode Y.2.1 pc = .ok (.ireturn, 1) ∧ Y.2.2.2 = some ty ∧ narrow ty (.int v) = .int v)
def XSnd (xm : Nat → XY) (scr : Nat × (Nat → Int32)) (Y : XY) (pc : Nat) (sem : XI) : Prop := ∀ (L : XL) (st : List XV) (h : XH),
  (∀ pc' L' st' h', sem L st h = .inl (pc', L', st', h') → xM h ≤ xM h' ∧ xZ h ≤ xZ h' ∧ XNx scr Y pc L st h pc' L' st' h') ∧
  (∀ mid as pc' st', sem L st h = .inr (.inl (mid, as, pc', st')) → XCx xm scr Y pc L st h mid as pc' st') ∧
  (∀ r, sem L st h = .inr (.inr (some r)) → XRx Y pc st r)
def xbad : XO := .inr (.inr none)
theorem XSnd_bad {xm : Nat → XY} {scr : Nat × (Nat → Int32)} {Y : XY} {pc : Nat} : XSnd xm scr Y pc (fun _ _ _ => xbad) := fun L st h => ⟨fun _ _ _ _ e => (by cases e), fun _ _ _ _ e => (by cases e), fun _ e => (by cases e)⟩
/-! small laws -/
theorem xls_mem {β : XA} {L : XL} {ls : Array Slot} {n i : Nat} {v : XV} (hl : lv_has ls n (xls β L)) (h : (i, v) ∈ L) : ls[i]? = some (.val (xv β v)) := hl.2.2 (i, xv β v) (List.mem_map.mpr ⟨(i, v), h, rfl⟩)
def xget : XL → Nat → Option XV
  | [], _ => none
  | (k, v) :: L, i => if k = i then some v else xget L i
theorem xget_mem : ∀ {L : XL} {i : Nat} {v : XV}, xget L i = some v → (i, v) ∈ L
  | [], _, _, h => by cases h
  | (k, w) :: L, i, v, h => by
    unfold xget at h
    split at h
    · rename_i hk
      cases h
      rw [hk]
      exact List.mem_cons_self
    · exact List.mem_cons_of_mem _ (xget_mem h)
theorem xv_cat (β : XA) (v : XV) : (xv β v).category = 1 := by
  rcases v with x | _ | _ | i <;> rfl
def xput (L : XL) (i : Nat) (v : XV) : XL := (i, v) :: L.filter fun q => !(q.1 == i)
theorem xls_put (β : XA) (L : XL) (i : Nat) (v : XV) : (i, xv β v) :: (xls β L).filter (fun q => !(q.1 == i) && !(q.1 + 1 == i && q.2.category == 2)) = xls β (xput L i v) := by
  unfold xls xput
  rw [List.map_cons, List.filter_map]
  congr 2
  apply List.filter_congr
  intro q hq
  simp [Function.comp, xv_cat]
theorem xst_cons (β : XA) (v : XV) (st : List XV) : xst β (v :: st) = xv β v :: xst β st := rfl
theorem xst_sum (β : XA) (st : List XV) : ((xst β st).map fun v => v.category).sum = st.length := by
  induction st with
  | nil => rfl
  | cons v st ih =>
    show (xv β v).category + ((xst β st).map fun v => v.category).sum = _
    rw [xv_cat, ih, List.length_cons]
    omega
theorem XF_S {β : XA} {s : State} {H : Heap} {locs : List Loc} (h : XF β s H locs) (hb : β.1 ≤ s.heap.size) (hs : s.heap.size ≤ H.size) : va_S (fun q => β.1 ≤ q) s.heap H locs := ⟨hs, fun q h1 h2 => h.1 q (Nat.not_le.mp h2), h.2⟩
theorem xe_eq {β : XA} {cA : Nat → ClassId} {h h' : XH} {j : Nat} (h1 : xK h' j = xK h j) (h2 : xR h' j = xR h j) (h3 : xS h' j = xS h j) : xe β cA h' j = xe β cA h j := by
  unfold xe xfs
  rw [h1, h2, h3]
theorem XP_upd {β : XA} {D : va_G} {cA : Nat → ClassId} {h h' : XH} {H H' : Heap} {i : Nat} (hP : XP β D cA h H) (hm : xM h' = xM h) (hs : H'.size = H.size) (hne : ∀ q : Nat, q ≠ β.1 + i → H'[q]? = H[q]?) (hj : ∀ j, j ≠ i → xK h' j = xK h j ∧ xR h' j = xR h j ∧ xS h' j = xS h j) (hi : va_at D xcl (β.1 + i, xe β cA h' i) H') : XP β D cA h' H' := by
  refine ⟨by rw [hs, hm]; exact hP.1, fun j hjm ha => ?_⟩
  by_cases e : j = i
  · subst e
    exact hi
  · obtain ⟨h1, h2, h3⟩ := hj j e
    rw [xe_eq h1 h2 h3]
    exact (hP.2 j (by rw [← hm]; exact hjm) (by rw [← h1]; exact ha)).kept (hne _ (by show β.1 + j ≠ β.1 + i; omega))
theorem XF_put {β : XA} {s : State} {H H' : Heap} {locs : List Loc} {i k : Nat} (h : XF β s H locs) (hne : ∀ q : Nat, q ≠ β.1 + i → H'[q]? = H[q]?) : XF β s H' (locs ++ [⟨β.1 + i, k⟩]) := by
  refine ⟨fun q hq => (hne q (by omega)).trans (h.1 q hq), fun q hq => ?_⟩
  rcases List.mem_append.mp hq with g | g
  · exact h.2 q g
  · rw [List.mem_singleton.mp g]
    exact Nat.le_add_right _ _
theorem XP_push {β : XA} {D : va_G} {cA : Nat → ClassId} {h : XH} {H H' : Heap} {k : XK} {sz : Nat} (hP : XP β D cA h H) (hs : H'.size = H.size + 1) (hne : ∀ q : Nat, q < H.size → H'[q]? = H[q]?) (hi : va_at D xcl (β.1 + xM h, xe β cA (xnew h k sz) (xM h)) H') : XP β D cA (xnew h k sz) H' := by
  refine ⟨by rw [hs, hP.1]; show _ = β.1 + (xM h + 1); omega, fun j hjm ha => ?_⟩
  by_cases e : j = xM h
  · subst e
    exact hi
  · have hjm' : j < xM h := by have : j < xM h + 1 := hjm; omega
    have h1 : xK (xnew h k sz) j = xK h j := if_neg e
    have h2 : xR (xnew h k sz) j = xR h j := if_neg e
    have h3 : xS (xnew h k sz) j = xS h j := if_neg e
    rw [xe_eq h1 h2 h3]
    exact (hP.2 j hjm' (by rw [← h1]; exact ha)).kept (hne _ (by show β.1 + j < H.size; rw [hP.1]; omega))
theorem XF_push {β : XA} {s : State} {H H' : Heap} {locs : List Loc} (h : XF β s H locs) (hs : β.1 ≤ H.size) (hne : ∀ q : Nat, q < H.size → H'[q]? = H[q]?) : XF β s H' locs := ⟨fun q hq => (hne q (by omega)).trans (h.1 q hq), h.2⟩
/-- a cell alone -/
theorem XP_one {β : XA} {D : va_G} {cA : Nat → ClassId} {h : XH} {H : Heap} {i : Nat} {e : va_E} (hP : XP β D cA h H) (hi : i < xM h) (ha : xal (xK h i) = true) (he : xe β cA h i = e) : va_P D xcl [(β.1 + i, e)] H := by
  intro k q hk
  have hz : k < 1 := (List.getElem?_eq_some_iff.mp hk).1
  rw [show k = 0 by omega] at hk
  cases hk
  rw [← he]
  exact hP.2 i hi ha
theorem xe_obj {β : XA} {cA : Nat → ClassId} {h : XH} {i ci : Nat} (hk : xK h i = .inl ci) : xe β cA h i = .inr (ci, xfs β h i ci) := by unfold xe; rw [hk]
theorem xe_int {β : XA} {cA : Nat → ClassId} {h : XH} {i n : Nat} (hk : xK h i = .inr (0, n)) : xe β cA h i = .inl (cA 0, n, .inl (xS h i)) := by unfold xe; rw [hk]
theorem xe_ref {β : XA} {cA : Nat → ClassId} {h : XH} {i t n : Nat} (hk : xK h i = .inr (t + 1, n)) : xe β cA h i = .inl (cA (t + 1), n, .inr (.inr (.inr (.inr (fun j => (xR h i j).map (fun q => β.1 + q)))))) := by unfold xe; rw [hk]
theorem xfs_at (β : XA) (h : XH) (i ci : Nat) {k : Nat} (hk : k < xnf ci) : (xfs β h i ci)[k]? = some (if xisR (xty ci k) = true then va_rf ((xR h i k).map (fun q => β.1 + q)) else .int (xS h i k)) := by
  unfold xfs
  rw [List.getElem?_map, List.getElem?_range hk]
  rfl
theorem xfs_V (β : XA) (h : XH) (i ci : Nat) {k : Nat} (hk : k < xnf ci) : vp_V (xfs β h i ci) k = (if xisR (xty ci k) = true then va_rf ((xR h i k).map (fun q => β.1 + q)) else .int (xS h i k)) := by
  unfold vp_V
  rw [List.getD_eq_getElem?_getD, xfs_at β h i ci hk]
  rfl
theorem xfs_len (β : XA) (h : XH) (i ci : Nat) : (xfs β h i ci).length = xnf ci := by simp [xfs]
def xiN (f : XL → List XV → XH → Option (Nat × XL × List XV × XH)) : XI := fun L st h => match f L st h with
  | some o => .inl o
  | none => xbad
theorem XSnd_N {xm : Nat → XY} {scr : Nat × (Nat → Int32)} {Y : XY} {pc : Nat} {f : XL → List XV → XH → Option (Nat × XL × List XV × XH)} (hf : ∀ L st h pc' L' st' h', f L st h = some (pc', L', st', h') → xM h ≤ xM h' ∧ xZ h ≤ xZ h' ∧ XNx scr Y pc L st h pc' L' st' h') : XSnd xm scr Y pc (xiN f) := by
  intro L st h
  refine ⟨fun pc' L' st' h' e => hf L st h pc' L' st' h' ?_, fun _ _ _ _ e => ?_, fun _ e => ?_⟩
  · unfold xiN at e
    split at e
    · rename_i o ho
      cases e
      exact ho
    · cases e
  · unfold xiN at e
    split at e <;> cases e
  · unfold xiN at e
    split at e <;> cases e
/-- an instruction that leaves the cells -/
theorem XSnd_P {xm : Nat → XY} {scr : Nat × (Nat → Int32)} {Y : XY} {pc : Nat} {f : XL → List XV → XH → Option (Nat × XL × List XV × XH)} (hf : ∀ L st h pc' L' st' h', f L st h = some (pc', L', st', h') → h' = h ∧ XNx scr Y pc L st h pc' L' st' h) : XSnd xm scr Y pc (xiN f) :=
  XSnd_N fun L st h pc' L' st' h' e => by
    obtain ⟨rfl, hx⟩ := hf L st h pc' L' st' h' e
    exact ⟨Nat.le_refl _, Nat.le_refl _, hx⟩
end
section
/-! 04: the instructions that leave the cells -/
def x_push (v : Int32) (n : Nat) : XI := xiN fun L st h => some (n, L, .inl v :: st, h)
theorem s_iconst {xm : Nat → XY} {scr : Nat × (Nat → Int32)} {Y : XY} {pc : Nat} {z : Int} {v : Int32} (hd : decode Y.2.1 pc = .ok (.iconst z, 1)) (hv : Int32.ofInt z = v) : XSnd xm scr Y pc (x_push v (pc + 1)) := by
  refine XSnd_P fun L st h pc1 L1 st1 h1 ee => ?_
  cases ee
  refine ⟨rfl, fun p l e R s m args below meth c β D cA d m0 z0 Q X hm0 hz0 hmR hzR k H locs ls hP hF hl => ?_⟩
  obtain ⟨hx, hb, hml, hown, hts, hK, -⟩ := X
  exact lv_iconst hx hb hd hv (k H locs ls hP hF hl)
theorem s_bipush {xm : Nat → XY} {scr : Nat × (Nat → Int32)} {Y : XY} {pc : Nat} {z : Int} {v : Int32} (hd : decode Y.2.1 pc = .ok (.bipush z, 2)) (hv : (Int8.ofInt z).toInt32 = v) : XSnd xm scr Y pc (x_push v (pc + 2)) := by
  refine XSnd_P fun L st h pc1 L1 st1 h1 ee => ?_
  cases ee
  refine ⟨rfl, fun p l e R s m args below meth c β D cA d m0 z0 Q X hm0 hz0 hmR hzR k H locs ls hP hF hl => ?_⟩
  obtain ⟨hx, hb, hml, hown, hts, hK, -⟩ := X
  exact lv_bipush hx hb hd hv (k H locs ls hP hF hl)
theorem s_sipush {xm : Nat → XY} {scr : Nat × (Nat → Int32)} {Y : XY} {pc : Nat} {z : Int} {v : Int32} (hd : decode Y.2.1 pc = .ok (.sipush z, 3)) (hv : (Int16.ofInt z).toInt32 = v) : XSnd xm scr Y pc (x_push v (pc + 3)) := by
  refine XSnd_P fun L st h pc1 L1 st1 h1 ee => ?_
  cases ee
  refine ⟨rfl, fun p l e R s m args below meth c β D cA d m0 z0 Q X hm0 hz0 hmR hzR k H locs ls hP hF hl => ?_⟩
  obtain ⟨hx, hb, hml, hown, hts, hK, -⟩ := X
  exact lv_sipush hx hb hd hv (k H locs ls hP hF hl)
theorem s_ldc {xm : Nat → XY} {scr : Nat × (Nat → Int32)} {Y : XY} {pc : Nat} {idx : Nat} {v : Int32} (hd : decode Y.2.1 pc = .ok (.ldc idx, 2)) (hw : Cond.constant Y.1.cls idx v ∈ xtbl) : XSnd xm scr Y pc (x_push v (pc + 2)) := by
  refine XSnd_P fun L st h pc1 L1 st1 h1 ee => ?_
  cases ee
  refine ⟨rfl, fun p l e R s m args below meth c β D cA d m0 z0 Q X hm0 hz0 hmR hzR k H locs ls hP hF hl => ?_⟩
  obtain ⟨hx, hb, hml, hown, hts, hK, -⟩ := X
  exact lv_ldc hx hb hown (hts _ hw) hd (k H locs ls hP hF hl)
theorem s_ldcw {xm : Nat → XY} {scr : Nat × (Nat → Int32)} {Y : XY} {pc : Nat} {idx : Nat} {v : Int32} (hd : decode Y.2.1 pc = .ok (.ldc_w idx, 3)) (hw : Cond.constant Y.1.cls idx v ∈ xtbl) : XSnd xm scr Y pc (x_push v (pc + 3)) := by
  refine XSnd_P fun L st h pc1 L1 st1 h1 ee => ?_
  cases ee
  refine ⟨rfl, fun p l e R s m args below meth c β D cA d m0 z0 Q X hm0 hz0 hmR hzR k H locs ls hP hF hl => ?_⟩
  obtain ⟨hx, hb, hml, hown, hts, hK, -⟩ := X
  exact lv_ldcw hx hb hown (hts _ hw) hd (k H locs ls hP hF hl)
def x_iload (i n : Nat) : XI := xiN fun L st h => match xget L i with
  | some (.inl x) => some (n, L, .inl x :: st, h)
  | _ => none
def x_aload (i n : Nat) : XI := xiN fun L st h => match xget L i with
  | some (.inr (some r)) => some (n, L, .inr (some r) :: st, h)
  | _ => none
theorem s_iload_n {xm : Nat → XY} {scr : Nat × (Nat → Int32)} {Y : XY} {pc : Nat} {i : Nat} {j : Fin 4} (hi : (j : Nat) = i) (hd : decode Y.2.1 pc = .ok (.iload_n j, 1)) : XSnd xm scr Y pc (x_iload i (pc + 1)) := by
  refine XSnd_P fun L st h pc1 L1 st1 h1 ee => ?_
  split at ee
  · rename_i x hg
    cases ee
    refine ⟨rfl, fun p l e R s m args below meth c β D cA d m0 z0 Q X hm0 hz0 hmR hzR k H locs ls hP hF hl => ?_⟩
    obtain ⟨hx, hb, hml, hown, hts, hK, -⟩ := X
    exact lv_iload_n hx hb hd hi (xls_mem hl (xget_mem hg)) (k H locs ls hP hF hl)
  · cases ee
theorem s_iload {xm : Nat → XY} {scr : Nat × (Nat → Int32)} {Y : XY} {pc : Nat} {i : Nat}  (hd : decode Y.2.1 pc = .ok (.iload i, 2)) : XSnd xm scr Y pc (x_iload i (pc + 2)) := by
  refine XSnd_P fun L st h pc1 L1 st1 h1 ee => ?_
  split at ee
  · rename_i x hg
    cases ee
    refine ⟨rfl, fun p l e R s m args below meth c β D cA d m0 z0 Q X hm0 hz0 hmR hzR k H locs ls hP hF hl => ?_⟩
    obtain ⟨hx, hb, hml, hown, hts, hK, -⟩ := X
    exact lv_iload hx hb hd (xls_mem hl (xget_mem hg)) (k H locs ls hP hF hl)
  · cases ee
theorem s_aload_n {xm : Nat → XY} {scr : Nat × (Nat → Int32)} {Y : XY} {pc : Nat} {i : Nat} {j : Fin 4} (hi : (j : Nat) = i) (hd : decode Y.2.1 pc = .ok (.aload_n j, 1)) : XSnd xm scr Y pc (x_aload i (pc + 1)) := by
  refine XSnd_P fun L st h pc1 L1 st1 h1 ee => ?_
  split at ee
  · rename_i r hg
    cases ee
    refine ⟨rfl, fun p l e R s m args below meth c β D cA d m0 z0 Q X hm0 hz0 hmR hzR k H locs ls hP hF hl => ?_⟩
    obtain ⟨hx, hb, hml, hown, hts, hK, -⟩ := X
    rcases r with _ | r
    · exact lv_aload_n hx hb hd hi (xls_mem hl (xget_mem hg)) (k H locs ls hP hF hl)
    · exact lv_aload_n hx hb hd hi (xls_mem hl (xget_mem hg)) (k H locs ls hP hF hl)
  · cases ee
theorem s_aload {xm : Nat → XY} {scr : Nat × (Nat → Int32)} {Y : XY} {pc : Nat} {i : Nat}  (hd : decode Y.2.1 pc = .ok (.aload i, 2)) : XSnd xm scr Y pc (x_aload i (pc + 2)) := by
  refine XSnd_P fun L st h pc1 L1 st1 h1 ee => ?_
  split at ee
  · rename_i r hg
    cases ee
    refine ⟨rfl, fun p l e R s m args below meth c β D cA d m0 z0 Q X hm0 hz0 hmR hzR k H locs ls hP hF hl => ?_⟩
    obtain ⟨hx, hb, hml, hown, hts, hK, -⟩ := X
    rcases r with _ | r
    · exact lv_aload hx hb hd (xls_mem hl (xget_mem hg)) (k H locs ls hP hF hl)
    · exact lv_aload hx hb hd (xls_mem hl (xget_mem hg)) (k H locs ls hP hF hl)
  · cases ee
def x_istore (i n : Nat) : XI := xiN fun L st h => match st with
  | .inl x :: st => some (n, xput L i (.inl x), st, h)
  | _ => none
def x_astore (i n : Nat) : XI := xiN fun L st h => match st with
  | .inr (some r) :: st => some (n, xput L i (.inr (some r)), st, h)
  | _ => none
theorem s_istore_n {xm : Nat → XY} {scr : Nat × (Nat → Int32)} {Y : XY} {pc : Nat} {i : Nat} {j : Fin 4} (hi : (j : Nat) = i) (hd : decode Y.2.1 pc = .ok (.istore_n j, 1)) (hn : i < Y.2.2.1) : XSnd xm scr Y pc (x_istore i (pc + 1)) := by
  refine XSnd_P fun L st h pc1 L1 st1 h1 ee => ?_
  split at ee
  · rename_i x st0
    cases ee
    refine ⟨rfl, fun p l e R s m args below meth c β D cA d m0 z0 Q X hm0 hz0 hmR hzR k H locs ls hP hF hl => ?_⟩
    obtain ⟨hx, hb, hml, hown, hts, hK, -⟩ := X
    exact lv_istore_n hx hb hd hi hl hn (xls_put β L i (.inl x)) (fun ls2 hl2 => k H locs ls2 hP hF hl2)
  · cases ee
theorem s_istore {xm : Nat → XY} {scr : Nat × (Nat → Int32)} {Y : XY} {pc : Nat} {i : Nat}  (hd : decode Y.2.1 pc = .ok (.istore i, 2)) (hn : i < Y.2.2.1) : XSnd xm scr Y pc (x_istore i (pc + 2)) := by
  refine XSnd_P fun L st h pc1 L1 st1 h1 ee => ?_
  split at ee
  · rename_i x st0
    cases ee
    refine ⟨rfl, fun p l e R s m args below meth c β D cA d m0 z0 Q X hm0 hz0 hmR hzR k H locs ls hP hF hl => ?_⟩
    obtain ⟨hx, hb, hml, hown, hts, hK, -⟩ := X
    exact lv_istore hx hb hd hl hn (xls_put β L i (.inl x)) (fun ls2 hl2 => k H locs ls2 hP hF hl2)
  · cases ee
theorem s_astore_n {xm : Nat → XY} {scr : Nat × (Nat → Int32)} {Y : XY} {pc : Nat} {i : Nat} {j : Fin 4} (hi : (j : Nat) = i) (hd : decode Y.2.1 pc = .ok (.astore_n j, 1)) (hn : i < Y.2.2.1) : XSnd xm scr Y pc (x_astore i (pc + 1)) := by
  refine XSnd_P fun L st h pc1 L1 st1 h1 ee => ?_
  split at ee
  · rename_i r st0
    cases ee
    refine ⟨rfl, fun p l e R s m args below meth c β D cA d m0 z0 Q X hm0 hz0 hmR hzR k H locs ls hP hF hl => ?_⟩
    obtain ⟨hx, hb, hml, hown, hts, hK, -⟩ := X
    rcases r with _ | r
    · exact lv_astore_n hx hb hd hi hl hn (xls_put β L i (.inr (some none))) (fun ls2 hl2 => k H locs ls2 hP hF hl2)
    · exact lv_astore_n hx hb hd hi hl hn (xls_put β L i (.inr (some (some r)))) (fun ls2 hl2 => k H locs ls2 hP hF hl2)
  · cases ee
theorem s_astore {xm : Nat → XY} {scr : Nat × (Nat → Int32)} {Y : XY} {pc : Nat} {i : Nat}  (hd : decode Y.2.1 pc = .ok (.astore i, 2)) (hn : i < Y.2.2.1) : XSnd xm scr Y pc (x_astore i (pc + 2)) := by
  refine XSnd_P fun L st h pc1 L1 st1 h1 ee => ?_
  split at ee
  · rename_i r st0
    cases ee
    refine ⟨rfl, fun p l e R s m args below meth c β D cA d m0 z0 Q X hm0 hz0 hmR hzR k H locs ls hP hF hl => ?_⟩
    obtain ⟨hx, hb, hml, hown, hts, hK, -⟩ := X
    rcases r with _ | r
    · exact lv_astore hx hb hd hl hn (xls_put β L i (.inr (some none))) (fun ls2 hl2 => k H locs ls2 hP hF hl2)
    · exact lv_astore hx hb hd hl hn (xls_put β L i (.inr (some (some r)))) (fun ls2 hl2 => k H locs ls2 hP hF hl2)
  · cases ee
def x_iinc (i : Nat) (a : Int32) (n : Nat) : XI := xiN fun L st h => match xget L i with
  | some (.inl x) => some (n, xput L i (.inl (x + a)), st, h)
  | _ => none
theorem s_iinc {xm : Nat → XY} {scr : Nat × (Nat → Int32)} {Y : XY} {pc : Nat} {i : Nat} {z : Int} {a : Int32} (hd : decode Y.2.1 pc = .ok (.iinc i z, 3)) (ha : Int32.ofInt z = a) (hn : i < Y.2.2.1) : XSnd xm scr Y pc (x_iinc i a (pc + 3)) := by
  refine XSnd_P fun L st h pc1 L1 st1 h1 ee => ?_
  split at ee
  · rename_i x hg
    cases ee
    refine ⟨rfl, fun p l e R s m args below meth c β D cA d m0 z0 Q X hm0 hz0 hmR hzR k H locs ls hP hF hl => ?_⟩
    obtain ⟨hx, hb, hml, hown, hts, hK, -⟩ := X
    obtain ⟨q, hq⟩ := List.getElem?_of_mem (List.mem_map.mpr ⟨(i, .inl x), xget_mem hg, rfl⟩ : (i, Value.int x) ∈ xls β L)
    exact lv_iinc hx hb hd hl hq (by rw [ha]) hn (xls_put β L i (.inl (x + a))) (fun ls2 hl2 => k H locs ls2 hP hF hl2)
  · cases ee
def x_dup (n : Nat) : XI := xiN fun L st h => match st with
  | v :: st => some (n, L, v :: v :: st, h)
  | _ => none
theorem s_dup {xm : Nat → XY} {scr : Nat × (Nat → Int32)} {Y : XY} {pc : Nat} (hd : decode Y.2.1 pc = .ok (.dup, 1)) : XSnd xm scr Y pc (x_dup (pc + 1)) := by
  refine XSnd_P fun L st h pc1 L1 st1 h1 ee => ?_
  split at ee
  · cases ee
    refine ⟨rfl, fun p l e R s m args below meth c β D cA d m0 z0 Q X hm0 hz0 hmR hzR k H locs ls hP hF hl => ?_⟩
    obtain ⟨hx, hb, hml, hown, hts, hK, -⟩ := X
    exact lv_dup hx hb hd (xv_cat _ _) (k H locs ls hP hF hl)
  · cases ee
def x_pop (n : Nat) : XI := xiN fun L st h => match st with
  | _ :: st => some (n, L, st, h)
  | _ => none
theorem s_pop {xm : Nat → XY} {scr : Nat × (Nat → Int32)} {Y : XY} {pc : Nat} (hd : decode Y.2.1 pc = .ok (.pop, 1)) : XSnd xm scr Y pc (x_pop (pc + 1)) := by
  refine XSnd_P fun L st h pc1 L1 st1 h1 ee => ?_
  split at ee
  · cases ee
    refine ⟨rfl, fun p l e R s m args below meth c β D cA d m0 z0 Q X hm0 hz0 hmR hzR k H locs ls hP hF hl => ?_⟩
    obtain ⟨hx, hb, hml, hown, hts, hK, -⟩ := X
    exact lv_pop hx hb hd (xv_cat _ _) (k H locs ls hP hF hl)
  · cases ee
def x_dup_x1 (n : Nat) : XI := xiN fun L st h => match st with
  | v :: w :: st => some (n, L, v :: w :: v :: st, h)
  | _ => none
theorem s_dup_x1 {xm : Nat → XY} {scr : Nat × (Nat → Int32)} {Y : XY} {pc : Nat} (hd : decode Y.2.1 pc = .ok (.dup_x1, 1)) : XSnd xm scr Y pc (x_dup_x1 (pc + 1)) := by
  refine XSnd_P fun L st h pc1 L1 st1 h1 ee => ?_
  split at ee
  · cases ee
    refine ⟨rfl, fun p l e R s m args below meth c β D cA d m0 z0 Q X hm0 hz0 hmR hzR k H locs ls hP hF hl => ?_⟩
    obtain ⟨hx, hb, hml, hown, hts, hK, -⟩ := X
    exact lv_dup_x1 hx hb hd (xv_cat _ _) (xv_cat _ _) (k H locs ls hP hF hl)
  · cases ee
def x_dup_x2 (n : Nat) : XI := xiN fun L st h => match st with
  | v :: w :: u :: st => some (n, L, v :: w :: u :: v :: st, h)
  | _ => none
theorem s_dup_x2 {xm : Nat → XY} {scr : Nat × (Nat → Int32)} {Y : XY} {pc : Nat} (hd : decode Y.2.1 pc = .ok (.dup_x2, 1)) : XSnd xm scr Y pc (x_dup_x2 (pc + 1)) := by
  refine XSnd_P fun L st h pc1 L1 st1 h1 ee => ?_
  split at ee
  · cases ee
    refine ⟨rfl, fun p l e R s m args below meth c β D cA d m0 z0 Q X hm0 hz0 hmR hzR k H locs ls hP hF hl => ?_⟩
    obtain ⟨hx, hb, hml, hown, hts, hK, -⟩ := X
    exact lv_dup_x2 hx hb hd (xv_cat _ _) (xv_cat _ _) (xv_cat _ _) (k H locs ls hP hF hl)
  · cases ee
def x_dup2 (n : Nat) : XI := xiN fun L st h => match st with
  | v :: w :: st => some (n, L, v :: w :: v :: w :: st, h)
  | _ => none
theorem s_dup2 {xm : Nat → XY} {scr : Nat × (Nat → Int32)} {Y : XY} {pc : Nat} (hd : decode Y.2.1 pc = .ok (.dup2, 1)) : XSnd xm scr Y pc (x_dup2 (pc + 1)) := by
  refine XSnd_P fun L st h pc1 L1 st1 h1 ee => ?_
  split at ee
  · cases ee
    refine ⟨rfl, fun p l e R s m args below meth c β D cA d m0 z0 Q X hm0 hz0 hmR hzR k H locs ls hP hF hl => ?_⟩
    obtain ⟨hx, hb, hml, hown, hts, hK, -⟩ := X
    exact lv_dup2_11 hx hb hd (xv_cat _ _) (xv_cat _ _) (k H locs ls hP hF hl)
  · cases ee
def x_iadd (n : Nat) : XI := xiN fun L st h => match st with
  | .inl y :: .inl x :: st => some (n, L, .inl (x + y) :: st, h)
  | _ => none
theorem s_iadd {xm : Nat → XY} {scr : Nat × (Nat → Int32)} {Y : XY} {pc : Nat} (hd : decode Y.2.1 pc = .ok (.iadd, 1)) : XSnd xm scr Y pc (x_iadd (pc + 1)) := by
  refine XSnd_P fun L st h pc1 L1 st1 h1 ee => ?_
  split at ee
  · cases ee
    refine ⟨rfl, fun p l e R s m args below meth c β D cA d m0 z0 Q X hm0 hz0 hmR hzR k H locs ls hP hF hl => ?_⟩
    obtain ⟨hx, hb, hml, hown, hts, hK, -⟩ := X
    exact lv_iadd hx hb hd (k H locs ls hP hF hl)
  · cases ee
def x_isub (n : Nat) : XI := xiN fun L st h => match st with
  | .inl y :: .inl x :: st => some (n, L, .inl (x - y) :: st, h)
  | _ => none
theorem s_isub {xm : Nat → XY} {scr : Nat × (Nat → Int32)} {Y : XY} {pc : Nat} (hd : decode Y.2.1 pc = .ok (.isub, 1)) : XSnd xm scr Y pc (x_isub (pc + 1)) := by
  refine XSnd_P fun L st h pc1 L1 st1 h1 ee => ?_
  split at ee
  · cases ee
    refine ⟨rfl, fun p l e R s m args below meth c β D cA d m0 z0 Q X hm0 hz0 hmR hzR k H locs ls hP hF hl => ?_⟩
    obtain ⟨hx, hb, hml, hown, hts, hK, -⟩ := X
    exact lv_isub hx hb hd (k H locs ls hP hF hl)
  · cases ee
def x_imul (n : Nat) : XI := xiN fun L st h => match st with
  | .inl y :: .inl x :: st => some (n, L, .inl (x * y) :: st, h)
  | _ => none
theorem s_imul {xm : Nat → XY} {scr : Nat × (Nat → Int32)} {Y : XY} {pc : Nat} (hd : decode Y.2.1 pc = .ok (.imul, 1)) : XSnd xm scr Y pc (x_imul (pc + 1)) := by
  refine XSnd_P fun L st h pc1 L1 st1 h1 ee => ?_
  split at ee
  · cases ee
    refine ⟨rfl, fun p l e R s m args below meth c β D cA d m0 z0 Q X hm0 hz0 hmR hzR k H locs ls hP hF hl => ?_⟩
    obtain ⟨hx, hb, hml, hown, hts, hK, -⟩ := X
    exact lv_imul hx hb hd (k H locs ls hP hF hl)
  · cases ee
def x_iand (n : Nat) : XI := xiN fun L st h => match st with
  | .inl y :: .inl x :: st => some (n, L, .inl (x &&& y) :: st, h)
  | _ => none
theorem s_iand {xm : Nat → XY} {scr : Nat × (Nat → Int32)} {Y : XY} {pc : Nat} (hd : decode Y.2.1 pc = .ok (.iand, 1)) : XSnd xm scr Y pc (x_iand (pc + 1)) := by
  refine XSnd_P fun L st h pc1 L1 st1 h1 ee => ?_
  split at ee
  · cases ee
    refine ⟨rfl, fun p l e R s m args below meth c β D cA d m0 z0 Q X hm0 hz0 hmR hzR k H locs ls hP hF hl => ?_⟩
    obtain ⟨hx, hb, hml, hown, hts, hK, -⟩ := X
    exact lv_iand hx hb hd (k H locs ls hP hF hl)
  · cases ee
def x_ior (n : Nat) : XI := xiN fun L st h => match st with
  | .inl y :: .inl x :: st => some (n, L, .inl (x ||| y) :: st, h)
  | _ => none
theorem s_ior {xm : Nat → XY} {scr : Nat × (Nat → Int32)} {Y : XY} {pc : Nat} (hd : decode Y.2.1 pc = .ok (.ior, 1)) : XSnd xm scr Y pc (x_ior (pc + 1)) := by
  refine XSnd_P fun L st h pc1 L1 st1 h1 ee => ?_
  split at ee
  · cases ee
    refine ⟨rfl, fun p l e R s m args below meth c β D cA d m0 z0 Q X hm0 hz0 hmR hzR k H locs ls hP hF hl => ?_⟩
    obtain ⟨hx, hb, hml, hown, hts, hK, -⟩ := X
    exact lv_ior hx hb hd (k H locs ls hP hF hl)
  · cases ee
def x_ixor (n : Nat) : XI := xiN fun L st h => match st with
  | .inl y :: .inl x :: st => some (n, L, .inl (x ^^^ y) :: st, h)
  | _ => none
theorem s_ixor {xm : Nat → XY} {scr : Nat × (Nat → Int32)} {Y : XY} {pc : Nat} (hd : decode Y.2.1 pc = .ok (.ixor, 1)) : XSnd xm scr Y pc (x_ixor (pc + 1)) := by
  refine XSnd_P fun L st h pc1 L1 st1 h1 ee => ?_
  split at ee
  · cases ee
    refine ⟨rfl, fun p l e R s m args below meth c β D cA d m0 z0 Q X hm0 hz0 hmR hzR k H locs ls hP hF hl => ?_⟩
    obtain ⟨hx, hb, hml, hown, hts, hK, -⟩ := X
    exact lv_ixor hx hb hd (k H locs ls hP hF hl)
  · cases ee
def x_ishl (n : Nat) : XI := xiN fun L st h => match st with
  | .inl y :: .inl x :: st => some (n, L, .inl (x <<< (y &&& 31)) :: st, h)
  | _ => none
theorem s_ishl {xm : Nat → XY} {scr : Nat × (Nat → Int32)} {Y : XY} {pc : Nat} (hd : decode Y.2.1 pc = .ok (.ishl, 1)) : XSnd xm scr Y pc (x_ishl (pc + 1)) := by
  refine XSnd_P fun L st h pc1 L1 st1 h1 ee => ?_
  split at ee
  · cases ee
    refine ⟨rfl, fun p l e R s m args below meth c β D cA d m0 z0 Q X hm0 hz0 hmR hzR k H locs ls hP hF hl => ?_⟩
    obtain ⟨hx, hb, hml, hown, hts, hK, -⟩ := X
    exact lv_ishl hx hb hd (k H locs ls hP hF hl)
  · cases ee
def x_iushr (n : Nat) : XI := xiN fun L st h => match st with
  | .inl y :: .inl x :: st => some (n, L, .inl ((x.toUInt32 >>> (y.toUInt32 &&& Int32.toUInt32 31)).toInt32) :: st, h)
  | _ => none
theorem s_iushr {xm : Nat → XY} {scr : Nat × (Nat → Int32)} {Y : XY} {pc : Nat} (hd : decode Y.2.1 pc = .ok (.iushr, 1)) : XSnd xm scr Y pc (x_iushr (pc + 1)) := by
  refine XSnd_P fun L st h pc1 L1 st1 h1 ee => ?_
  split at ee
  · cases ee
    refine ⟨rfl, fun p l e R s m args below meth c β D cA d m0 z0 Q X hm0 hz0 hmR hzR k H locs ls hP hF hl => ?_⟩
    obtain ⟨hx, hb, hml, hown, hts, hK, -⟩ := X
    exact lv_iushr hx hb hd rfl (k H locs ls hP hF hl)
  · cases ee
def x_ineg (n : Nat) : XI := xiN fun L st h => match st with
  | .inl x :: st => some (n, L, .inl (-x) :: st, h)
  | _ => none
theorem s_ineg {xm : Nat → XY} {scr : Nat × (Nat → Int32)} {Y : XY} {pc : Nat} (hd : decode Y.2.1 pc = .ok (.ineg, 1)) : XSnd xm scr Y pc (x_ineg (pc + 1)) := by
  refine XSnd_P fun L st h pc1 L1 st1 h1 ee => ?_
  split at ee
  · cases ee
    refine ⟨rfl, fun p l e R s m args below meth c β D cA d m0 z0 Q X hm0 hz0 hmR hzR k H locs ls hP hF hl => ?_⟩
    obtain ⟨hx, hb, hml, hown, hts, hK, -⟩ := X
    exact lv_ineg hx hb hd (k H locs ls hP hF hl)
  · cases ee
def x_idiv (n : Nat) : XI := xiN fun L st h => match st with
  | .inl y :: .inl x :: st => if y = 0 then none else some (n, L, .inl (x / y) :: st, h)
  | _ => none
theorem s_idiv {xm : Nat → XY} {scr : Nat × (Nat → Int32)} {Y : XY} {pc : Nat} (hd : decode Y.2.1 pc = .ok (.idiv, 1)) : XSnd xm scr Y pc (x_idiv (pc + 1)) := by
  refine XSnd_P fun L st h pc1 L1 st1 h1 ee => ?_
  split at ee
  · split at ee
    · cases ee
    rename_i hne
    cases ee
    refine ⟨rfl, fun p l e R s m args below meth c β D cA d m0 z0 Q X hm0 hz0 hmR hzR k H locs ls hP hF hl => ?_⟩
    obtain ⟨hx, hb, hml, hown, hts, hK, -⟩ := X
    exact lv_idiv hx hb hd hne (k H locs ls hP hF hl)
  · cases ee
def x_irem (n : Nat) : XI := xiN fun L st h => match st with
  | .inl y :: .inl x :: st => if y = 0 then none else some (n, L, .inl (x - x / y * y) :: st, h)
  | _ => none
theorem s_irem {xm : Nat → XY} {scr : Nat × (Nat → Int32)} {Y : XY} {pc : Nat} (hd : decode Y.2.1 pc = .ok (.irem, 1)) : XSnd xm scr Y pc (x_irem (pc + 1)) := by
  refine XSnd_P fun L st h pc1 L1 st1 h1 ee => ?_
  split at ee
  · split at ee
    · cases ee
    rename_i hne
    cases ee
    refine ⟨rfl, fun p l e R s m args below meth c β D cA d m0 z0 Q X hm0 hz0 hmR hzR k H locs ls hP hF hl => ?_⟩
    obtain ⟨hx, hb, hml, hown, hts, hK, -⟩ := X
    exact lv_irem hx hb hd hne (k H locs ls hP hF hl)
  · cases ee
def x_goto (t : Nat) : XI := xiN fun L st h => some (t, L, st, h)
theorem s_goto {xm : Nat → XY} {scr : Nat × (Nat → Int32)} {Y : XY} {pc : Nat} {off : Int} {t : Nat} (hd : decode Y.2.1 pc = .ok (.goto off, 3)) (ht : (pc : Int) + off = (t : Int)) : XSnd xm scr Y pc (x_goto t) := by
  refine XSnd_P fun L st h pc1 L1 st1 h1 ee => ?_
  cases ee
  refine ⟨rfl, fun p l e R s m args below meth c β D cA d m0 z0 Q X hm0 hz0 hmR hzR k H locs ls hP hF hl => ?_⟩
  obtain ⟨hx, hb, hml, hown, hts, hK, -⟩ := X
  exact lv_goto hx hb hd ht (k H locs ls hP hF hl)
def x_ifeq (t n : Nat) : XI := xiN fun L st h => match st with
  | .inl x :: st => if x = 0 then some (t, L, st, h) else some (n, L, st, h)
  | _ => none
def x_ifne (t n : Nat) : XI := xiN fun L st h => match st with
  | .inl x :: st => if ¬ x = 0 then some (t, L, st, h) else some (n, L, st, h)
  | _ => none
def x_iflt (t n : Nat) : XI := xiN fun L st h => match st with
  | .inl x :: st => if x < 0 then some (t, L, st, h) else some (n, L, st, h)
  | _ => none
def x_ifge (t n : Nat) : XI := xiN fun L st h => match st with
  | .inl x :: st => if 0 ≤ x then some (t, L, st, h) else some (n, L, st, h)
  | _ => none
def x_ifgt (t n : Nat) : XI := xiN fun L st h => match st with
  | .inl x :: st => if 0 < x then some (t, L, st, h) else some (n, L, st, h)
  | _ => none
def x_ifle (t n : Nat) : XI := xiN fun L st h => match st with
  | .inl x :: st => if x ≤ 0 then some (t, L, st, h) else some (n, L, st, h)
  | _ => none
def x_iceq (t n : Nat) : XI := xiN fun L st h => match st with
  | .inl y :: .inl x :: st => if x = y then some (t, L, st, h) else some (n, L, st, h)
  | _ => none
def x_icne (t n : Nat) : XI := xiN fun L st h => match st with
  | .inl y :: .inl x :: st => if ¬ x = y then some (t, L, st, h) else some (n, L, st, h)
  | _ => none
def x_iclt (t n : Nat) : XI := xiN fun L st h => match st with
  | .inl y :: .inl x :: st => if x < y then some (t, L, st, h) else some (n, L, st, h)
  | _ => none
def x_icge (t n : Nat) : XI := xiN fun L st h => match st with
  | .inl y :: .inl x :: st => if y ≤ x then some (t, L, st, h) else some (n, L, st, h)
  | _ => none
def x_icgt (t n : Nat) : XI := xiN fun L st h => match st with
  | .inl y :: .inl x :: st => if y < x then some (t, L, st, h) else some (n, L, st, h)
  | _ => none
def x_icle (t n : Nat) : XI := xiN fun L st h => match st with
  | .inl y :: .inl x :: st => if x ≤ y then some (t, L, st, h) else some (n, L, st, h)
  | _ => none
theorem s_ifeq {xm : Nat → XY} {scr : Nat × (Nat → Int32)} {Y : XY} {pc : Nat} {off : Int} {t : Nat} (hd : decode Y.2.1 pc = .ok (.ifCond .eq off, 3)) (ht : (pc : Int) + off = (t : Int)) : XSnd xm scr Y pc (x_ifeq t (pc + 3)) := by
  refine XSnd_P fun L st h pc1 L1 st1 h1 ee => ?_
  split at ee
  · split at ee
    · rename_i hc
      cases ee
      refine ⟨rfl, fun p l e R s m args below meth c β D cA d m0 z0 Q X hm0 hz0 hmR hzR k H locs ls hP hF hl => ?_⟩
      obtain ⟨hx, hb, hml, hown, hts, hK, -⟩ := X
      exact lv_if_eq hx hb hd ht (fun _ => (k H locs ls hP hF hl)) (fun q => absurd hc q)
    · rename_i hc
      cases ee
      refine ⟨rfl, fun p l e R s m args below meth c β D cA d m0 z0 Q X hm0 hz0 hmR hzR k H locs ls hP hF hl => ?_⟩
      obtain ⟨hx, hb, hml, hown, hts, hK, -⟩ := X
      exact lv_if_eq hx hb hd ht (fun q => absurd q hc) (fun _ => (k H locs ls hP hF hl))
  · cases ee
theorem s_iceq {xm : Nat → XY} {scr : Nat × (Nat → Int32)} {Y : XY} {pc : Nat} {off : Int} {t : Nat} (hd : decode Y.2.1 pc = .ok (.if_icmp .eq off, 3)) (ht : (pc : Int) + off = (t : Int)) : XSnd xm scr Y pc (x_iceq t (pc + 3)) := by
  refine XSnd_P fun L st h pc1 L1 st1 h1 ee => ?_
  split at ee
  · split at ee
    · rename_i hc
      cases ee
      refine ⟨rfl, fun p l e R s m args below meth c β D cA d m0 z0 Q X hm0 hz0 hmR hzR k H locs ls hP hF hl => ?_⟩
      obtain ⟨hx, hb, hml, hown, hts, hK, -⟩ := X
      exact lv_icmp_eq hx hb hd ht (fun _ => (k H locs ls hP hF hl)) (fun q => absurd hc q)
    · rename_i hc
      cases ee
      refine ⟨rfl, fun p l e R s m args below meth c β D cA d m0 z0 Q X hm0 hz0 hmR hzR k H locs ls hP hF hl => ?_⟩
      obtain ⟨hx, hb, hml, hown, hts, hK, -⟩ := X
      exact lv_icmp_eq hx hb hd ht (fun q => absurd q hc) (fun _ => (k H locs ls hP hF hl))
  · cases ee
theorem s_ifne {xm : Nat → XY} {scr : Nat × (Nat → Int32)} {Y : XY} {pc : Nat} {off : Int} {t : Nat} (hd : decode Y.2.1 pc = .ok (.ifCond .ne off, 3)) (ht : (pc : Int) + off = (t : Int)) : XSnd xm scr Y pc (x_ifne t (pc + 3)) := by
  refine XSnd_P fun L st h pc1 L1 st1 h1 ee => ?_
  split at ee
  · split at ee
    · rename_i hc
      cases ee
      refine ⟨rfl, fun p l e R s m args below meth c β D cA d m0 z0 Q X hm0 hz0 hmR hzR k H locs ls hP hF hl => ?_⟩
      obtain ⟨hx, hb, hml, hown, hts, hK, -⟩ := X
      exact lv_if_ne hx hb hd ht (fun _ => (k H locs ls hP hF hl)) (fun q => absurd q hc)
    · rename_i hc
      cases ee
      refine ⟨rfl, fun p l e R s m args below meth c β D cA d m0 z0 Q X hm0 hz0 hmR hzR k H locs ls hP hF hl => ?_⟩
      obtain ⟨hx, hb, hml, hown, hts, hK, -⟩ := X
      exact lv_if_ne hx hb hd ht (fun q => absurd q hc) (fun _ => (k H locs ls hP hF hl))
  · cases ee
theorem s_icne {xm : Nat → XY} {scr : Nat × (Nat → Int32)} {Y : XY} {pc : Nat} {off : Int} {t : Nat} (hd : decode Y.2.1 pc = .ok (.if_icmp .ne off, 3)) (ht : (pc : Int) + off = (t : Int)) : XSnd xm scr Y pc (x_icne t (pc + 3)) := by
  refine XSnd_P fun L st h pc1 L1 st1 h1 ee => ?_
  split at ee
  · split at ee
    · rename_i hc
      cases ee
      refine ⟨rfl, fun p l e R s m args below meth c β D cA d m0 z0 Q X hm0 hz0 hmR hzR k H locs ls hP hF hl => ?_⟩
      obtain ⟨hx, hb, hml, hown, hts, hK, -⟩ := X
      exact lv_icmp_ne hx hb hd ht (fun _ => (k H locs ls hP hF hl)) (fun q => absurd q hc)
    · rename_i hc
      cases ee
      refine ⟨rfl, fun p l e R s m args below meth c β D cA d m0 z0 Q X hm0 hz0 hmR hzR k H locs ls hP hF hl => ?_⟩
      obtain ⟨hx, hb, hml, hown, hts, hK, -⟩ := X
      exact lv_icmp_ne hx hb hd ht (fun q => absurd q hc) (fun _ => (k H locs ls hP hF hl))
  · cases ee
theorem s_iflt {xm : Nat → XY} {scr : Nat × (Nat → Int32)} {Y : XY} {pc : Nat} {off : Int} {t : Nat} (hd : decode Y.2.1 pc = .ok (.ifCond .lt off, 3)) (ht : (pc : Int) + off = (t : Int)) : XSnd xm scr Y pc (x_iflt t (pc + 3)) := by
  refine XSnd_P fun L st h pc1 L1 st1 h1 ee => ?_
  split at ee
  · split at ee
    · rename_i hc
      cases ee
      refine ⟨rfl, fun p l e R s m args below meth c β D cA d m0 z0 Q X hm0 hz0 hmR hzR k H locs ls hP hF hl => ?_⟩
      obtain ⟨hx, hb, hml, hown, hts, hK, -⟩ := X
      exact lv_if_lt hx hb hd ht (fun _ => (k H locs ls hP hF hl)) (fun q => absurd hc q)
    · rename_i hc
      cases ee
      refine ⟨rfl, fun p l e R s m args below meth c β D cA d m0 z0 Q X hm0 hz0 hmR hzR k H locs ls hP hF hl => ?_⟩
      obtain ⟨hx, hb, hml, hown, hts, hK, -⟩ := X
      exact lv_if_lt hx hb hd ht (fun q => absurd q hc) (fun _ => (k H locs ls hP hF hl))
  · cases ee
theorem s_iclt {xm : Nat → XY} {scr : Nat × (Nat → Int32)} {Y : XY} {pc : Nat} {off : Int} {t : Nat} (hd : decode Y.2.1 pc = .ok (.if_icmp .lt off, 3)) (ht : (pc : Int) + off = (t : Int)) : XSnd xm scr Y pc (x_iclt t (pc + 3)) := by
  refine XSnd_P fun L st h pc1 L1 st1 h1 ee => ?_
  split at ee
  · split at ee
    · rename_i hc
      cases ee
      refine ⟨rfl, fun p l e R s m args below meth c β D cA d m0 z0 Q X hm0 hz0 hmR hzR k H locs ls hP hF hl => ?_⟩
      obtain ⟨hx, hb, hml, hown, hts, hK, -⟩ := X
      exact lv_icmp_lt hx hb hd ht (fun _ => (k H locs ls hP hF hl)) (fun q => absurd hc q)
    · rename_i hc
      cases ee
      refine ⟨rfl, fun p l e R s m args below meth c β D cA d m0 z0 Q X hm0 hz0 hmR hzR k H locs ls hP hF hl => ?_⟩
      obtain ⟨hx, hb, hml, hown, hts, hK, -⟩ := X
      exact lv_icmp_lt hx hb hd ht (fun q => absurd q hc) (fun _ => (k H locs ls hP hF hl))
  · cases ee
theorem s_ifge {xm : Nat → XY} {scr : Nat × (Nat → Int32)} {Y : XY} {pc : Nat} {off : Int} {t : Nat} (hd : decode Y.2.1 pc = .ok (.ifCond .ge off, 3)) (ht : (pc : Int) + off = (t : Int)) : XSnd xm scr Y pc (x_ifge t (pc + 3)) := by
  refine XSnd_P fun L st h pc1 L1 st1 h1 ee => ?_
  split at ee
  · split at ee
    · rename_i hc
      cases ee
      refine ⟨rfl, fun p l e R s m args below meth c β D cA d m0 z0 Q X hm0 hz0 hmR hzR k H locs ls hP hF hl => ?_⟩
      obtain ⟨hx, hb, hml, hown, hts, hK, -⟩ := X
      exact lv_if_ge hx hb hd ht (fun _ => (k H locs ls hP hF hl)) (fun q => absurd hc q)
    · rename_i hc
      cases ee
      refine ⟨rfl, fun p l e R s m args below meth c β D cA d m0 z0 Q X hm0 hz0 hmR hzR k H locs ls hP hF hl => ?_⟩
      obtain ⟨hx, hb, hml, hown, hts, hK, -⟩ := X
      exact lv_if_ge hx hb hd ht (fun q => absurd q hc) (fun _ => (k H locs ls hP hF hl))
  · cases ee
theorem s_icge {xm : Nat → XY} {scr : Nat × (Nat → Int32)} {Y : XY} {pc : Nat} {off : Int} {t : Nat} (hd : decode Y.2.1 pc = .ok (.if_icmp .ge off, 3)) (ht : (pc : Int) + off = (t : Int)) : XSnd xm scr Y pc (x_icge t (pc + 3)) := by
  refine XSnd_P fun L st h pc1 L1 st1 h1 ee => ?_
  split at ee
  · split at ee
    · rename_i hc
      cases ee
      refine ⟨rfl, fun p l e R s m args below meth c β D cA d m0 z0 Q X hm0 hz0 hmR hzR k H locs ls hP hF hl => ?_⟩
      obtain ⟨hx, hb, hml, hown, hts, hK, -⟩ := X
      exact lv_icmp_ge hx hb hd ht (fun _ => (k H locs ls hP hF hl)) (fun q => absurd hc q)
    · rename_i hc
      cases ee
      refine ⟨rfl, fun p l e R s m args below meth c β D cA d m0 z0 Q X hm0 hz0 hmR hzR k H locs ls hP hF hl => ?_⟩
      obtain ⟨hx, hb, hml, hown, hts, hK, -⟩ := X
      exact lv_icmp_ge hx hb hd ht (fun q => absurd q hc) (fun _ => (k H locs ls hP hF hl))
  · cases ee
theorem s_ifgt {xm : Nat → XY} {scr : Nat × (Nat → Int32)} {Y : XY} {pc : Nat} {off : Int} {t : Nat} (hd : decode Y.2.1 pc = .ok (.ifCond .gt off, 3)) (ht : (pc : Int) + off = (t : Int)) : XSnd xm scr Y pc (x_ifgt t (pc + 3)) := by
  refine XSnd_P fun L st h pc1 L1 st1 h1 ee => ?_
  split at ee
  · split at ee
    · rename_i hc
      cases ee
      refine ⟨rfl, fun p l e R s m args below meth c β D cA d m0 z0 Q X hm0 hz0 hmR hzR k H locs ls hP hF hl => ?_⟩
      obtain ⟨hx, hb, hml, hown, hts, hK, -⟩ := X
      exact lv_if_gt hx hb hd ht (fun _ => (k H locs ls hP hF hl)) (fun q => absurd hc q)
    · rename_i hc
      cases ee
      refine ⟨rfl, fun p l e R s m args below meth c β D cA d m0 z0 Q X hm0 hz0 hmR hzR k H locs ls hP hF hl => ?_⟩
      obtain ⟨hx, hb, hml, hown, hts, hK, -⟩ := X
      exact lv_if_gt hx hb hd ht (fun q => absurd q hc) (fun _ => (k H locs ls hP hF hl))
  · cases ee
theorem s_icgt {xm : Nat → XY} {scr : Nat × (Nat → Int32)} {Y : XY} {pc : Nat} {off : Int} {t : Nat} (hd : decode Y.2.1 pc = .ok (.if_icmp .gt off, 3)) (ht : (pc : Int) + off = (t : Int)) : XSnd xm scr Y pc (x_icgt t (pc + 3)) := by
  refine XSnd_P fun L st h pc1 L1 st1 h1 ee => ?_
  split at ee
  · split at ee
    · rename_i hc
      cases ee
      refine ⟨rfl, fun p l e R s m args below meth c β D cA d m0 z0 Q X hm0 hz0 hmR hzR k H locs ls hP hF hl => ?_⟩
      obtain ⟨hx, hb, hml, hown, hts, hK, -⟩ := X
      exact lv_icmp_gt hx hb hd ht (fun _ => (k H locs ls hP hF hl)) (fun q => absurd hc q)
    · rename_i hc
      cases ee
      refine ⟨rfl, fun p l e R s m args below meth c β D cA d m0 z0 Q X hm0 hz0 hmR hzR k H locs ls hP hF hl => ?_⟩
      obtain ⟨hx, hb, hml, hown, hts, hK, -⟩ := X
      exact lv_icmp_gt hx hb hd ht (fun q => absurd q hc) (fun _ => (k H locs ls hP hF hl))
  · cases ee
theorem s_ifle {xm : Nat → XY} {scr : Nat × (Nat → Int32)} {Y : XY} {pc : Nat} {off : Int} {t : Nat} (hd : decode Y.2.1 pc = .ok (.ifCond .le off, 3)) (ht : (pc : Int) + off = (t : Int)) : XSnd xm scr Y pc (x_ifle t (pc + 3)) := by
  refine XSnd_P fun L st h pc1 L1 st1 h1 ee => ?_
  split at ee
  · split at ee
    · rename_i hc
      cases ee
      refine ⟨rfl, fun p l e R s m args below meth c β D cA d m0 z0 Q X hm0 hz0 hmR hzR k H locs ls hP hF hl => ?_⟩
      obtain ⟨hx, hb, hml, hown, hts, hK, -⟩ := X
      exact lv_if_le hx hb hd ht (fun _ => (k H locs ls hP hF hl)) (fun q => absurd hc q)
    · rename_i hc
      cases ee
      refine ⟨rfl, fun p l e R s m args below meth c β D cA d m0 z0 Q X hm0 hz0 hmR hzR k H locs ls hP hF hl => ?_⟩
      obtain ⟨hx, hb, hml, hown, hts, hK, -⟩ := X
      exact lv_if_le hx hb hd ht (fun q => absurd q hc) (fun _ => (k H locs ls hP hF hl))
  · cases ee
theorem s_icle {xm : Nat → XY} {scr : Nat × (Nat → Int32)} {Y : XY} {pc : Nat} {off : Int} {t : Nat} (hd : decode Y.2.1 pc = .ok (.if_icmp .le off, 3)) (ht : (pc : Int) + off = (t : Int)) : XSnd xm scr Y pc (x_icle t (pc + 3)) := by
  refine XSnd_P fun L st h pc1 L1 st1 h1 ee => ?_
  split at ee
  · split at ee
    · rename_i hc
      cases ee
      refine ⟨rfl, fun p l e R s m args below meth c β D cA d m0 z0 Q X hm0 hz0 hmR hzR k H locs ls hP hF hl => ?_⟩
      obtain ⟨hx, hb, hml, hown, hts, hK, -⟩ := X
      exact lv_icmp_le hx hb hd ht (fun _ => (k H locs ls hP hF hl)) (fun q => absurd hc q)
    · rename_i hc
      cases ee
      refine ⟨rfl, fun p l e R s m args below meth c β D cA d m0 z0 Q X hm0 hz0 hmR hzR k H locs ls hP hF hl => ?_⟩
      obtain ⟨hx, hb, hml, hown, hts, hK, -⟩ := X
      exact lv_icmp_le hx hb hd ht (fun q => absurd q hc) (fun _ => (k H locs ls hP hF hl))
  · cases ee
def x_tsw (lo hi : Int) (ts : List Nat) (t : Nat) : XI := xiN fun L st h => match st with
  | .inl x :: st => if x.toInt < lo ∨ hi < x.toInt then some (t, L, st, h) else match ts[(x.toInt - lo).toNat]? with
    | some u => some (u, L, st, h)
    | none => none
  | _ => none
theorem s_tsw {xm : Nat → XY} {scr : Nat × (Nat → Int32)} {Y : XY} {pc : Nat} {dflt lo hi : Int} {offs : Array Int} {len t : Nat} {ts : List Nat} (hd : decode Y.2.1 pc = .ok (.tableswitch dflt lo hi offs, len)) (ht : (pc : Int) + dflt = (t : Int)) (hts0 : offs.toList.map (fun o => (pc : Int) + o) = ts.map (fun (u : Nat) => (u : Int))) : XSnd xm scr Y pc (x_tsw lo hi ts t) := by
  refine XSnd_P fun L st h pc1 L1 st1 h1 ee => ?_
  split at ee
  · split at ee
    · rename_i hc
      cases ee
      refine ⟨rfl, fun p l e R s m args below meth c β D cA d m0 z0 Q X hm0 hz0 hmR hzR k H locs ls hP hF hl => ?_⟩
      obtain ⟨hx, hb, hml, hown, hts, hK, -⟩ := X
      exact lv_tableOut hx hb hd hc ht (k H locs ls hP hF hl)
    · rename_i hc
      split at ee
      · rename_i u hu
        cases ee
        refine ⟨rfl, fun p l e R s m args below meth c β D cA d m0 z0 Q X hm0 hz0 hmR hzR k H locs ls hP hF hl => ?_⟩
        obtain ⟨hx, hb, hml, hown, hts, hK, -⟩ := X
        have h2 := congrArg (Option.map (fun (u : Nat) => (u : Int))) hu
        rw [← List.getElem?_map, ← hts0, List.getElem?_map] at h2
        obtain ⟨o, ho, hou⟩ := Option.map_eq_some_iff.mp h2
        exact lv_tableIn hx hb hd (fun q => hc (Or.inl q)) (fun q => hc (Or.inr q)) (by rw [← Array.getElem?_toList]; exact ho) hou (k H locs ls hP hF hl)
      · cases ee
  · cases ee
def x_lsw (ps : List (Int × Nat)) (t : Nat) : XI := xiN fun L st h => match st with
  | .inl x :: st => some ((match ps.find? (fun q => decide (x.toInt = q.1)) with | some q => q.2 | none => t), L, st, h)
  | _ => none
theorem xlsw_off {pc : Nat} {d : Int} {t : Nat} (ht : (pc : Int) + d = (t : Int)) {x : Int} : ∀ {r : List (Int × Int)} {ps : List (Int × Nat)}, r.map (fun q => (q.1, (pc : Int) + q.2)) = ps.map (fun q => (q.1, (q.2 : Int))) → (pc : Int) + Op.lookupswitch.offset r d x = (((match ps.find? (fun q => decide (x = q.1)) with | some q => q.2 | none => t) : Nat) : Int)
  | [], [], _ => by simpa [Op.lookupswitch.offset] using ht
  | [], _ :: _, h => by simp at h
  | _ :: _, [], h => by simp at h
  | (a, o) :: r, (b, u) :: ps, h => by
    simp only [List.map_cons, List.cons.injEq, Prod.mk.injEq] at h
    obtain ⟨⟨rfl, h2⟩, h3⟩ := h
    rw [Op.lookupswitch.offset_cons, List.find?_cons]
    by_cases hx : x = a
    · simp [hx, h2]
    · simp only [hx, decide_false, if_false]
      rw [if_neg (fun e => hx e.symm)]
      exact xlsw_off ht h3
theorem s_lsw {xm : Nat → XY} {scr : Nat × (Nat → Int32)} {Y : XY} {pc : Nat} {dflt : Int} {r : Array (Int × Int)} {len t : Nat} {ps : List (Int × Nat)} (hd : decode Y.2.1 pc = .ok (.lookupswitch dflt r, len)) (hp : (r.toList.zip (r.toList.drop 1)).all (fun (a, next) => a.1 < next.1) = true) (ht : (pc : Int) + dflt = (t : Int)) (hps : r.toList.map (fun q => (q.1, (pc : Int) + q.2)) = ps.map (fun q => (q.1, (q.2 : Int)))) : XSnd xm scr Y pc (x_lsw ps t) := by
  refine XSnd_P fun L st h pc1 L1 st1 h1 ee => ?_
  split at ee
  · cases ee
    refine ⟨rfl, fun p l e R s m args below meth c β D cA d m0 z0 Q X hm0 hz0 hmR hzR k H locs ls hP hF hl => ?_⟩
    obtain ⟨hx, hb, hml, hown, hts, hK, -⟩ := X
    exact lv_lookup hx hb hd hp rfl (xlsw_off ht hps) (k H locs ls hP hF hl)
  · cases ee
def x_ret : XI := fun _ st _ => match st with
  | [] => .inr (.inr (some none))
  | _ => xbad
def x_iret : XI := fun _ st _ => match st with
  | [.inl x] => .inr (.inr (some (some (.inl x))))
  | _ => xbad
def x_zret : XI := fun _ st _ => match st with
  | [.inl x] => if x = 0 ∨ x = 1 then .inr (.inr (some (some (.inl x)))) else xbad
  | _ => xbad
theorem s_ret {xm : Nat → XY} {scr : Nat × (Nat → Int32)} {Y : XY} {pc : Nat} (hd : decode Y.2.1 pc = .ok (.return_, 1)) (hr : Y.2.2.2 = none) : XSnd xm scr Y pc x_ret := by
  intro L st h
  unfold x_ret
  split
  · exact ⟨fun _ _ _ _ e => (by cases e), fun _ _ _ _ e => (by cases e), fun r e => by cases e; exact Or.inl ⟨rfl, rfl, hd, hr⟩⟩
  · exact ⟨fun _ _ _ _ e => (by cases e), fun _ _ _ _ e => (by cases e), fun _ e => (by cases e)⟩
theorem s_iret {xm : Nat → XY} {scr : Nat × (Nat → Int32)} {Y : XY} {pc : Nat} (hd : decode Y.2.1 pc = .ok (.ireturn, 1)) (hr : Y.2.2.2 = some .int) : XSnd xm scr Y pc x_iret := by
  intro L st h
  unfold x_iret
  split
  · exact ⟨fun _ _ _ _ e => (by cases e), fun _ _ _ _ e => (by cases e), fun r e => by cases e; exact Or.inr ⟨_, .int, rfl, rfl, hd, hr, rfl⟩⟩
  · exact ⟨fun _ _ _ _ e => (by cases e), fun _ _ _ _ e => (by cases e), fun _ e => (by cases e)⟩
theorem xnarZ {x : Int32} (h : x = 0 ∨ x = 1) : narrow .boolean (.int x) = .int x := by
  rcases h with rfl | rfl <;> rfl
theorem s_zret {xm : Nat → XY} {scr : Nat × (Nat → Int32)} {Y : XY} {pc : Nat} (hd : decode Y.2.1 pc = .ok (.ireturn, 1)) (hr : Y.2.2.2 = some .boolean) : XSnd xm scr Y pc x_zret := by
  intro L st h
  unfold x_zret
  split
  · split
    · rename_i hz
      exact ⟨fun _ _ _ _ e => (by cases e), fun _ _ _ _ e => (by cases e), fun r e => by cases e; exact Or.inr ⟨_, .boolean, rfl, rfl, hd, hr, xnarZ hz⟩⟩
    · exact ⟨fun _ _ _ _ e => (by cases e), fun _ _ _ _ e => (by cases e), fun _ e => (by cases e)⟩
  · exact ⟨fun _ _ _ _ e => (by cases e), fun _ _ _ _ e => (by cases e), fun _ e => (by cases e)⟩
end
section
/-! 05: the instructions on cells -/
def x_getI (ci f n : Nat) : XI := xiN fun L st h => match st with
  | .inr (some (some i)) :: st => if i < xM h ∧ xK h i = .inl ci then some (n, L, .inl (xS h i f) :: st, h) else none
  | _ => none
theorem s_getI {xm : Nat → XY} {scr : Nat × (Nat → Int32)} {Y : XY} {pc : Nat} {ci f : Nat} {C : String} {T : u_T} (hC : XCl ci C T) (hk : f < xnf ci) {idx : Nat} (hw : Cond.fieldLink Y.1.cls idx (T f).1 (T f).2.1 (T f).2.2.1 ∈ xtbl) (hr : xisR (xty ci f) = false) (hd : decode Y.2.1 pc = .ok (.getfield idx, 3)) : XSnd xm scr Y pc (x_getI ci f (pc + 3)) := by
  refine XSnd_P fun L st h pc1 L1 st1 h1 ee => ?_
  split at ee
  · split at ee
    · rename_i i st0 hc
      cases ee
      refine ⟨rfl, fun p l e R s m args below meth c β D cA d m0 z0 Q X hm0 hz0 hmR hzR k H locs ls hP hF hl => ?_⟩
      obtain ⟨hx, hb, hml, hown, hts, hK, hnm, hbs, -⟩ := X
      refine va_get (ci := ci) (a := β.1 + i) hx hb hts hC.2.1 hown hK.1 (XP_one hP hc.1 (by rw [hc.2]; rfl) (xe_obj hc.2)) 0 rfl hC.1 f hk (hts _ hw) (fun _ g => g) ?_ hd (k H locs ls hP hF hl)
      exact (xfs_at β h i ci hk).trans (by rw [hr]; rfl)
    · cases ee
  · cases ee
def x_getR (ci f n : Nat) : XI := xiN fun L st h => match st with
  | .inr (some (some i)) :: st => if i < xM h ∧ xK h i = .inl ci then match xR h i f with
    | some j => some (n, L, .inr (some (some j)) :: st, h)
    | none => none
    else none
  | _ => none
theorem s_getR {xm : Nat → XY} {scr : Nat × (Nat → Int32)} {Y : XY} {pc : Nat} {ci f : Nat} {C : String} {T : u_T} (hC : XCl ci C T) (hk : f < xnf ci) {idx : Nat} (hw : Cond.fieldLink Y.1.cls idx (T f).1 (T f).2.1 (T f).2.2.1 ∈ xtbl) (hr : xisR (xty ci f) = true) (hd : decode Y.2.1 pc = .ok (.getfield idx, 3)) : XSnd xm scr Y pc (x_getR ci f (pc + 3)) := by
  refine XSnd_P fun L st h pc1 L1 st1 h1 ee => ?_
  split at ee
  · split at ee
    · split at ee
      · rename_i i st0 hc _ j hj
        cases ee
        refine ⟨rfl, fun p l e R s m args below meth c β D cA d m0 z0 Q X hm0 hz0 hmR hzR k H locs ls hP hF hl => ?_⟩
        obtain ⟨hx, hb, hml, hown, hts, hK, hnm, hbs, -⟩ := X
        refine va_get (v := .ref (β.1 + j)) (ci := ci) (a := β.1 + i) hx hb hts hC.2.1 hown hK.1 (XP_one hP hc.1 (by rw [hc.2]; rfl) (xe_obj hc.2)) 0 rfl hC.1 f hk (hts _ hw) (fun _ g => g) ?_ hd (k H locs ls hP hF hl)
        exact (xfs_at β h i ci hk).trans (by rw [hr, hj]; rfl)
      · cases ee
    · cases ee
  · cases ee
/-- a field of a cell is written -/
theorem x_put_cell {β : XA} {D : va_G} {cA : Nat → ClassId} {h h' : XH} {H H1 : Heap} {s : State} {args : Array Value} {tys : List (ClassId × FieldType)} {own : String} {ci f i : Nat} {C : String} {T : u_T} {v : Value} {cell : Cell} (hC : XCl ci C T) (hts : ∀ w ∈ xtbl, w.before args s = true) (hK : va_K D xcl tys s) (hk : f < xnf ci) (hP : XP β D cA h H)
    (q2 : cell.cls = D.1 ci) (q3 : cell.vm = .none) (q4 : ∀ j, j < xnf ci → cell.slots[D.2 ci j]? = some (vp_V (xfs β h i ci) j)) (e1 : H1[β.1 + i]? = some (cell.setSlot (D.2 ci f) v)) (e2 : H1.size = H.size) (e3 : ∀ q : Nat, q ≠ β.1 + i → H1[q]? = H[q]?)
    (hm : xM h' = xM h) (hj : ∀ j, j ≠ i → xK h' j = xK h j ∧ xR h' j = xR h j ∧ xS h' j = xS h j) (hki : xK h' i = .inl ci) (hV : ∀ j, j < xnf ci → updV (vp_V (xfs β h i ci)) f v j = vp_V (xfs β h' i ci) j) : XP β D cA h' H1 := by
  have hap := va_apart (own := own) hts hC.2.1 (xty ci) hC.2.2.1 hC.2.2.2 hK hC.1
  refine XP_upd hP hm e2 e3 hj ?_
  rw [xe_obj hki]
  exact ⟨_, hC.1, t_OB.to (V := updV (vp_V (xfs β h i ci)) f v) ⟨_, e1, q2, q3, t_set q4 hap hk v⟩ hV⟩
theorem x_put {scr : Nat × (Nat → Int32)} {p : Program} {l : Launch} {e : Env} {R : Room} {s : State} {m : MethodId} {args : Array Value} {below : List Frame} {meth : Method} {c : Code} {Y : XY} {β : XA} {D : va_G} {cA : Nat → ClassId} {d cells slots pc idx i ci f : Nat} {Q : State → Prop} {h h' : XH} {H : Heap} {locs : List Loc} {ls : Array Slot} {rest : List Value} {C : String} {T : u_T} {v : Value}
    (X : XC scr p R s m args meth c Y β D cA d) (hC : XCl ci C T) (hk : f < xnf ci) (hw : Cond.fieldLink Y.1.cls idx (T f).1 (T f).2.1 (T f).2.2.1 ∈ xtbl) (hfin : (T f).2.2.2 = false ∨ ((T f).2.2.2 = true ∧ Y.1.name = "<init>" ∧ (T f).1 = Y.1.cls)) (hd : decode Y.2.1 pc = .ok (.putfield idx, 3))
    (hn : narrow (xty ci f) v = v) (hfit : fits (xty ci f) v = true) (hi : i < xM h) (hki : xK h i = .inl ci) (hP : XP β D cA h H) (hF : XF β s H locs)
    (hm : xM h' = xM h) (hj : ∀ j, j ≠ i → xK h' j = xK h j ∧ xR h' j = xR h j ∧ xS h' j = xS h j) (hki' : xK h' i = .inl ci) (hV : ∀ j, j < xnf ci → updV (vp_V (xfs β h i ci)) f v j = vp_V (xfs β h' i ci) j)
    (kk : ∀ H1 locs1, XP β D cA h' H1 → XF β s H1 locs1 → W p l e R s m args below meth c H1 locs1 cells slots Q (F0 m (pc + 3) ls rest)) : W p l e R s m args below meth c H locs cells slots Q (F0 m pc ls (v :: .ref (β.1 + i) :: rest)) := by
  obtain ⟨hx, hb, hml, hown, hts, hK, hnm, hbs, -⟩ := X
  have hat := hP.2 i hi (by rw [hki]; rfl)
  rw [xe_obj hki] at hat
  obtain ⟨r, h1, cell, q1, q2, q3, q4⟩ := hat
  have hr : r = (C, T, xnf ci) := Option.some.inj (h1.symm.trans hC.1)
  subst hr
  obtain ⟨hS, hfc, kC, hkC, hkind⟩ := hK.1.1 ci _ hC.1
  obtain ⟨cf, kf, fi, fd, hfi, hsl⟩ := hS f hk
  have hlay := hts _ (hC.2.1 _ (u_in_lay hk))
  have hst := (u_facts hfc hkC (u_lays hts hC.2.1 hk) hfi).1
  have hty := hC.2.2.1 f hk
  rcases hfin with hfin | ⟨hfin, hini, hdecl⟩
  · unfold u_lay at hlay
    rw [if_neg (by rw [hfin]; decide)] at hlay
    have h6 := u_store hfc hkC hkind hlay hfi hty hn hfit
    refine W.putK hx hb (f := fd) ⟨hown, hts _ hw, ⟨_, _, _, hfi⟩, hst⟩ (by rw [q2]; exact h6) q1 q3 (by rw [hsl]; exact k2_hasslot (q4 f hk)) rfl rfl hd fun H' e1 e2 e3 => ?_
    rw [hsl] at e1 ⊢
    exact kk H' _ (x_put_cell (own := Y.1.cls) hC hts hK.1 hk hP q2 q3 q4 e1 e2 e3 hm hj hki' hV) (XF_put hF e3)
  · unfold u_lay at hlay
    rw [if_pos hfin] at hlay
    have hcf : m.cls = cf := by
      obtain ⟨_, _, c', _, _, _, -, -, hf', -, -, -, hown2, -⟩ := Cond.laysFinal_spec hlay
      have e1 : c' = cf := by have := hfi.symm.trans hf'; simp at this; exact this.1.symm
      rw [hdecl] at hown2
      rw [← e1]; exact Option.some.inj (hown.symm.trans hown2)
    have h6 := u_fits hfc hkC hkind (Or.inr hlay) hfi hty hn hfit
    refine W.putFinK hx hb hown (hts _ hw) hfi hst hcf (hnm.trans hini) (by rw [q2]; exact h6) q1 q3 (by rw [hsl]; exact k2_hasslot (q4 f hk)) rfl rfl hd fun H' e1 e2 e3 => ?_
    rw [hsl] at e1 ⊢
    exact kk H' _ (x_put_cell (own := Y.1.cls) hC hts hK.1 hk hP q2 q3 q4 e1 e2 e3 hm hj hki' hV) (XF_put hF e3)
theorem xsetS_V {β : XA} {h : XH} {i ci f : Nat} {v : Int32} (hk : f < xnf ci) (hr : xisR (xty ci f) = false) : ∀ j, j < xnf ci → updV (vp_V (xfs β h i ci)) f (.int v) j = vp_V (xfs β (xsetS h i (upd (xS h i) f v)) i ci) j := by
  intro j hj
  rw [xfs_V _ _ _ _ hj]
  have e1 : xS (xsetS h i (upd (xS h i) f v)) i j = upd (xS h i) f v j := congrFun (if_pos rfl) j
  have e2 : xR (xsetS h i (upd (xS h i) f v)) i j = xR h i j := rfl
  rw [e1, e2]
  unfold updV upd
  by_cases g : j = f
  · subst g
    rw [if_pos rfl, if_pos rfl, hr]
    rfl
  · rw [if_neg g, if_neg g, xfs_V _ _ _ _ hj]
theorem xsetR_V {β : XA} {h : XH} {i ci f j0 : Nat} (hk : f < xnf ci) (hr : xisR (xty ci f) = true) : ∀ j, j < xnf ci → updV (vp_V (xfs β h i ci)) f (.ref (β.1 + j0)) j = vp_V (xfs β (xsetR h i (xup (xR h i) f (some j0))) i ci) j := by
  intro j hj
  rw [xfs_V _ _ _ _ hj]
  have e1 : xR (xsetR h i (xup (xR h i) f (some j0))) i j = xup (xR h i) f (some j0) j := congrFun (if_pos rfl) j
  have e2 : xS (xsetR h i (xup (xR h i) f (some j0))) i j = xS h i j := rfl
  rw [e1, e2]
  unfold updV xup
  by_cases g : j = f
  · subst g
    rw [if_pos rfl, if_pos rfl, hr]
    rfl
  · rw [if_neg g, if_neg g, xfs_V _ _ _ _ hj]
theorem xsetS_off {h : XH} {i : Nat} {g : Nat → Int32} : ∀ j, j ≠ i → xK (xsetS h i g) j = xK h j ∧ xR (xsetS h i g) j = xR h j ∧ xS (xsetS h i g) j = xS h j := fun _ hj => ⟨rfl, rfl, if_neg hj⟩
theorem xsetR_off {h : XH} {i : Nat} {g : Nat → Option Nat} : ∀ j, j ≠ i → xK (xsetR h i g) j = xK h j ∧ xR (xsetR h i g) j = xR h j ∧ xS (xsetR h i g) j = xS h j := fun _ hj => ⟨rfl, if_neg hj, rfl⟩
def x_putI (ci f n : Nat) : XI := xiN fun L st h => match st with
  | .inl v :: .inr (some (some i)) :: st => if i < xM h ∧ xK h i = .inl ci then some (n, L, st, xsetS h i (upd (xS h i) f v)) else none
  | _ => none
def x_putZ (ci f n : Nat) : XI := xiN fun L st h => match st with
  | .inl v :: .inr (some (some i)) :: st => if (i < xM h ∧ xK h i = .inl ci) ∧ (v = 0 ∨ v = 1) then some (n, L, st, xsetS h i (upd (xS h i) f v)) else none
  | _ => none
def x_putR (ci f n : Nat) : XI := xiN fun L st h => match st with
  | .inr (some (some j)) :: .inr (some (some i)) :: st => if i < xM h ∧ xK h i = .inl ci then some (n, L, st, xsetR h i (xup (xR h i) f (some j))) else none
  | _ => none
theorem s_putI {xm : Nat → XY} {scr : Nat × (Nat → Int32)} {Y : XY} {pc : Nat} {ci f : Nat} {C : String} {T : u_T} (hC : XCl ci C T) (hk : f < xnf ci) {idx : Nat} (hw : Cond.fieldLink Y.1.cls idx (T f).1 (T f).2.1 (T f).2.2.1 ∈ xtbl) (hty : xty ci f = .int) (hfin : (T f).2.2.2 = false ∨ ((T f).2.2.2 = true ∧ Y.1.name = "<init>" ∧ (T f).1 = Y.1.cls)) (hd : decode Y.2.1 pc = .ok (.putfield idx, 3)) : XSnd xm scr Y pc (x_putI ci f (pc + 3)) := by
  refine XSnd_N fun L st h pc1 L1 st1 h1 ee => ?_
  split at ee
  · split at ee
    · rename_i v i st0 hc
      cases ee
      refine ⟨Nat.le_refl _, Nat.le_refl _, fun p l e R s m args below meth c β D cA d m0 z0 Q X hm0 hz0 hmR hzR k H locs ls hP hF hl => ?_⟩
      exact x_put (h' := xsetS h i (upd (xS h i) f v)) X hC hk hw hfin hd (by rw [hty]; rfl) (by rw [hty]; rfl) hc.1 hc.2 hP hF rfl xsetS_off hc.2 (xsetS_V hk (by rw [hty]; rfl)) (fun H1 locs1 g1 g2 => k H1 locs1 ls g1 g2 hl)
    · cases ee
  · cases ee
theorem s_putZ {xm : Nat → XY} {scr : Nat × (Nat → Int32)} {Y : XY} {pc : Nat} {ci f : Nat} {C : String} {T : u_T} (hC : XCl ci C T) (hk : f < xnf ci) {idx : Nat} (hw : Cond.fieldLink Y.1.cls idx (T f).1 (T f).2.1 (T f).2.2.1 ∈ xtbl) (hty : xty ci f = .boolean) (hfin : (T f).2.2.2 = false ∨ ((T f).2.2.2 = true ∧ Y.1.name = "<init>" ∧ (T f).1 = Y.1.cls)) (hd : decode Y.2.1 pc = .ok (.putfield idx, 3)) : XSnd xm scr Y pc (x_putZ ci f (pc + 3)) := by
  refine XSnd_N fun L st h pc1 L1 st1 h1 ee => ?_
  split at ee
  · split at ee
    · rename_i v i st0 hc
      cases ee
      refine ⟨Nat.le_refl _, Nat.le_refl _, fun p l e R s m args below meth c β D cA d m0 z0 Q X hm0 hz0 hmR hzR k H locs ls hP hF hl => ?_⟩
      exact x_put (h' := xsetS h i (upd (xS h i) f v)) X hC hk hw hfin hd (by rw [hty]; exact xnarZ hc.2) (by rw [hty]; rcases hc.2 with rfl | rfl <;> rfl) hc.1.1 hc.1.2 hP hF rfl xsetS_off hc.1.2 (xsetS_V hk (by rw [hty]; rfl)) (fun H1 locs1 g1 g2 => k H1 locs1 ls g1 g2 hl)
    · cases ee
  · cases ee
theorem xnarR {t : FieldType} {a : Nat} (h : xisR t = true) : narrow t (.ref a) = .ref a ∧ fits t (.ref a) = true := by
  cases t <;> first | exact ⟨rfl, rfl⟩ | cases h
theorem s_putR {xm : Nat → XY} {scr : Nat × (Nat → Int32)} {Y : XY} {pc : Nat} {ci f : Nat} {C : String} {T : u_T} (hC : XCl ci C T) (hk : f < xnf ci) {idx : Nat} (hw : Cond.fieldLink Y.1.cls idx (T f).1 (T f).2.1 (T f).2.2.1 ∈ xtbl) (hr : xisR (xty ci f) = true) (hfin : (T f).2.2.2 = false ∨ ((T f).2.2.2 = true ∧ Y.1.name = "<init>" ∧ (T f).1 = Y.1.cls)) (hd : decode Y.2.1 pc = .ok (.putfield idx, 3)) : XSnd xm scr Y pc (x_putR ci f (pc + 3)) := by
  refine XSnd_N fun L st h pc1 L1 st1 h1 ee => ?_
  split at ee
  · split at ee
    · rename_i j i st0 hc
      cases ee
      refine ⟨Nat.le_refl _, Nat.le_refl _, fun p l e R s m args below meth c β D cA d m0 z0 Q X hm0 hz0 hmR hzR k H locs ls hP hF hl => ?_⟩
      exact x_put (h' := xsetR h i (xup (xR h i) f (some j))) X hC hk hw hfin hd (xnarR hr).1 (xnarR hr).2 hc.1 hc.2 hP hF rfl xsetR_off hc.2 (xsetR_V hk hr) (fun H1 locs1 g1 g2 => k H1 locs1 ls g1 g2 hl)
    · cases ee
  · cases ee
def x_new (ci n : Nat) : XI := xiN fun L st h => some (n, L, .inr (some (some (xM h))) :: st, xnew h (.inl ci) (xnf ci))
theorem s_new {xm : Nat → XY} {scr : Nat × (Nat → Int32)} {Y : XY} {pc : Nat} {ci : Nat} {C : String} {T : u_T} (hC : XCl ci C T) {idx : Nat} (hw : Cond.classLink Y.1.cls idx C ∈ xtbl) (hi1 : Cond.instantiable C (xnf ci) ∈ xtbl) (hi2 : Cond.initialized C ∈ xtbl) (hdf : ∀ j, j < xnf ci → defaultValue (xty ci j) = if xisR (xty ci j) = true then .null else .int 0) (hd : decode Y.2.1 pc = .ok (.new idx, 3)) : XSnd xm scr Y pc (x_new ci (pc + 3)) := by
  refine XSnd_N fun L st h pc1 L1 st1 h1 ee => ?_
  cases ee
  refine ⟨Nat.le_add_right _ _, Nat.le_add_right _ _, fun p l e R s m args below meth c β D cA d m0 z0 Q X hm0 hz0 hmR hzR k H locs ls hP hF hl => ?_⟩
  obtain ⟨hx, hb, hml, hown, hts, hK, hnm, hbs, -⟩ := X
  have hKn := hK.1.1 ci _ hC.1
  have hm1 : xM h - m0 + 1 = xM (xnew h (.inl ci) (xnf ci)) - m0 := by show _ = xM h + 1 - m0; omega
  have hz1 : xZ h - z0 + xnf ci = xZ (xnew h (.inl ci) (xnf ci)) - z0 := by show _ = xZ h + xnf ci - z0; omega
  refine W.newcK hx hb hown (hts _ hw) (hts _ hi1) (hts _ hi2) rfl hd (by rw [hm1]; exact hmR) (by rw [hz1]; exact hzR) hKn.2.1 hP.1 fun H1 kC hkC e1 z1 o1 => ?_
  rw [hm1, hz1]
  have hsz : β.1 + xM h = H.size := hP.1.symm
  refine k H1 locs ls (XP_push hP (by rw [z1, hsz]) (fun q hq => o1 q (by rw [hsz]; exact hq)) ?_) (XF_push hF (by omega) (fun q hq => o1 q (by rw [hsz]; exact hq))) hl
  have hk0 : xK (xnew h (.inl ci) (xnf ci)) (xM h) = .inl ci := if_pos rfl
  rw [xe_obj hk0]
  refine ⟨_, hC.1, (u_born (xty ci) hts hC.2.1 hKn hkC e1 hC.2.2.1).to fun j hj => ?_⟩
  rw [xfs_V _ _ _ _ hj]
  have e2 : xR (xnew h (.inl ci) (xnf ci)) (xM h) j = none := congrFun (if_pos rfl) j
  have e3 : xS (xnew h (.inl ci) (xnf ci)) (xM h) j = 0 := congrFun (if_pos rfl) j
  rw [e2, e3]
  exact hdf j hj
def x_newI (n : Nat) : XI := xiN fun L st h => match st with
  | .inl z :: st => if z < 0 ∨ 100000 < z.toNatClampNeg then none else some (n, L, .inr (some (some (xM h))) :: st, xnew h (.inr (0, z.toNatClampNeg)) z.toNatClampNeg)
  | _ => none
theorem s_newI {xm : Nat → XY} {scr : Nat × (Nat → Int32)} {Y : XY} {pc : Nat} (hw : Cond.arrayClass .int ∈ xtbl) (hd : decode Y.2.1 pc = .ok (.newarray .int, 2)) : XSnd xm scr Y pc (x_newI (pc + 2)) := by
  refine XSnd_N fun L st h pc1 L1 st1 h1 ee => ?_
  split at ee
  · split at ee
    · cases ee
    rename_i z st0 hc
    cases ee
    generalize hN : z.toNatClampNeg = N at hc
    refine ⟨Nat.le_add_right _ _, Nat.le_add_right _ _, fun p l e R s m args below meth c β D cA d m0 z0 Q X hm0 hz0 hmR hzR k H locs ls hP hF hl => ?_⟩
    obtain ⟨hx, hb, hml, hown, hts, hK, hnm, hbs, -⟩ := X
    have hm1 : xM h - m0 + 1 = xM (xnew h (.inr (0, N)) N) - m0 := by show _ = xM h + 1 - m0; omega
    have hz1 : xZ h - z0 + N = xZ (xnew h (.inr (0, N)) N) - z0 := by show _ = xZ h + N - z0; omega
    have hc1 : ¬ z < 0 := fun q => hc (Or.inl q)
    have hc2 : N ≤ 100000 := Nat.not_lt.mp fun q => hc (Or.inr q)
    refine va_newaK (atype := .int) hx hb (hts _ hw) rfl hd rfl hc1 hN (by show N * 4 ≤ 536870912; omega) (by rw [hm1]; exact hmR) (by rw [hz1]; exact hzR) hP.1 fun H1 cN e1 z1 o1 hAr hNm => ?_
    rw [hm1, hz1]
    have hsz : β.1 + xM h = H.size := hP.1.symm
    refine k H1 locs ls (XP_push hP (by rw [z1, hsz]) (fun q hq => o1 q (by rw [hsz]; exact hq)) ?_) (XF_push hF (by omega) (fun q hq => o1 q (by rw [hsz]; exact hq))) hl
    have hk0 : xK (xnew h (.inr (0, N)) N) (xM h) = .inr (0, N) := if_pos rfl
    rw [xe_int hk0]
    have e3 : xS (xnew h (.inr (0, N)) N) (xM h) = fun _ => 0 := if_pos rfl
    rw [e3]
    have hcA : cN = cA 0 := Option.some.inj (hNm.symm.trans (hK.1.2 0 (cA 0, xaT 0) rfl).2)
    show H1[_]? = some (vp_cell _ _)
    rw [← hcA, e1]
    rfl
  · cases ee
def x_newA (t n : Nat) : XI := xiN fun L st h => match st with
  | .inl z :: st => if z < 0 ∨ 100000 < z.toNatClampNeg then none else some (n, L, .inr (some (some (xM h))) :: st, xnew h (.inr (t + 1, z.toNatClampNeg)) z.toNatClampNeg)
  | _ => none
theorem s_newA {xm : Nat → XY} {scr : Nat × (Nat → Int32)} {Y : XY} {pc : Nat} {t idx : Nat} {C : String} (hC : xaT (t + 1) = .object C) (ht : t < 2) (hw : Cond.classLink Y.1.cls idx C ∈ xtbl) (hd : decode Y.2.1 pc = .ok (.anewarray idx, 3)) : XSnd xm scr Y pc (x_newA t (pc + 3)) := by
  refine XSnd_N fun L st h pc1 L1 st1 h1 ee => ?_
  split at ee
  · split at ee
    · cases ee
    rename_i z st0 hc
    cases ee
    generalize hN : z.toNatClampNeg = N at hc
    refine ⟨Nat.le_add_right _ _, Nat.le_add_right _ _, fun p l e R s m args below meth c β D cA d m0 z0 Q X hm0 hz0 hmR hzR k H locs ls hP hF hl => ?_⟩
    obtain ⟨hx, hb, hml, hown, hts, hK, hnm, hbs, -⟩ := X
    have hm1 : xM h - m0 + 1 = xM (xnew h (.inr (t + 1, N)) N) - m0 := by show _ = xM h + 1 - m0; omega
    have hz1 : xZ h - z0 + N = xZ (xnew h (.inr (t + 1, N)) N) - z0 := by show _ = xZ h + N - z0; omega
    have hc1 : ¬ z < 0 := fun q => hc (Or.inl q)
    have hc2 : N ≤ 100000 := Nat.not_lt.mp fun q => hc (Or.inr q)
    have hov : (Cond.arrayOver (.object C)).before args s = true := by
      have h9 : Cond.arrayOver (xaT (t + 1)) ∈ xnest := by
        rcases (show t = 0 ∨ t = 1 by omega) with rfl | rfl
        · exact List.mem_of_getElem? (i := 4) rfl
        · exact List.mem_of_getElem? (i := 5) rfl
      have h8 := hK.2 _ h9
      rw [hC] at h8
      exact va_AO.use h8
    have htys : (xtys cA)[t + 1]? = some (cA (t + 1), .object C) := by
      rw [← hC]
      rcases (show t = 0 ∨ t = 1 by omega) with rfl | rfl <;> rfl
    refine W.anew hx hb hown (hts _ hw) hov rfl hd rfl hc1 (by rw [hN]; omega) (by rw [hm1]; exact hmR) (by rw [hN, hz1]; exact hzR) fun cN kA comp f1 f2 f3 f4 => ?_
    rw [hN, hm1, hz1]
    generalize hH1 : H.push ({ cls := cN, slots := Array.replicate N .null, vm := .none } : Cell) = H1
    have z1 : H1.size = H.size + 1 := by rw [← hH1, Array.size_push]
    have e1 : H1[H.size]? = some (arrV cN N (fun _ => .null)) := by rw [← hH1, Array.getElem?_push_size, ← arrV_new]
    have o1 : ∀ q : Nat, q < H.size → H1[q]? = H[q]? := fun q hq => by rw [← hH1, Array.getElem?_push, if_neg (Nat.ne_of_lt hq)]
    have hsz : H.size = β.1 + xM h := hP.1
    rw [hsz]
    refine k H1 locs ls (XP_push hP z1 o1 ?_) (XF_push hF (by omega) o1) hl
    have hk0 : xK (xnew h (.inr (t + 1, N)) N) (xM h) = .inr (t + 1, N) := if_pos rfl
    rw [xe_ref hk0]
    have e3 : xR (xnew h (.inr (t + 1, N)) N) (xM h) = fun _ => none := if_pos rfl
    rw [e3]
    have hra : s.vm.findClass ("[" ++ (FieldType.object C).toString) = some (cA (t + 1)) := by
      obtain ⟨_, _, _, _, _, h9⟩ := (hK.1.2 (t + 1) _ htys).2
      exact h9
    have hcA : cN = cA (t + 1) := Option.some.inj (f1.symm.trans hra)
    show H1[_]? = some (vp_cell _ _)
    rw [← hcA, ← hsz, e1, vp_cell_q]
    rfl
  · cases ee
end
section
/-! 06: arrays, calls -/
def x_len (n : Nat) : XI := xiN fun L st h => match st with
  | .inr (some (some i)) :: st => if i < xM h then match xK h i with
    | .inr (t, N) => if t < 4 then some (n, L, .inl (Int32.ofNat N) :: st, h) else none
    | _ => none
    else none
  | _ => none
theorem xtys_at (cA : Nat → ClassId) {t : Nat} (ht : t < 4) : (xtys cA)[t]? = some (cA t, xaT t) := by
  rcases (show t = 0 ∨ t = 1 ∨ t = 2 ∨ t = 3 by omega) with rfl | rfl | rfl | rfl <;> rfl
theorem xal_arr {t N : Nat} (ht : t < 4) : xal (.inr (t, N)) = true := by
  show Nat.blt t 4 = true
  simpa [Nat.blt_eq] using ht
theorem s_len {xm : Nat → XY} {scr : Nat × (Nat → Int32)} {Y : XY} {pc : Nat} (hd : decode Y.2.1 pc = .ok (.arraylength, 1)) : XSnd xm scr Y pc (x_len (pc + 1)) := by
  refine XSnd_P fun L st h pc1 L1 st1 h1 ee => ?_
  split at ee
  · split at ee
    · split at ee
      · split at ee
        · rename_i i st0 hc _ t N hk ht
          cases ee
          refine ⟨rfl, fun p l e R s m args below meth c β D cA d m0 z0 Q X hm0 hz0 hmR hzR k H locs ls hP hF hl => ?_⟩
          obtain ⟨hx, hb, hml, hown, hts, hK, hnm, hbs, -⟩ := X
          rcases t with _ | t
          · exact va_alen hx hb hK.1 (XP_one hP hc (by rw [hk]; rfl) (xe_int hk)) 0 0 rfl (xtys_at cA ht) rfl hd (k H locs ls hP hF hl)
          · exact va_alen hx hb hK.1 (XP_one hP hc (by rw [hk]; exact xal_arr ht) (xe_ref hk)) 0 (t + 1) rfl (xtys_at cA ht) rfl hd (k H locs ls hP hF hl)
        · cases ee
      · cases ee
    · cases ee
  · cases ee
def x_iald (n : Nat) : XI := xiN fun L st h => match st with
  | .inl j :: .inr (some (some i)) :: st => if i < xM h then match xK h i with
    | .inr (0, N) => if j < 0 ∨ N ≤ j.toNatClampNeg then none else some (n, L, .inl (xS h i j.toNatClampNeg) :: st, h)
    | _ => none
    else none
  | _ => none
theorem s_iald {xm : Nat → XY} {scr : Nat × (Nat → Int32)} {Y : XY} {pc : Nat} (hd : decode Y.2.1 pc = .ok (.iaload, 1)) : XSnd xm scr Y pc (x_iald (pc + 1)) := by
  refine XSnd_P fun L st h pc1 L1 st1 h1 ee => ?_
  split at ee
  · split at ee
    · split at ee
      · split at ee
        · cases ee
        · rename_i j i st0 hc _ N hk hin
          cases ee
          refine ⟨rfl, fun p l e R s m args below meth c β D cA d m0 z0 Q X hm0 hz0 hmR hzR k H locs ls hP hF hl => ?_⟩
          obtain ⟨hx, hb, hml, hown, hts, hK, hnm, hbs, -⟩ := X
          exact va_iald hx hb hK.1 (XP_one hP hc (by rw [hk]; rfl) (xe_int hk)) 0 0 rfl (xtys_at cA (by decide)) hin hd (k H locs ls hP hF hl)
      · cases ee
    · cases ee
  · cases ee
def x_iast (n : Nat) : XI := xiN fun L st h => match st with
  | .inl x :: .inl j :: .inr (some (some i)) :: st => if i < xM h then match xK h i with
    | .inr (0, N) => if j < 0 ∨ N ≤ j.toNatClampNeg then none else some (n, L, st, xsetS h i (upd (xS h i) j.toNatClampNeg x))
    | _ => none
    else none
  | _ => none
theorem s_iast {xm : Nat → XY} {scr : Nat × (Nat → Int32)} {Y : XY} {pc : Nat} (hd : decode Y.2.1 pc = .ok (.iastore, 1)) : XSnd xm scr Y pc (x_iast (pc + 1)) := by
  refine XSnd_N fun L st h pc1 L1 st1 h1 ee => ?_
  split at ee
  · split at ee
    · split at ee
      · split at ee
        · cases ee
        · rename_i x j i st0 hc _ N hk hin
          cases ee
          refine ⟨Nat.le_refl _, Nat.le_refl _, fun p l e R s m args below meth c β D cA d m0 z0 Q X hm0 hz0 hmR hzR k H locs ls hP hF hl => ?_⟩
          obtain ⟨hx, hb, hml, hown, hts, hK, hnm, hbs, -⟩ := X
          have hat := hP.2 i hc (by rw [hk]; rfl)
          rw [xe_int hk] at hat
          refine W.iast (x := x) hx hb hat ((hK.1.2 0 _ (xtys_at cA (by decide))).1 N (fun j => .int (xS h i j))) (fun q => by cases q) (by show ¬ (j < 0 ∨ (arrV _ _ _).slots.size ≤ _); rw [arrV_size]; exact hin) rfl rfl hd fun H1 e z oq => ?_
          refine k H1 _ ls (XP_upd hP rfl z oq xsetS_off ?_) (XF_put hF oq) hl
          have hk2 : xK (xsetS h i (upd (xS h i) j.toNatClampNeg x)) i = .inr (0, N) := hk
          rw [xe_int hk2]
          have e2 : xS (xsetS h i (upd (xS h i) j.toNatClampNeg x)) i = upd (xS h i) j.toNatClampNeg x := if_pos rfl
          rw [e2]
          show H1[β.1 + i]? = some (vp_cell _ _)
          rw [e]
          show some ((arrV _ _ _).setSlot _ _) = _
          rw [vp_cell_i, arrV_store]
          congr 2
          funext q
          by_cases hq : q = j.toNatClampNeg
          · subst hq
            simp [updV, upd]
          · simp [updV, upd, hq]
      · cases ee
    · cases ee
  · cases ee
def x_aald (n : Nat) : XI := xiN fun L st h => match st with
  | .inl j :: .inr (some (some i)) :: st => if i < xM h then match xK h i with
    | .inr (t + 1, N) => if t < 3 then if j < 0 ∨ N ≤ j.toNatClampNeg then none else match xR h i j.toNatClampNeg with
      | some a => some (n, L, .inr (some (some a)) :: st, h)
      | none => none
      else none
    | _ => none
    else none
  | _ => none
theorem xaT_ref {t : Nat} : (xaT (t + 1)).isReference = true := by
  rcases t with _ | _ | t <;> rfl
theorem s_aald {xm : Nat → XY} {scr : Nat × (Nat → Int32)} {Y : XY} {pc : Nat} (hd : decode Y.2.1 pc = .ok (.aaload, 1)) : XSnd xm scr Y pc (x_aald (pc + 1)) := by
  refine XSnd_P fun L st h pc1 L1 st1 h1 ee => ?_
  split at ee
  · split at ee
    · split at ee
      · split at ee
        · split at ee
          · cases ee
          · split at ee
            · rename_i j i st0 hc _ t N hk ht hin _ a ha
              cases ee
              refine ⟨rfl, fun p l e R s m args below meth c β D cA d m0 z0 Q X hm0 hz0 hmR hzR k H locs ls hP hF hl => ?_⟩
              obtain ⟨hx, hb, hml, hown, hts, hK, hnm, hbs, -⟩ := X
              have hat := hP.2 i hc (by rw [hk]; exact xal_arr (by omega))
              rw [xe_ref hk] at hat
              have hlt : j.toNatClampNeg < N := Nat.not_le.mp fun q => hin (Or.inr q)
              refine W.aald (v := .ref (β.1 + a)) (ty := xaT (t + 1)) hx hb hat ((hK.1.2 (t + 1) _ (xtys_at cA (by omega))).1 N (fun j => va_rf ((xR h i j).map (fun q => β.1 + q)))) xaT_ref (fun q => by cases q) (by show ¬ (j < 0 ∨ (arrV _ _ _).slots.size ≤ _); rw [arrV_size]; exact hin) ?_ rfl rfl hd (k H locs ls hP hF hl)
              show (arrV _ _ _).slots[_]? = _
              rw [arrV_read _ _ hlt]
              show some (va_rf (Option.map _ (xR h i _))) = _
              rw [ha]
              rfl
            · cases ee
        · cases ee
      · cases ee
    · cases ee
  · cases ee
def x_aast (t ci n : Nat) : XI := xiN fun L st h => match st with
  | .inr (some (some a)) :: .inl j :: .inr (some (some i)) :: st => if i < xM h ∧ a < xM h ∧ xK h a = .inl ci then match xK h i with
    | .inr (t', N) => if t' = t + 1 then if j < 0 ∨ N ≤ j.toNatClampNeg then none else some (n, L, st, xsetR h i (xup (xR h i) j.toNatClampNeg (some a))) else none
    | _ => none
    else none
  | _ => none
theorem s_aast {xm : Nat → XY} {scr : Nat × (Nat → Int32)} {Y : XY} {pc : Nat} {t ci : Nat} {C : String} {T : u_T} (hC : XCl ci C T) (hT : xaT (t + 1) = .object C) (ht : t < 2) (hd : decode Y.2.1 pc = .ok (.aastore, 1)) : XSnd xm scr Y pc (x_aast t ci (pc + 1)) := by
  refine XSnd_N fun L st h pc1 L1 st1 h1 ee => ?_
  split at ee
  · split at ee
    · split at ee
      · split at ee
        · split at ee
          · cases ee
          · rename_i a j i st0 hc _ t1 N hk ht1 hin
            cases ee
            subst ht1
            refine ⟨Nat.le_refl _, Nat.le_refl _, fun p l e R s m args below meth c β D cA d m0 z0 Q X hm0 hz0 hmR hzR k H locs ls hP hF hl => ?_⟩
            obtain ⟨hx, hb, hml, hown, hts, hK, hnm, hbs, -⟩ := X
            have hat := hP.2 i hc.1 (by rw [hk]; exact xal_arr (by omega))
            rw [xe_ref hk] at hat
            have hva := hP.2 a hc.2.1 (by rw [hc.2.2]; rfl)
            rw [xe_obj hc.2.2] at hva
            have hlt : j.toNatClampNeg < N := Nat.not_le.mp fun q => hin (Or.inr q)
            have h0 : ¬ j < 0 := fun q => hin (Or.inl q)
            obtain ⟨r', hr', cellV, g1, g2, g3, -⟩ := hva
            have hcls := (hK.1.1 ci _ hC.1).2
            have htys : (xtys cA)[t + 1]? = some (cA (t + 1), .object C) := by rw [← hT]; exact xtys_at cA (by omega)
            obtain ⟨kA, comp, k1, k2, k3, -⟩ := (hK.1.2 (t + 1) _ htys).2
            have hcomp : comp = D.1 ci := Option.some.inj (k3.symm.trans hcls.1)
            subst hcomp
            obtain ⟨kC, hkC, -⟩ := hcls.2
            refine W.aast hx hb hat (fun q h => by cases h) (fun h => by cases h) k1 k2 rfl hkC ⟨h0, by show _ < (arrV _ _ _).slots.size; rw [arrV_size]; exact hlt⟩ g1 (fun q h => by rw [g3] at h; cases h) (by rw [g2]; exact hkC) (by rw [g2]; exact va_assign hcls) rfl rfl hd fun H1 e z oq => ?_
            refine k H1 _ ls (XP_upd hP rfl z oq xsetR_off ?_) (XF_put hF oq) hl
            have hk2 : xK (xsetR h i (xup (xR h i) j.toNatClampNeg (some a))) i = .inr (t + 1, N) := hk
            rw [xe_ref hk2]
            have e2 : xR (xsetR h i (xup (xR h i) j.toNatClampNeg (some a))) i = xup (xR h i) j.toNatClampNeg (some a) := if_pos rfl
            rw [e2]
            show H1[β.1 + i]? = some (vp_cell _ _)
            rw [e]
            show some ((arrV _ _ _).setSlot _ _) = _
            rw [vp_cell_q, arrV_store]
            congr 2
            funext q
            by_cases hq : q = j.toNatClampNeg
            · subst hq
              simp [updV, xup, va_rf]
            · simp [updV, xup, hq]
        · cases ee
      · cases ee
    · cases ee
  · cases ee
theorem x_copyK {p : Program} {l : Launch} {e : Env} {R : Room} {s : State} {m : MethodId} {args : Array Value} {below : List Frame} {meth : Method} {c : Code} {H : Heap} {locs : List Loc} {cells slots : Nat} {Q : State → Prop} {cc : ByteArray} {pc : Nat} {ls : Array Slot} {rest : List Value} {a a0 : Nat} (hexec : p.tables.exec = Jvm.exec) (hb : c.code = cc) (hml : c.maxLocals = ls.size) {own : String} {index : Nat} (hown : s.vm.findClass own = some m.cls) (hlink : (Cond.methodLink own index arraycopyName).before args s = true) (hnat : (Cond.native arraycopyName).before args s = true) (hstat : (Cond.static arraycopyName).before args s = true) (hini : (Cond.initialized "java/lang/System").before args s = true)
    {c0 : ClassId} {n0 n1 : Nat} {f g : Nat → Int32} (hc0 : H[a0]? = some (vp_cell c0 (n0, .inl f))) (hc1 : H[a]? = some (vp_cell c0 (n1, .inl g))) (hA : ArrOfT s c0 .int)
    {sp dp n : Int32} (h1 : ¬ sp < 0) (h2 : ¬ dp < 0) (h3 : ¬ n < 0) (h4 : sp.toNatClampNeg + n.toNatClampNeg ≤ n0) (h5 : dp.toNatClampNeg + n.toNatClampNeg ≤ n1)
    (hframes : 1 ≤ R.frames) (hlocals : (rest.map fun v => v.category).sum + (nativeFrameWords "java/lang/System" "arraycopy" 5 + 11) ≤ R.locals) (hdg : decode cc pc = .ok (.invokestatic index, 3))
    (kk : ∀ (H1 : Heap) (locs1 : List Loc), H1[a]? = some (vp_cell c0 (n1, .inl (va_cpy f g sp.toNatClampNeg dp.toNatClampNeg n.toNatClampNeg))) → H1.size = H.size → (∀ q : Nat, q ≠ a → H1[q]? = H[q]?) → (∀ q ∈ locs1, q ∈ locs ∨ q.base = a) → W p l e R s m args below meth c H1 locs1 cells slots Q (F0 m (pc + 3) ls rest)) : W p l e R s m args below meth c H locs cells slots Q (F0 m pc ls (.int n :: .int dp :: .ref a :: .int sp :: .ref a0 :: rest)) := by
  have nn : ∀ z : Int32, ¬ z < 0 → z.toInt = (z.toNatClampNeg : Int) := by
    intro z hz
    have hz0 : (0 : Int) ≤ z.toInt := by
      have := Int32.not_lt.mp hz
      simpa using Int32.le_iff_toInt_le.mp this
    show z.toInt = ((z.toInt.toNat : Nat) : Int)
    omega
  intro T hT X
  obtain ⟨-, k0, hk0, cm0, hkk0⟩ := hA n0 (fun j => .int (f j))
  obtain ⟨-, k1, hk1, cm1, hkk1⟩ := hA n1 (fun j => .int (g j))
  obtain ⟨vm', X', step⟩ := X.arraycopy hexec hown hlink hnat hstat hini (src := a0) (dst := a) (cs := vp_cell c0 (n0, .inl f)) (cd := vp_cell c0 (n1, .inl g)) (srcPos := sp) (destPos := dp) (n := n) (by rw [hT]; exact hc0) (by rw [hT]; exact hc1)
    (fun _ h => by cases h) (fun _ h => by cases h) (fun h => by cases h) (fun h => by cases h) hk0 hk1 hkk0 hkk1 (by simp [refKind]) h1 h2 h3
    (by rw [nn sp h1, nn n h3]; show ¬ _ > ((arrV c0 n0 (fun j => .int (f j))).slots.size : Int); rw [arrV_size]; omega)
    (by rw [nn dp h2, nn n h3]; show ¬ _ > ((arrV c0 n1 (fun j => .int (g j))).slots.size : Int); rw [arrV_size]; omega)
    (fun vm₁ _ i hi => by
      have e : (vp_cell c0 (n0, .inl f)).slots.getD (sp.toNatClampNeg + i) .null = .int (f (sp.toNatClampNeg + i)) := by
        show (arrV c0 n0 (fun j => .int (f j))).slots.getD _ _ = _
        rw [Array.getD_eq_getD_getElem?, arrV_read _ _ (by omega)]
        rfl
      refine ⟨?_, ?_⟩
      · rw [e]
        rfl
      · rw [e]
        exact trivial)
    (g := F0 m pc ls (.int n :: .int dp :: .ref a :: .int sp :: .ref a0 :: rest)) rfl (by rw [hml]) (rest := rest) rfl (by rw [hb]; exact hdg) hframes (by show 2 * 0 + _ + _ ≤ _; omega)
  have e1 : copied (vp_cell c0 (n0, .inl f)) (vp_cell c0 (n1, .inl g)) sp dp n = vp_cell c0 (n1, .inl (va_cpy f g sp.toNatClampNeg dp.toNatClampNeg n.toNatClampNeg)) := va_copied (fun z => .int z) c0 c0 f g h4
  rw [e1] at X' step
  have hl : a < H.size := (Array.getElem?_eq_some_iff.mp hc1).1
  have hheap : ((T.setVm vm').setCell a (vp_cell c0 (n1, .inl (va_cpy f g sp.toNatClampNeg dp.toNatClampNeg n.toNatClampNeg)))).heap = H.setIfInBounds a (vp_cell c0 (n1, .inl (va_cpy f g sp.toNatClampNeg dp.toNatClampNeg n.toNatClampNeg))) := by rw [← hT]; rfl
  obtain ⟨t, a1, b1⟩ := kk _ _ (show (H.setIfInBounds a _)[a]? = some _ by simp [Array.getElem?_setIfInBounds, hl]) (by simp) (fun q hq => by simp [Array.getElem?_setIfInBounds, Ne.symm hq]) (fun q hq => by
    rcases List.mem_append.mp hq with h | h
    · exact Or.inl h
    · obtain ⟨z, -, hz⟩ := List.mem_map.mp h
      rw [← hz]
      exact Or.inr rfl) _ hheap X'
  exact ⟨t, step t a1, b1⟩
def x_copy (n : Nat) : XI := xiN fun L st h => match st with
  | .inl len :: .inl dp :: .inr (some (some b)) :: .inl sp :: .inr (some (some a)) :: st => if a < xM h ∧ b < xM h ∧ st.length ≤ 8 then match xK h a, xK h b with
    | .inr (0, N), .inr (0, M) => if sp < 0 ∨ dp < 0 ∨ len < 0 ∨ N < sp.toNatClampNeg + len.toNatClampNeg ∨ M < dp.toNatClampNeg + len.toNatClampNeg then none
      else some (n, L, st, xsetS h b (va_cpy (xS h a) (xS h b) sp.toNatClampNeg dp.toNatClampNeg len.toNatClampNeg))
    | _, _ => none
    else none
  | _ => none
theorem s_copy {xm : Nat → XY} {scr : Nat × (Nat → Int32)} {Y : XY} {pc : Nat} {idx : Nat} (hw : Cond.methodLink Y.1.cls idx arraycopyName ∈ xtbl) (hw1 : Cond.native arraycopyName ∈ xtbl) (hw2 : Cond.static arraycopyName ∈ xtbl) (hw3 : Cond.initialized "java/lang/System" ∈ xtbl) (hd : decode Y.2.1 pc = .ok (.invokestatic idx, 3)) : XSnd xm scr Y pc (x_copy (pc + 3)) := by
  refine XSnd_N fun L st h pc1 L1 st1 h1 ee => ?_
  split at ee
  · split at ee
    · split at ee
      · split at ee
        · cases ee
        · rename_i len dp b sp a st0 hc _ _ N M hka hkb hin
          cases ee
          refine ⟨Nat.le_refl _, Nat.le_refl _, fun p l e R s m args below meth c β D cA d m0 z0 Q X hm0 hz0 hmR hzR k H locs ls hP hF hl => ?_⟩
          obtain ⟨hx, hb, hml, hown, hts, hK, hnm, hbs, hfr, hlo, -⟩ := X
          have hat := hP.2 a hc.1 (by rw [hka]; rfl)
          rw [xe_int hka] at hat
          have hbt := hP.2 b hc.2.1 (by rw [hkb]; rfl)
          rw [xe_int hkb] at hbt
          have hin1 : ¬ sp < 0 := fun q => hin (Or.inl q)
          have hin2 : ¬ dp < 0 := fun q => hin (Or.inr (Or.inl q))
          have hin3 : ¬ len < 0 := fun q => hin (Or.inr (Or.inr (Or.inl q)))
          have hin4 : sp.toNatClampNeg + len.toNatClampNeg ≤ N := Nat.not_lt.mp fun q => hin (Or.inr (Or.inr (Or.inr (Or.inl q))))
          have hin5 : dp.toNatClampNeg + len.toNatClampNeg ≤ M := Nat.not_lt.mp fun q => hin (Or.inr (Or.inr (Or.inr (Or.inr q))))
          have hnw : nativeFrameWords "java/lang/System" "arraycopy" 5 = 7 := by decide +kernel
          refine x_copyK hx hb (hml.trans hl.1.symm) hown (hts _ hw) (hts _ hw1) (hts _ hw2) (hts _ hw3) hat hbt (hK.1.2 0 _ (xtys_at cA (by decide))).1 hin1 hin2 hin3 hin4 hin5 (by omega) (by rw [hnw]; exact Nat.le_trans (Nat.add_le_add_right (Nat.le_of_eq (xst_sum β st1)) _) (by omega)) hd fun H1 locs1 e z oq hlc => ?_
          refine k H1 _ ls (XP_upd hP rfl z oq xsetS_off ?_) ⟨fun q hq => (oq q (by omega)).trans (hF.1 q hq), fun q hq => ?_⟩ hl
          · have hk2 : xK (xsetS h b (va_cpy (xS h a) (xS h b) sp.toNatClampNeg dp.toNatClampNeg len.toNatClampNeg)) b = .inr (0, M) := hkb
            rw [xe_int hk2]
            have e2 : xS (xsetS h b (va_cpy (xS h a) (xS h b) sp.toNatClampNeg dp.toNatClampNeg len.toNatClampNeg)) b = va_cpy (xS h a) (xS h b) sp.toNatClampNeg dp.toNatClampNeg len.toNatClampNeg := if_pos rfl
            rw [e2]
            exact e
          · rcases hlc q hq with g | g
            · exact hF.2 q g
            · rw [g]
              exact Nat.le_add_right _ _
      · cases ee
    · cases ee
  · cases ee
def x_obj (n : Nat) : XI := xiN fun L st h => match st with
  | .inr (some (some _)) :: st => if st.length ≤ 8 then some (n, L, st, h) else none
  | _ => none
theorem s_obj {xm : Nat → XY} {scr : Nat × (Nat → Int32)} {Y : XY} {pc : Nat} {idx : Nat} (hw : Cond.methodLink Y.1.cls idx objectInit ∈ xtbl) (hw1 : Cond.instanceMethod objectInit ∈ xtbl) (hw2 : Cond.code objectInit ⟨#[0xb1]⟩ 1 none ∈ xtbl) (hd : decode Y.2.1 pc = .ok (.invokespecial idx, 3)) : XSnd xm scr Y pc (x_obj (pc + 3)) := by
  refine XSnd_P fun L st h pc1 L1 st1 h1 ee => ?_
  split at ee
  · split at ee
    · rename_i i st0 hc
      cases ee
      refine ⟨rfl, fun p l e R s m args below meth c β D cA d m0 z0 Q X hm0 hz0 hmR hzR k H locs ls hP hF hl => ?_⟩
      obtain ⟨hx, hb, hml, hown, hts, hK, hnm, hbs, hfr, hlo, -⟩ := X
      refine W.objInit (a := β.1 + i) (rest := xst β st1) hx hb hown (hts _ hw) (hts _ hw1) (hts _ hw2) rfl (by rw [hml]; exact hl.1) rfl hd (by omega) (by show 2 * 0 + _ + _ ≤ _; rw [xst_sum β st1]; omega) (k H locs ls hP hF hl)
    · cases ee
  · cases ee
def x_sld (scr : Nat × (Nat → Int32)) (n : Nat) : XI := xiN fun L st h => match st with
  | .inl j :: .inr (some none) :: st => if j < 0 ∨ scr.1 ≤ j.toNatClampNeg then none else some (n, L, .inl (scr.2 j.toNatClampNeg) :: st, h)
  | _ => none
theorem s_sld {xm : Nat → XY} {scr : Nat × (Nat → Int32)} {Y : XY} {pc : Nat} (hY : Y.1.name = "law") (hd : decode Y.2.1 pc = .ok (.iaload, 1)) : XSnd xm scr Y pc (x_sld scr (pc + 1)) := by
  refine XSnd_P fun L st h pc1 L1 st1 h1 ee => ?_
  split at ee
  · split at ee
    · cases ee
    · rename_i j st0 hin
      cases ee
      refine ⟨rfl, fun p l e R s m args below meth c β D cA d m0 z0 Q X hm0 hz0 hmR hzR k H locs ls hP hF hl => ?_⟩
      obtain ⟨hx, hb, hml, hown, hts, hK, hnm, hbs, hfr, hlo, hX⟩ := X
      obtain ⟨hX1, hX2⟩ := hX hY
      obtain ⟨sc, g1, g2, g3, g4, g5⟩ := hX1
      have hlt : j.toNatClampNeg < scr.1 := Nat.not_le.mp fun q => hin (Or.inr q)
      exact W.iald (v := .int (scr.2 j.toNatClampNeg)) (a := β.2) hx hb (by rw [hF.1 β.2 hX2]; exact g1) g2 g3 (by rw [g4]; exact hin) (g5 _ hlt) rfl rfl hd (k H locs ls hP hF hl)
  · cases ee
def x_slen (scr : Nat × (Nat → Int32)) (n : Nat) : XI := xiN fun L st h => match st with
  | .inr (some none) :: st => some (n, L, .inl (Int32.ofNat scr.1) :: st, h)
  | _ => none
theorem s_slen {xm : Nat → XY} {scr : Nat × (Nat → Int32)} {Y : XY} {pc : Nat} (hY : Y.1.name = "law") (hd : decode Y.2.1 pc = .ok (.arraylength, 1)) : XSnd xm scr Y pc (x_slen scr (pc + 1)) := by
  refine XSnd_P fun L st h pc1 L1 st1 h1 ee => ?_
  split at ee
  · cases ee
    refine ⟨rfl, fun p l e R s m args below meth c β D cA d m0 z0 Q X hm0 hz0 hmR hzR k H locs ls hP hF hl => ?_⟩
    obtain ⟨hx, hb, hml, hown, hts, hK, hnm, hbs, hfr, hlo, hX⟩ := X
    obtain ⟨hX1, hX2⟩ := hX hY
    obtain ⟨sc, g1, g2, g3, g4, g5⟩ := hX1
    exact W.alen (n := Int32.ofNat scr.1) (a := β.2) hx hb (by rw [hF.1 β.2 hX2]; exact g1) g2 (by rw [g4] <;> rfl) rfl rfl hd (k H locs ls hP hF hl)
  · cases ee
end
section
/-! 07: an array of arrays; calls; a run of the abstract machine is a run of the machine -/
def xnewI (h : XH) (K : Nat) : Nat → XH
  | 0 => h
  | j + 1 => xnew (xnewI h K j) (.inr (0, K)) K
theorem xnewI_M (h : XH) (K : Nat) : ∀ j, xM (xnewI h K j) = xM h + j
  | 0 => rfl
  | j + 1 => by
    show xM (xnewI h K j) + 1 = _
    rw [xnewI_M h K j]
    omega
theorem xnewI_Z (h : XH) (K : Nat) : ∀ j, xZ (xnewI h K j) = xZ h + j * K
  | 0 => by simp [xnewI]
  | j + 1 => by
    show xZ (xnewI h K j) + K = _
    rw [xnewI_Z h K j, Nat.add_mul]
    omega
theorem xnewI_lt (h : XH) (K : Nat) {i : Nat} (hi : i < xM h) : ∀ j, xK (xnewI h K j) i = xK h i ∧ xR (xnewI h K j) i = xR h i ∧ xS (xnewI h K j) i = xS h i
  | 0 => ⟨rfl, rfl, rfl⟩
  | j + 1 => by
    obtain ⟨h1, h2, h3⟩ := xnewI_lt h K hi j
    have hne : i ≠ xM (xnewI h K j) := by rw [xnewI_M]; omega
    exact ⟨(if_neg hne).trans h1, (if_neg hne).trans h2, (if_neg hne).trans h3⟩
theorem xnewI_in (h : XH) (K : Nat) {i : Nat} : ∀ j, i < j → xK (xnewI h K j) (xM h + i) = .inr (0, K) ∧ xS (xnewI h K j) (xM h + i) = fun _ => 0
  | j + 1, hi => by
    by_cases e : i = j
    · subst e
      have e2 : xM h + i = xM (xnewI h K i) := (xnewI_M h K i).symm
      exact ⟨if_pos e2, if_pos e2⟩
    · obtain ⟨h1, h2⟩ := xnewI_in h K (i := i) j (by omega)
      have hne : xM h + i ≠ xM (xnewI h K j) := by rw [xnewI_M]; omega
      exact ⟨(if_neg hne).trans h1, (if_neg hne).trans h2⟩
def xmnaH (h : XH) (N K : Nat) : XH := xnewI (xsetR (xnew h (.inr (3, N)) N) (xM h) (fun j => if j < N then some (xM h + 1 + j) else none)) K N
theorem xmnaH_M (h : XH) (N K : Nat) : xM (xmnaH h N K) = xM h + 1 + N := by
  unfold xmnaH
  rw [xnewI_M]
  rfl
theorem xmnaH_Z (h : XH) (N K : Nat) : xZ (xmnaH h N K) = xZ h + N + N * K := by
  unfold xmnaH
  rw [xnewI_Z]
  rfl
def x_mna (n : Nat) : XI := xiN fun L st h => match st with
  | .inl k :: .inl z :: st => if z < 0 ∨ k < 0 ∨ 1000 < z.toNatClampNeg ∨ 1000 < k.toNatClampNeg then none else some (n, L, .inr (some (some (xM h))) :: st, xmnaH h z.toNatClampNeg k.toNatClampNeg)
  | _ => none
set_option maxHeartbeats 1000000 in
theorem s_mna {xm : Nat → XY} {scr : Nat × (Nat → Int32)} {Y : XY} {pc : Nat} {idx : Nat} (hw : Cond.classLink Y.1.cls idx ("[" ++ (FieldType.array .int).toString) ∈ xtbl) (hw1 : Cond.arrayClass .int ∈ xtbl) (hd : decode Y.2.1 pc = .ok (.multianewarray idx 2, 4)) : XSnd xm scr Y pc (x_mna (pc + 4)) := by
  refine XSnd_N fun L st h pc1 L1 st1 h1 ee => ?_
  split at ee
  · split at ee
    · cases ee
    rename_i kz z st0 hc
    cases ee
    have hc1 : ¬ z < 0 := fun q => hc (Or.inl q)
    have hc2 : ¬ kz < 0 := fun q => hc (Or.inr (Or.inl q))
    have hc3 : z.toNatClampNeg ≤ 1000 := Nat.not_lt.mp fun q => hc (Or.inr (Or.inr (Or.inl q)))
    have hc4 : kz.toNatClampNeg ≤ 1000 := Nat.not_lt.mp fun q => hc (Or.inr (Or.inr (Or.inr q)))
    refine ⟨by rw [xmnaH_M]; omega, by rw [xmnaH_Z]; omega, fun p l e R s m args below meth c β D cA d m0 z0 Q X hm0 hz0 hmR hzR k H locs ls hP hF hl => ?_⟩
    obtain ⟨hx, hb, hml, hown, hts, hK, hnm, hbs, -⟩ := X
    rw [xmnaH_M] at hmR
    rw [xmnaH_Z] at hzR
    generalize hN : z.toNatClampNeg = N at *
    generalize hKz : kz.toNatClampNeg = K at *
    have hov : (Cond.arrayOver (.array .int)).before args s = true := hK.2 _ (List.mem_of_getElem? (i := 6) rfl)
    intro T hT Xs
    obtain ⟨vm₁, cB, comp, -, fA, fC, hO, -, X', step⟩ := Xs.multianewarray2F hx hown (hts _ hw) hov (hts _ hw1) (g := F0 m pc ls (.int kz :: .int z :: xst β st0)) rfl (by rw [hb]; exact hd) rfl hc1 hc2 (by rw [hN]; omega) (by rw [hKz]; show K * 4 ≤ _; omega) (by rw [hKz]; omega) rfl rfl (by rw [hN]; omega) (by rw [hN, hKz]; omega)
    rw [hN, hKz] at X' step
    have ec : cA 0 = comp := Option.some.inj ((hK.1.2 0 (cA 0, xaT 0) rfl).2.symm.trans fC)
    have eB : cA 3 = cB := Option.some.inj ((hK.1.2 3 (cA 3, xaT 3) rfl).2.symm.trans fA)
    subst ec
    subst eB
    generalize hFF : Jvm.Free.Multi.fill (T.setVm vm₁) (cA 3) (cA 0) N K (defaultValue .int) N = F at X' step
    have hTh : (T.setVm vm₁).heap = H := hT
    obtain ⟨f1, f2, -, -⟩ := Jvm.Free.Multi.fill_facts (T.setVm vm₁) (cA 3) (cA 0) N K (defaultValue .int) N
    rw [hFF, hTh] at f1 f2
    have hold : ∀ x : Nat, x < H.size → F.heap[x]? = H[x]? := fun x hx => by
      have := Jvm.Free.Multi.fill_old (T.setVm vm₁) (cA 3) (cA 0) N K (defaultValue .int) (a := x) (by rw [hTh]; exact hx) N
      rw [hFF, hTh] at this
      exact this
    have hrow : ∀ j : Nat, j < N → F.heap[H.size + 1 + j]? = some (vp_cell (cA 0) (K, .inl (fun _ => 0))) := fun j hj => by
      have := Jvm.Free.Multi.fill_inner (T.setVm vm₁) (cA 3) (cA 0) N K (defaultValue .int) N j hj
      rw [hFF, hTh] at this
      rw [this]
      congr 1
      exact arrV_new ..
    have hout : Jvm.Free.Multi.outerC (cA 3) N H.size N = vp_cell (cA 3) (N, .inr (.inr (.inr (.inr (fun i => if i < N then some (H.size + 1 + i) else none))))) := by
      rw [vp_cell_q]
      exact vr_outer (cA 3) N H.size N
    rw [hout] at f2
    have hsz : H.size = β.1 + xM h := hP.1
    have hPn : XP β D cA (xmnaH h N K) F.heap := by
      refine ⟨?_, fun i hi ha => ?_⟩
      · rw [xmnaH_M, f1, hsz]
        omega
      · rw [xmnaH_M] at hi
        by_cases h1 : i < xM h
        · have hne : i ≠ xM h := by omega
          obtain ⟨g1, g2, g3⟩ := xnewI_lt (xsetR (xnew h (.inr (3, N)) N) (xM h) (fun j => if j < N then some (xM h + 1 + j) else none)) K (i := i) (by show i < xM h + 1; omega) N
          have k1 : xK (xmnaH h N K) i = xK h i := g1.trans (if_neg hne)
          have k2 : xR (xmnaH h N K) i = xR h i := g2.trans ((if_neg hne).trans (if_neg hne))
          have k3 : xS (xmnaH h N K) i = xS h i := g3.trans (if_neg hne)
          rw [xe_eq k1 k2 k3]
          exact (hP.2 i h1 (by rw [← k1]; exact ha)).kept (hold _ (by show β.1 + i < H.size; omega))
        · by_cases h2 : i = xM h
          · subst h2
            obtain ⟨g1, g2, g3⟩ := xnewI_lt (xsetR (xnew h (.inr (3, N)) N) (xM h) (fun j => if j < N then some (xM h + 1 + j) else none)) K (i := xM h) (by show xM h < xM h + 1; omega) N
            have k1 : xK (xmnaH h N K) (xM h) = .inr (2 + 1, N) := g1.trans (if_pos rfl)
            have k2 : xR (xmnaH h N K) (xM h) = fun j => if j < N then some (xM h + 1 + j) else none := g2.trans (if_pos rfl)
            rw [xe_ref k1, k2]
            show F.heap[β.1 + xM h]? = some (vp_cell _ _)
            rw [← hsz, f2]
            have e8 : (fun i => if i < N then some (H.size + 1 + i) else none) = fun j => Option.map (fun q => β.1 + q) (if j < N then some (xM h + 1 + j) else none) := by
              funext j
              by_cases hj : j < N
              · simp only [hj, if_true, Option.map_some]
                congr 1
                omega
              · simp [hj]
            rw [e8]
          · obtain ⟨j, rfl⟩ : ∃ j, i = xM h + 1 + j := ⟨i - (xM h + 1), by omega⟩
            obtain ⟨g1, g2⟩ := xnewI_in (xsetR (xnew h (.inr (3, N)) N) (xM h) (fun j => if j < N then some (xM h + 1 + j) else none)) K (i := j) N (by omega)
            have k1 : xK (xmnaH h N K) (xM h + 1 + j) = .inr (0, K) := g1
            have k3 : xS (xmnaH h N K) (xM h + 1 + j) = fun _ => 0 := g2
            rw [xe_int k1, k3]
            have := hrow j (by omega)
            rw [hsz] at this
            show F.heap[β.1 + (xM h + 1 + j)]? = _
            rw [← this]
            congr 1
            omega
    have ecl : xM h - m0 + 1 + N = xM (xmnaH h N K) - m0 := by rw [xmnaH_M]; omega
    have esl : xZ h - z0 + N + N * K = xZ (xmnaH h N K) - z0 := by rw [xmnaH_Z]; omega
    rw [ecl, esl] at X'
    obtain ⟨t, a1, b1⟩ := k F.heap locs ls hPn (XF_push hF (by omega) hold) hl F rfl X'
    refine ⟨t, step t ?_, b1⟩
    have e9 : T.heap.size = β.1 + xM h := by rw [hT]; exact hsz
    rw [e9]
    exact a1
  · cases ee
theorem xblind {β : XA} {D : va_G} {cA : Nat → ClassId} {h : XH} {av : List Value} : FrameBlind (va_Pc av (XPre β D cA h)) := fun a U g mk q => ⟨q.1, q.2.1, XKn.moved (u := U) (U := U.calling g mk a) (State.WarmedH.refl U) q.2.2⟩
theorem xws_good {Y : XY} {args : Array Value} {s : State} (hts : ∀ w ∈ xtbl, w.before args s = true) (hc : Cond.code Y.1 Y.2.1 Y.2.2.1 Y.2.2.2 ∈ xtbl) : ∀ w ∈ XWs Y, ∀ (a' : Array Value) (U : State), s.WarmedH U.vm → w.before a' U = true := by
  intro w hw a' U hW
  have hw' : w ∈ xtbl := by
    rcases List.mem_cons.mp hw with rfl | h
    · exact hc
    · exact h
  exact word_at hW (good_of_word (List.all_eq_true.mp xtbl_good w hw')) (hts w hw')
/-- behind a call -/
theorem x_after {p : Program} {l : Launch} {e : Env} {R : Room} {s : State} {m : MethodId} {args : Array Value} {below : List Frame} {meth : Method} {c : Code} {Y : XY} {β : XA} {D : va_G} {cA : Nat → ClassId} {m0 z0 : Nat} {Q : State → Prop} {r : Option XV} {h h2 : XH} {pc pc' : Nat} {L : XL} {st st' : List XV} {H : Heap} {locs : List Loc} {ls : Array Slot} {a : Array Value}
    (hr : va_Run p l e R s m args below meth c H locs (xM h - m0) (xZ h - z0) (xM h2 - xM h) (xZ h2 - xZ h) (F0 m pc ls (xst β st)) (xst β st') (XQ β D cA r h2 a) (fun q => β.1 ≤ q)) (hpc : pc' = pc + 3) (hm0 : m0 ≤ xM h) (hz0 : z0 ≤ xZ h) (hm : xM h ≤ xM h2) (hz : xZ h ≤ xZ h2) (hF : XF β s H locs) (hl : lv_has ls Y.2.2.1 (xls β L))
    (k : XWk p l e R s m args below meth c Y β D cA m0 z0 Q pc' L (r.toList ++ st') h2) : W p l e R s m args below meth c H locs (xM h - m0) (xZ h - z0) Q (F0 m pc ls (xst β st)) := by
  subst hpc
  intro T hT X
  obtain ⟨v, st₀, t, T', L2, h0, X', hL, e1, e2, ⟨hv, hP2, hfr⟩, st9⟩ := hr T hT X
  have hv2 : v = r.map (xv β) := by
    injection hv
  have ecl : xM h - m0 + (xM h2 - xM h) = xM h2 - m0 := by omega
  have esl : xZ h - z0 + (xZ h2 - xZ h) = xZ h2 - z0 := by omega
  rw [ecl, esl] at X'
  obtain ⟨t2, a1, b1⟩ := k T'.heap (locs ++ L2) ls (by rw [e1]; exact hP2) ⟨fun q hq => by rw [e1, hfr q hq, h0]; exact hF.1 q hq, fun q hq => by
    rcases List.mem_append.mp hq with g | g
    · exact hF.2 q g
    · exact hL q g⟩ hl T' rfl X'
  refine ⟨t2, st9 t2 ?_, b1⟩
  have e5 : v.toList ++ xst β st' = xst β (r.toList ++ st') := by
    rw [hv2]
    cases r <;> rfl
  show Steps p.tables e below (T'.setTop { F0 m pc ls (xst β st) with pc := pc + 3, stack := v.toList ++ xst β st' }) t2
  rw [e5]
  exact a1
theorem xrev (β : XA) (st : List XV) (k : Nat) : xst β st = (xst β (st.take k).reverse).reverse ++ xst β (st.drop k) := by
  unfold xst
  rw [← List.map_reverse, List.reverse_reverse, ← List.map_append, List.take_append_drop]
theorem xas_len (β : XA) {st : List XV} {k : Nat} (hk : k ≤ st.length) : (xst β (st.take k).reverse).length = k := by
  unfold xst
  rw [List.length_map, List.length_reverse, List.length_take]
  omega
def x_inv (mid ci k n : Nat) : XI := fun _ st h => match st.drop k with
  | .inr (some (some i)) :: rest => if k ≤ st.length ∧ rest.length ≤ 8 ∧ i < xM h ∧ xK h i = .inl ci then .inr (.inl (mid, .inr (some (some i)) :: (st.take k).reverse, n, rest)) else xbad
  | _ => xbad
def x_invS (mid k n : Nat) : XI := fun _ st _ => if k ≤ st.length ∧ (st.drop k).length ≤ 8 then .inr (.inl (mid, (st.take k).reverse, n, st.drop k)) else xbad
/-- what a callee is: its record, and what the tables say of it -/
def XCal (xm : Nat → XY) (mid k nargs : Nat) : Prop := nargs ≤ (xm mid).2.2.1 ∧ (xm mid).2.2.1 ≤ 100 ∧ plainName (xm mid).1.cls = true ∧ (xm mid).1.name ≠ "law" ∧ Cond.code (xm mid).1 (xm mid).2.1 (xm mid).2.2.1 (xm mid).2.2.2 ∈ xtbl ∧ Cond.initialized (xm mid).1.cls ∈ xtbl ∧ ((xm mid).1.cls ≠ "java/lang/invoke/MethodHandle" ∧ (xm mid).1.cls ≠ "java/lang/invoke/VarHandle") ∧ (parseMethodDescriptor (xm mid).1.desc).map (fun d => d.parameters.length) = some k
theorem xcal_len {xm : Nat → XY} {mid k nargs : Nat} (hc : XCal xm mid k nargs) : ∀ sig, parseMethodDescriptor (xm mid).1.desc = some sig → k = sig.parameters.length := fun sig h => by
  have h2 := hc.2.2.2.2.2.2.2
  rw [h] at h2
  exact (Option.some.inj h2).symm
theorem XSnd_C {xm : Nat → XY} {scr : Nat × (Nat → Int32)} {Y : XY} {pc : Nat} {sem : XI} (h1 : ∀ L st h o, sem L st h = o → (∃ q, o = .inr (.inl q)) ∨ o = xbad) (h2 : ∀ L st h mid as pc' st', sem L st h = .inr (.inl (mid, as, pc', st')) → XCx xm scr Y pc L st h mid as pc' st') : XSnd xm scr Y pc sem := by
  intro L st h
  refine ⟨fun _ _ _ _ e => ?_, h2 L st h, fun _ e => ?_⟩
  · rcases h1 L st h _ e with ⟨q, hq⟩ | hq <;> cases hq
  · rcases h1 L st h _ e with ⟨q, hq⟩ | hq <;> cases hq
theorem x_inv_kind {mid ci k n : Nat} : ∀ L st h o, x_inv mid ci k n L st h = o → (∃ q, o = .inr (.inl q)) ∨ o = xbad := by
  intro L st h o e
  unfold x_inv at e
  split at e
  · split at e
    · exact Or.inl ⟨_, e.symm⟩
    · exact Or.inr e.symm
  · exact Or.inr e.symm
theorem x_invS_kind {mid k n : Nat} : ∀ L st h o, x_invS mid k n L st h = o → (∃ q, o = .inr (.inl q)) ∨ o = xbad := by
  intro L st h o e
  unfold x_invS at e
  split at e
  · exact Or.inl ⟨_, e.symm⟩
  · exact Or.inr e.symm
theorem x_recv {D : va_G} {cA : Nat → ClassId} {β : XA} {h : XH} {H : Heap} {s : State} {i ci : Nat} {C : String} {T : u_T} (hC : XCl ci C T) (hP : XP β D cA h H) (hK : XKn D cA s) (hi : i < xM h) (hk : xK h i = .inl ci) : ∃ cell : Cell, H[β.1 + i]? = some cell ∧ cell.vm.isStatics = false ∧ s.vm.findClass C = some cell.cls := by
  have hat := hP.2 i hi (by rw [hk]; rfl)
  rw [xe_obj hk] at hat
  obtain ⟨r, h1, cell, q1, q2, q3, q4⟩ := hat
  have hr : r = (C, T, xnf ci) := Option.some.inj (h1.symm.trans hC.1)
  subst hr
  exact ⟨cell, q1, by rw [q3]; rfl, by rw [q2]; exact (hK.1.1 ci _ hC.1).2.1⟩
theorem s_inv {xm : Nat → XY} {scr : Nat × (Nat → Int32)} {Y : XY} {pc : Nat} {mid ci k idx : Nat} {C : String} {T : u_T} (hC : XCl ci C T) (hc : XCal xm mid k (k + 1)) (hw : Cond.methodLink Y.1.cls idx (xm mid).1 ∈ xtbl) (hw1 : Cond.instanceMethod (xm mid).1 ∈ xtbl) (hw2 : Cond.selects C (xm mid).1 (xm mid).1 ∈ xtbl) (hd : decode Y.2.1 pc = .ok (.invokevirtual idx, 3)) : XSnd xm scr Y pc (x_inv mid ci k (pc + 3)) := by
  refine XSnd_C x_inv_kind fun L st h mid1 as pc1 st1 ee => ?_
  unfold x_inv at ee
  split at ee
  · split at ee
    · rename_i i rest hdr hi
      cases ee
      refine ⟨by show (st.take k).reverse.length + 1 ≤ _; rw [List.length_reverse, List.length_take]; have := hc.1; omega, hc.2.2.1, hc.2.2.2.1, fun p l e R s m args below meth c β D cA d m0 z0 Q r h2 X hm0 hz0 hmm hzz hmR hzR hM kk H locs ls hP hF hl => ?_⟩
      obtain ⟨hx, hb, hml, hown, hts, hK, hnm, hbs, hfr, hlo, -⟩ := X
      have hpre : ∀ U : State, U.heap = H → s.WarmedH U.vm → va_Pc (xst β (.inr (some (some i)) :: (st.take k).reverse)) (XPre β D cA h) (Value.ref (β.1 + i) :: xst β (st.take k).reverse).toArray U := fun U hU hW => ⟨rfl, by rw [hU]; exact hP, hK.moved hW⟩
      refine x_after (va_runV (C := C) (As := xst β (st.take k).reverse) (rest := xst β st1) (b := β.1 + i) (nL := Y.2.2.1) (Ts := xtbl) (own := Y.1.cls) (n := k) ⟨hx, hb, hml, hown, hts⟩ hM ⟨⟨rfl, rfl, hfr, by show 8 + ((xm mid).2.2.1 + 11) + 128 * (d + 1) ≤ _; have := hc.2.1; omega, xws_good hts hc.2.2.2.2.1, List.mem_cons_self, hts _ hc.2.2.2.2.1, hts _ hc.2.2.2.2.2.1, hc.2.2.2.2.2.2.1, xcal_len hc, hts _ hw⟩, hts _ hw1, hts _ hw2⟩ ⟨xblind, x_recv hC hP hK hi.2.2.1 hi.2.2.2, hpre⟩ rfl (xas_len β hi.1) hl.1 ?_ ?_ hd ⟨by omega, by omega⟩) rfl hm0 hz0 hmm hzz hF hl kk
      · show xst β st = _
        rw [xrev β st k, hdr]
        rfl
      · show 2 * 0 + _ ≤ 8
        rw [xst_sum]
        omega
    · cases ee
  · cases ee
theorem s_init {xm : Nat → XY} {scr : Nat × (Nat → Int32)} {Y : XY} {pc : Nat} {mid ci k idx : Nat} {C : String} {T : u_T} (hC : XCl ci C T) (hc : XCal xm mid k (k + 1)) (hini : (xm mid).1.name = "<init>") (hret : (xm mid).2.2.2 = none) (hw : Cond.methodLink Y.1.cls idx (xm mid).1 ∈ xtbl) (hw1 : Cond.instanceMethod (xm mid).1 ∈ xtbl) (hd : decode Y.2.1 pc = .ok (.invokespecial idx, 3)) : XSnd xm scr Y pc (x_inv mid ci k (pc + 3)) := by
  refine XSnd_C x_inv_kind fun L st h mid1 as pc1 st1 ee => ?_
  unfold x_inv at ee
  split at ee
  · split at ee
    · rename_i i rest hdr hi
      cases ee
      refine ⟨by show (st.take k).reverse.length + 1 ≤ _; rw [List.length_reverse, List.length_take]; have := hc.1; omega, hc.2.2.1, hc.2.2.2.1, fun p l e R s m args below meth c β D cA d m0 z0 Q r h2 X hm0 hz0 hmm hzz hmR hzR hM kk H locs ls hP hF hl => ?_⟩
      obtain ⟨hx, hb, hml, hown, hts, hK, hnm, hbs, hfr, hlo, -⟩ := X
      have hpre : ∀ U : State, U.heap = H → s.WarmedH U.vm → va_Pc (xst β (.inr (some (some i)) :: (st.take k).reverse)) (XPre β D cA h) (Value.ref (β.1 + i) :: xst β (st.take k).reverse).toArray U := fun U hU hW => ⟨rfl, by rw [hU]; exact hP, hK.moved hW⟩
      refine x_after (va_runI (As := xst β (st.take k).reverse) (rest := xst β st1) (b := β.1 + i) (nL := Y.2.2.1) (Ts := xtbl) (own := Y.1.cls) (n := k) ⟨hx, hb, hml, hown, hts⟩ hM ⟨⟨rfl, rfl, hfr, by show 8 + ((xm mid).2.2.1 + 11) + 128 * (d + 1) ≤ _; have := hc.2.1; omega, xws_good hts hc.2.2.2.2.1, by rw [← hret]; exact List.mem_cons_self, by rw [← hret]; exact hts _ hc.2.2.2.2.1, hts _ hc.2.2.2.2.2.1, hc.2.2.2.2.2.2.1, xcal_len hc, hts _ hw⟩, hini, hts _ hw1⟩ ⟨xblind, hpre⟩ rfl (xas_len β hi.1) hl.1 ?_ ?_ hd ⟨by omega, by omega⟩) rfl hm0 hz0 hmm hzz hF hl kk
      · show xst β st = _
        rw [xrev β st k, hdr]
        rfl
      · show 2 * 0 + _ ≤ 8
        rw [xst_sum]
        omega
    · cases ee
  · cases ee
theorem s_initN {xm : Nat → XY} {scr : Nat × (Nat → Int32)} {Y : XY} {pc : Nat} {mid ci k idx : Nat} {C : String} {T : u_T} (hC : XCl ci C T) (hc : XCal xm mid k (k + 1)) (hini : (xm mid).1.name = "<init>") (hret : (xm mid).2.2.2 = none) (hw : Cond.methodLinkNest Y.1.cls idx (xm mid).1 RX7 ∈ xnest) (hw1 : Cond.instanceMethod (xm mid).1 ∈ xtbl) (hd : decode Y.2.1 pc = .ok (.invokespecial idx, 3)) : XSnd xm scr Y pc (x_inv mid ci k (pc + 3)) := by
  refine XSnd_C x_inv_kind fun L st h mid1 as pc1 st1 ee => ?_
  unfold x_inv at ee
  split at ee
  · split at ee
    · rename_i i rest hdr hi
      cases ee
      refine ⟨by show (st.take k).reverse.length + 1 ≤ _; rw [List.length_reverse, List.length_take]; have := hc.1; omega, hc.2.2.1, hc.2.2.2.1, fun p l e R s m args below meth c β D cA d m0 z0 Q r h2 X hm0 hz0 hmm hzz hmR hzR hM kk H locs ls hP hF hl => ?_⟩
      obtain ⟨hx, hb, hml, hown, hts, hK, hnm, hbs, hfr, hlo, -⟩ := X
      have hpre : ∀ U : State, U.heap = H → s.WarmedH U.vm → va_Pc (xst β (.inr (some (some i)) :: (st.take k).reverse)) (XPre β D cA h) (Value.ref (β.1 + i) :: xst β (st.take k).reverse).toArray U := fun U hU hW => ⟨rfl, by rw [hU]; exact hP, hK.moved hW⟩
      refine x_after (va_runIN (host := RX7) (As := xst β (st.take k).reverse) (rest := xst β st1) (b := β.1 + i) (nL := Y.2.2.1) (Ts := xtbl) (own := Y.1.cls) (n := k) ⟨hx, hb, hml, hown, hts⟩ hM ⟨⟨⟨rfl, rfl, hfr, by show 8 + ((xm mid).2.2.1 + 11) + 128 * (d + 1) ≤ _; have := hc.2.1; omega, xws_good hts hc.2.2.2.2.1, by rw [← hret]; exact List.mem_cons_self⟩, by rw [← hret]; exact hts _ hc.2.2.2.2.1, hts _ hc.2.2.2.2.2.1, hc.2.2.2.2.2.2.1, xcal_len hc, va_Nw.use rfl (hK.2 _ hw)⟩, hini, hts _ hw1⟩ ⟨xblind, hpre⟩ rfl (xas_len β hi.1) hl.1 ?_ ?_ hd ⟨by omega, by omega⟩) rfl hm0 hz0 hmm hzz hF hl kk
      · show xst β st = _
        rw [xrev β st k, hdr]
        rfl
      · show 2 * 0 + _ ≤ 8
        rw [xst_sum]
        omega
    · cases ee
  · cases ee
theorem s_invS {xm : Nat → XY} {scr : Nat × (Nat → Int32)} {Y : XY} {pc : Nat} {mid k idx : Nat} (hc : XCal xm mid k k) (hw : Cond.methodLink Y.1.cls idx (xm mid).1 ∈ xtbl) (hw1 : Cond.static (xm mid).1 ∈ xtbl) (hd : decode Y.2.1 pc = .ok (.invokestatic idx, 3)) : XSnd xm scr Y pc (x_invS mid k (pc + 3)) := by
  refine XSnd_C x_invS_kind fun L st h mid1 as pc1 st1 ee => ?_
  unfold x_invS at ee
  split at ee
  · rename_i hi
    cases ee
    refine ⟨by rw [List.length_reverse, List.length_take]; have := hc.1; omega, hc.2.2.1, hc.2.2.2.1, fun p l e R s m args below meth c β D cA d m0 z0 Q r h2 X hm0 hz0 hmm hzz hmR hzR hM kk H locs ls hP hF hl => ?_⟩
    obtain ⟨hx, hb, hml, hown, hts, hK, hnm, hbs, hfr, hlo, -⟩ := X
    refine x_after (va_runS (As := xst β (st.take k).reverse) (rest := xst β (st.drop k)) (nL := Y.2.2.1) (Ts := xtbl) (own := Y.1.cls) (n := k) ⟨hx, hb, hml, hown, hts⟩ hM ⟨⟨rfl, rfl, hfr, by show 8 + ((xm mid).2.2.1 + 11) + 128 * (d + 1) ≤ _; have := hc.2.1; omega, xws_good hts hc.2.2.2.2.1, List.mem_cons_self, hts _ hc.2.2.2.2.1, hts _ hc.2.2.2.2.2.1, hc.2.2.2.2.2.2.1, xcal_len hc, hts _ hw⟩, hts _ hw1⟩ ⟨xblind, fun U hU hW => ⟨rfl, by rw [hU]; exact hP, hK.moved hW⟩⟩ rfl (xas_len β hi.1) hl.1 (xrev β st k) ?_ hd ⟨by omega, by omega⟩) rfl hm0 hz0 hmm hzz hF hl kk
    show 2 * 0 + _ ≤ 8
    rw [xst_sum]
    omega
  · cases ee
def xargsAt : Nat → List XV → XL
  | _, [] => []
  | i, v :: vs => (i, v) :: xargsAt (i + 1) vs
def xargs (as : List XV) : XL := xargsAt 0 as
theorem xargs_lv (β : XA) : ∀ (as : List XV) (i : Nat), lv_args i (xst β as) = xls β (xargsAt i as)
  | [], _ => rfl
  | v :: as, i => by
    show (i, xv β v) :: lv_args (if (xv β v).category = 2 then i + 2 else i + 1) (xst β as) = _
    rw [if_neg (by rw [xv_cat]; decide), xargs_lv β as (i + 1)]
    rfl
theorem xsl_len (β : XA) : ∀ (as : List XV), (lg_sl (xst β as)).length = as.length
  | [] => rfl
  | v :: as => by
    show ((if (xv β v).category = 2 then [Slot.val (xv β v), .second] else [.val (xv β v)]) ++ lg_sl (xst β as)).length = _
    rw [if_neg (by rw [xv_cat]; decide), List.length_append, xsl_len β as]
    simp
    omega
/-- a run of the abstract machine -/
def xrun (code : Nat → Nat → XI) : Nat → Nat → Nat → Nat → XL → List XV → XH → Option (Option XV × XH) := fun f => Nat.rec (fun _ _ _ _ _ _ => none)
  (fun _ ih d mid pc L st h => match code mid pc L st h with
    | .inl (pc', L', st', h') => ih d mid pc' L' st' h'
    | .inr (.inl (mid', as, pc', st')) => match d with
      | 0 => none
      | d' + 1 => match ih d' mid' 0 (xargs as) [] h with
        | none => none
        | some (r, h2) => ih d mid pc' L (r.toList ++ st') h2
    | .inr (.inr none) => none
    | .inr (.inr (some r)) => some (r, h)) f
theorem xrun_S (code : Nat → Nat → XI) (f d mid pc : Nat) (L : XL) (st : List XV) (h : XH) : xrun code (f + 1) d mid pc L st h = match code mid pc L st h with
    | .inl (pc', L', st', h') => xrun code f d mid pc' L' st' h'
    | .inr (.inl (mid', as, pc', st')) => match d with
      | 0 => none
      | d' + 1 => match xrun code f d' mid' 0 (xargs as) [] h with
        | none => none
        | some (r, h2) => xrun code f d mid pc' L (r.toList ++ st') h2
    | .inr (.inr none) => none
    | .inr (.inr (some r)) => some (r, h) := rfl
theorem xmet_of {l : Launch} {xm : Nat → XY} {scr : Nat × (Nat → Int32)} {mid d : Nat} {β : XA} {D : va_G} {cA : Nat → ClassId} {as : List XV} {h h' : XH} {r : Option XV} (hlen : as.length ≤ (xm mid).2.2.1) (hpl : plainName (xm mid).1.cls = true) (hlaw : (xm mid).1.name ≠ "law")
    (hw : ∀ (p : Program) (e : Env) (R : Room) (s : State) (m : MethodId) (args : Array Value) (below : List Frame) (meth : Method) (c : Code) (m0 z0 : Nat) (Q : State → Prop), XC scr p R s m args meth c (xm mid) β D cA d → m0 ≤ xM h → z0 ≤ xZ h → xM h' - m0 ≤ R.cells → xZ h' - z0 ≤ R.slots →
      (∀ (pc : Nat) (L : XL) (st : List XV), XRx (xm mid) pc st r → XWk p l e R s m args below meth c (xm mid) β D cA m0 z0 Q pc L st h') → XWk p l e R s m args below meth c (xm mid) β D cA m0 z0 Q 0 (xargs as) [] h) : XMet l (xm mid) d β D cA as h r h' := by
  refine Met.ofW (cc := (xm mid).2.1) (maxL := (xm mid).2.2.1) (ret := (xm mid).2.2.2) hpl rfl ?_
  intro p e s m args below meth c s₁ B hml hv
  obtain ⟨rfl, hP, hK⟩ := hv
  have hts0 := atoms_spec (ws := XWs (xm mid)) B.pre
  have hts : ∀ w ∈ xtbl, w.before (xst β as).toArray s = true := fun w hw => hts0 w (List.mem_cons_of_mem _ hw)
  have hown : s.vm.findClass (xm mid).1.cls = some m.cls := findClass_of_methodNamed B.named
  have hnm : meth.name = (xm mid).1.name := (name_of_methodNamed B.named B.method).1
  have hlocks := B.notSynchronized
  have hX : XC scr p (headSpec (XWs (xm mid)) (XRM d (xM h' - xM h) (xZ h' - xZ h))).room s m (xst β as).toArray meth c (xm mid) β D cA d :=
    ⟨B.exec, B.bytes, hml, hown, hts, hK, hnm, by rw [hP.1]; exact Nat.le_add_right _ _, Nat.le_refl _, Nat.le_refl _, fun q => absurd q hlaw⟩
  have hl := lv_entry (xst β as) (n := (xm mid).2.2.1) (by rw [xsl_len]; exact hlen)
  rw [xargs_lv] at hl
  rw [lg_entry_eq]
  have key := hw p e _ s m _ below meth c (xM h) (xZ h) (MQ below (XQ β D cA r h') (xst β as).toArray s (xM h' - xM h) (xZ h' - xZ h) (fun q => β.1 ≤ q)) hX (Nat.le_refl _) (Nat.le_refl _) (Nat.le_refl _) (Nat.le_refl _) ?_ s.heap [] _ hP ⟨fun _ _ => rfl, fun _ h => by cases h⟩ hl
  · rw [Nat.sub_self, Nat.sub_self] at key
    exact key
  · intro pc L st hr H locs ls hP' hF' hl'
    rcases hr with ⟨rfl, rfl, hd, hret⟩ | ⟨v, ty, rfl, rfl, hd, hret, hn⟩
    · exact W.vret B.exec B.bytes (B.returns.trans hret) (fun t ht hW => ⟨rfl, by rw [ht]; exact hP', fun q hq => by rw [ht]; exact hF'.1 q hq⟩) hF'.2 hd
    · exact W.zret B.exec B.bytes (B.returns.trans hret) hn (fun t ht hW => ⟨rfl, by rw [ht]; exact hP', fun q hq => by rw [ht]; exact hF'.1 q hq⟩) hF'.2 hd
theorem xsound {xm : Nat → XY} {scr : Nat × (Nat → Int32)} {code : Nat → Nat → XI} (hcode : ∀ mid pc, XSnd xm scr (xm mid) pc (code mid pc)) (l : Launch) : ∀ (f d mid pc : Nat) (L : XL) (st : List XV) (h : XH) (r : Option XV) (h' : XH), xrun code f d mid pc L st h = some (r, h') →
    xM h ≤ xM h' ∧ xZ h ≤ xZ h' ∧ ∀ (p : Program) (e : Env) (R : Room) (s : State) (m : MethodId) (args : Array Value) (below : List Frame) (meth : Method) (c : Code) (β : XA) (D : va_G) (cA : Nat → ClassId) (m0 z0 : Nat) (Q : State → Prop), XC scr p R s m args meth c (xm mid) β D cA d → m0 ≤ xM h → z0 ≤ xZ h → xM h' - m0 ≤ R.cells → xZ h' - z0 ≤ R.slots →
      (∀ (pc : Nat) (L : XL) (st : List XV), XRx (xm mid) pc st r → XWk p l e R s m args below meth c (xm mid) β D cA m0 z0 Q pc L st h') → XWk p l e R s m args below meth c (xm mid) β D cA m0 z0 Q pc L st h
  | 0, _, _, _, _, _, _, _, _, e => by cases e
  | f + 1, d, mid, pc, L, st, h, r, h', e => by
    rw [xrun_S] at e
    obtain ⟨hN, hCl, hRt⟩ := hcode mid pc L st h
    split at e
    · rename_i pc1 L1 st1 h1 hs
      obtain ⟨a1, a2, a3⟩ := hN _ _ _ _ hs
      obtain ⟨b1, b2, b3⟩ := xsound hcode l f _ _ _ _ _ _ _ _ e
      refine ⟨Nat.le_trans a1 b1, Nat.le_trans a2 b2, fun p e R s m args below meth c β D cA m0 z0 Q X hm0 hz0 hmR hzR K => ?_⟩
      exact a3 p l e R s m args below meth c β D cA d m0 z0 Q X hm0 hz0 (by omega) (by omega) (b3 p e R s m args below meth c β D cA m0 z0 Q X (by omega) (by omega) hmR hzR K)
    · rename_i mid1 as pc1 st1 hs
      obtain ⟨c1, c2, c3, c4⟩ := hCl _ _ _ _ hs
      split at e
      · cases e
      · rename_i d1
        split at e
        · cases e
        · rename_i r1 h1 hcall
          obtain ⟨a1, a2, a3⟩ := xsound hcode l f _ _ _ _ _ _ _ _ hcall
          obtain ⟨b1, b2, b3⟩ := xsound hcode l f _ _ _ _ _ _ _ _ e
          refine ⟨Nat.le_trans a1 b1, Nat.le_trans a2 b2, fun p e R s m args below meth c β D cA m0 z0 Q X hm0 hz0 hmR hzR K => ?_⟩
          exact c4 p l e R s m args below meth c β D cA d1 m0 z0 Q r1 h1 X hm0 hz0 a1 a2 (by omega) (by omega) (xmet_of c1 c2 c3 fun p e R s m args below meth c m0 z0 Q X q1 q2 q3 q4 K => a3 p e R s m args below meth c β D cA m0 z0 Q X q1 q2 q3 q4 K) (b3 p e R s m args below meth c β D cA m0 z0 Q X (by omega) (by omega) hmR hzR K)
    · cases e
    · rename_i r1 hs
      cases e
      have hr := hRt _ hs
      exact ⟨Nat.le_refl _, Nat.le_refl _, fun p e R s m args below meth c β D cA m0 z0 Q X hm0 hz0 hmR hzR K => K pc L st hr⟩
end
