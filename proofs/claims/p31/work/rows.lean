section
-- ===== PART A: goes FIRST, ahead of the names: the tables' words, and 'selects' of the private methods out of them =====
/-- a private method of a class that the tables say can be made, by its rows of tables_1 -/
def lw_okq (q : MethodName × Nat) : Prop := (q.1.cls ≠ "java/lang/invoke/MethodHandle" ∧ q.1.cls ≠ "java/lang/invoke/VarHandle") ∧ Cond.instantiable q.1.cls q.2 ∈ tables_1 ∧ Cond.privateMethod q.1 ∈ tables_1 ∧ Cond.instanceMethod q.1 ∈ tables_1
theorem lw_p0 : lw_okq (⟨"ActorTrees$World", "greatestLiveChild", "(I)I"⟩, 13) := ⟨⟨by decide +kernel, by decide +kernel⟩, List.mem_of_getElem? (i := 22) (by decide +kernel), List.mem_of_getElem? (i := 395) (by decide +kernel), List.mem_of_getElem? (i := 396) (by decide +kernel)⟩
theorem lw_p1 : lw_okq (⟨"ActorTrees$Timers", "move", "(II)V"⟩, 4) := ⟨⟨by decide +kernel, by decide +kernel⟩, List.mem_of_getElem? (i := 30) (by decide +kernel), List.mem_of_getElem? (i := 408) (by decide +kernel), List.mem_of_getElem? (i := 409) (by decide +kernel)⟩
theorem lw_p2 : lw_okq (⟨"ActorTrees$World", "howItStands", "()I"⟩, 13) := ⟨⟨by decide +kernel, by decide +kernel⟩, List.mem_of_getElem? (i := 22) (by decide +kernel), List.mem_of_getElem? (i := 429) (by decide +kernel), List.mem_of_getElem? (i := 430) (by decide +kernel)⟩
theorem lw_p3 : lw_okq (⟨"ActorTrees$World", "nextDealer", "()I"⟩, 13) := ⟨⟨by decide +kernel, by decide +kernel⟩, List.mem_of_getElem? (i := 22) (by decide +kernel), List.mem_of_getElem? (i := 437) (by decide +kernel), List.mem_of_getElem? (i := 438) (by decide +kernel)⟩
theorem lw_p4 : lw_okq (⟨"ActorTrees$World", "fireTimer", "()Z"⟩, 13) := ⟨⟨by decide +kernel, by decide +kernel⟩, List.mem_of_getElem? (i := 22) (by decide +kernel), List.mem_of_getElem? (i := 445) (by decide +kernel), List.mem_of_getElem? (i := 446) (by decide +kernel)⟩
theorem lw_p5 : lw_okq (⟨"ActorTrees$World", "dealLater", "(III)I"⟩, 13) := ⟨⟨by decide +kernel, by decide +kernel⟩, List.mem_of_getElem? (i := 22) (by decide +kernel), List.mem_of_getElem? (i := 475) (by decide +kernel), List.mem_of_getElem? (i := 476) (by decide +kernel)⟩
theorem lw_p6 : lw_okq (⟨"ActorTrees$World", "sendDown", "(III)V"⟩, 13) := ⟨⟨by decide +kernel, by decide +kernel⟩, List.mem_of_getElem? (i := 22) (by decide +kernel), List.mem_of_getElem? (i := 483) (by decide +kernel), List.mem_of_getElem? (i := 484) (by decide +kernel)⟩
theorem lw_p7 : lw_okq (⟨"ActorTrees$World", "watch", "(II)V"⟩, 13) := ⟨⟨by decide +kernel, by decide +kernel⟩, List.mem_of_getElem? (i := 22) (by decide +kernel), List.mem_of_getElem? (i := 487) (by decide +kernel), List.mem_of_getElem? (i := 488) (by decide +kernel)⟩
theorem lw_p8 : lw_okq (⟨"ActorTrees$World", "dealEarlier", "(IIII)I"⟩, 13) := ⟨⟨by decide +kernel, by decide +kernel⟩, List.mem_of_getElem? (i := 22) (by decide +kernel), List.mem_of_getElem? (i := 497) (by decide +kernel), List.mem_of_getElem? (i := 498) (by decide +kernel)⟩
theorem lw_p9 : lw_okq (⟨"ActorTrees$World", "unstash", "(LActorTrees$Actor;)V"⟩, 13) := ⟨⟨by decide +kernel, by decide +kernel⟩, List.mem_of_getElem? (i := 22) (by decide +kernel), List.mem_of_getElem? (i := 501) (by decide +kernel), List.mem_of_getElem? (i := 502) (by decide +kernel)⟩
theorem lw_p10 : lw_okq (⟨"ActorTrees$World", "isOverBudgetAbove", "(I)Z"⟩, 13) := ⟨⟨by decide +kernel, by decide +kernel⟩, List.mem_of_getElem? (i := 22) (by decide +kernel), List.mem_of_getElem? (i := 516) (by decide +kernel), List.mem_of_getElem? (i := 517) (by decide +kernel)⟩
theorem lw_p11 : lw_okq (⟨"ActorTrees$World", "isRestartedWith", "(II)Z"⟩, 13) := ⟨⟨by decide +kernel, by decide +kernel⟩, List.mem_of_getElem? (i := 22) (by decide +kernel), List.mem_of_getElem? (i := 524) (by decide +kernel), List.mem_of_getElem? (i := 525) (by decide +kernel)⟩
theorem lw_p12 : lw_okq (⟨"ActorTrees$World", "restart", "(I)V"⟩, 13) := ⟨⟨by decide +kernel, by decide +kernel⟩, List.mem_of_getElem? (i := 22) (by decide +kernel), List.mem_of_getElem? (i := 528) (by decide +kernel), List.mem_of_getElem? (i := 529) (by decide +kernel)⟩
theorem lw_p13 : lw_okq (⟨"ActorTrees$Tape", "readNumber", "(Z)Z"⟩, 4) := ⟨⟨by decide +kernel, by decide +kernel⟩, List.mem_of_getElem? (i := 207) (by decide +kernel), List.mem_of_getElem? (i := 628) (by decide +kernel), List.mem_of_getElem? (i := 629) (by decide +kernel)⟩
theorem lw_p14 : lw_okq (⟨"ActorTrees$Tape", "isNext", "(C)Z"⟩, 4) := ⟨⟨by decide +kernel, by decide +kernel⟩, List.mem_of_getElem? (i := 207) (by decide +kernel), List.mem_of_getElem? (i := 632) (by decide +kernel), List.mem_of_getElem? (i := 633) (by decide +kernel)⟩
theorem lw_p15 : lw_okq (⟨"ActorTrees$Tape", "isDigitNext", "()Z"⟩, 4) := ⟨⟨by decide +kernel, by decide +kernel⟩, List.mem_of_getElem? (i := 207) (by decide +kernel), List.mem_of_getElem? (i := 636) (by decide +kernel), List.mem_of_getElem? (i := 637) (by decide +kernel)⟩
def lw_privs_1 : List (MethodName × Nat) := [(⟨"ActorTrees$World", "greatestLiveChild", "(I)I"⟩, 13), (⟨"ActorTrees$Timers", "move", "(II)V"⟩, 4), (⟨"ActorTrees$World", "howItStands", "()I"⟩, 13), (⟨"ActorTrees$World", "nextDealer", "()I"⟩, 13), (⟨"ActorTrees$World", "fireTimer", "()Z"⟩, 13), (⟨"ActorTrees$World", "dealLater", "(III)I"⟩, 13), (⟨"ActorTrees$World", "sendDown", "(III)V"⟩, 13), (⟨"ActorTrees$World", "watch", "(II)V"⟩, 13), (⟨"ActorTrees$World", "dealEarlier", "(IIII)I"⟩, 13), (⟨"ActorTrees$World", "unstash", "(LActorTrees$Actor;)V"⟩, 13), (⟨"ActorTrees$World", "isOverBudgetAbove", "(I)Z"⟩, 13), (⟨"ActorTrees$World", "isRestartedWith", "(II)Z"⟩, 13), (⟨"ActorTrees$World", "restart", "(I)V"⟩, 13), (⟨"ActorTrees$Tape", "readNumber", "(Z)Z"⟩, 4), (⟨"ActorTrees$Tape", "isNext", "(C)Z"⟩, 4), (⟨"ActorTrees$Tape", "isDigitNext", "()Z"⟩, 4)]
theorem lw_r1 : ∀ q ∈ lw_privs_1, lw_okq q := List.forall_mem_cons.mpr ⟨lw_p0, List.forall_mem_cons.mpr ⟨lw_p1, List.forall_mem_cons.mpr ⟨lw_p2, List.forall_mem_cons.mpr ⟨lw_p3, List.forall_mem_cons.mpr ⟨lw_p4, List.forall_mem_cons.mpr ⟨lw_p5, List.forall_mem_cons.mpr ⟨lw_p6, List.forall_mem_cons.mpr ⟨lw_p7, List.forall_mem_cons.mpr ⟨lw_p8, List.forall_mem_cons.mpr ⟨lw_p9, List.forall_mem_cons.mpr ⟨lw_p10, List.forall_mem_cons.mpr ⟨lw_p11, List.forall_mem_cons.mpr ⟨lw_p12, List.forall_mem_cons.mpr ⟨lw_p13, List.forall_mem_cons.mpr ⟨lw_p14, List.forall_mem_cons.mpr ⟨lw_p15, fun _ h => absurd h List.not_mem_nil⟩⟩⟩⟩⟩⟩⟩⟩⟩⟩⟩⟩⟩⟩⟩⟩
theorem lw_p16 : lw_okq (⟨"ActorTrees", "doLineButSteps", "()I"⟩, 7) := ⟨⟨by decide +kernel, by decide +kernel⟩, List.mem_of_getElem? (i := 14) (by decide +kernel), List.mem_of_getElem? (i := 642) (by decide +kernel), List.mem_of_getElem? (i := 643) (by decide +kernel)⟩
theorem lw_p17 : lw_okq (⟨"ActorTrees", "firstOtherwise", "(LActorTrees$Numbers;I)I"⟩, 7) := ⟨⟨by decide +kernel, by decide +kernel⟩, List.mem_of_getElem? (i := 14) (by decide +kernel), List.mem_of_getElem? (i := 663) (by decide +kernel), List.mem_of_getElem? (i := 664) (by decide +kernel)⟩
theorem lw_p18 : lw_okq (⟨"ActorTreesModel", "canBe", "(III)I"⟩, 22) := ⟨⟨by decide +kernel, by decide +kernel⟩, List.mem_of_getElem? (i := 714) (by decide +kernel), List.mem_of_getElem? (i := 793) (by decide +kernel), List.mem_of_getElem? (i := 794) (by decide +kernel)⟩
theorem lw_p19 : lw_okq (⟨"ActorTreesModel", "isActor", "(I)Z"⟩, 22) := ⟨⟨by decide +kernel, by decide +kernel⟩, List.mem_of_getElem? (i := 714) (by decide +kernel), List.mem_of_getElem? (i := 797) (by decide +kernel), List.mem_of_getElem? (i := 798) (by decide +kernel)⟩
theorem lw_p20 : lw_okq (⟨"ActorTreesModel", "isLive", "(I)Z"⟩, 22) := ⟨⟨by decide +kernel, by decide +kernel⟩, List.mem_of_getElem? (i := 714) (by decide +kernel), List.mem_of_getElem? (i := 807) (by decide +kernel), List.mem_of_getElem? (i := 808) (by decide +kernel)⟩
theorem lw_p21 : lw_okq (⟨"ActorTreesModel", "at", "(II)I"⟩, 22) := ⟨⟨by decide +kernel, by decide +kernel⟩, List.mem_of_getElem? (i := 714) (by decide +kernel), List.mem_of_getElem? (i := 811) (by decide +kernel), List.mem_of_getElem? (i := 812) (by decide +kernel)⟩
theorem lw_p22 : lw_okq (⟨"ActorTreesModel", "sets", "(III)V"⟩, 22) := ⟨⟨by decide +kernel, by decide +kernel⟩, List.mem_of_getElem? (i := 714) (by decide +kernel), List.mem_of_getElem? (i := 815) (by decide +kernel), List.mem_of_getElem? (i := 816) (by decide +kernel)⟩
theorem lw_p23 : lw_okq (⟨"ActorTreesModel", "sends", "(III)Z"⟩, 22) := ⟨⟨by decide +kernel, by decide +kernel⟩, List.mem_of_getElem? (i := 714) (by decide +kernel), List.mem_of_getElem? (i := 826) (by decide +kernel), List.mem_of_getElem? (i := 827) (by decide +kernel)⟩
theorem lw_p24 : lw_okq (⟨"ActorTreesModel", "doing", "(I)I"⟩, 22) := ⟨⟨by decide +kernel, by decide +kernel⟩, List.mem_of_getElem? (i := 714) (by decide +kernel), List.mem_of_getElem? (i := 834) (by decide +kernel), List.mem_of_getElem? (i := 835) (by decide +kernel)⟩
theorem lw_p25 : lw_okq (⟨"ActorTreesModel", "timersOf", "(I)I"⟩, 22) := ⟨⟨by decide +kernel, by decide +kernel⟩, List.mem_of_getElem? (i := 714) (by decide +kernel), List.mem_of_getElem? (i := 838) (by decide +kernel), List.mem_of_getElem? (i := 839) (by decide +kernel)⟩
theorem lw_p26 : lw_okq (⟨"ActorTreesModel", "noted", "(IZ)I"⟩, 22) := ⟨⟨by decide +kernel, by decide +kernel⟩, List.mem_of_getElem? (i := 714) (by decide +kernel), List.mem_of_getElem? (i := 842) (by decide +kernel), List.mem_of_getElem? (i := 843) (by decide +kernel)⟩
theorem lw_p27 : lw_okq (⟨"ActorTreesModel", "childrenOf", "(I)I"⟩, 22) := ⟨⟨by decide +kernel, by decide +kernel⟩, List.mem_of_getElem? (i := 714) (by decide +kernel), List.mem_of_getElem? (i := 846) (by decide +kernel), List.mem_of_getElem? (i := 847) (by decide +kernel)⟩
theorem lw_p28 : lw_okq (⟨"ActorTreesModel", "messageAt", "(IIZ)I"⟩, 22) := ⟨⟨by decide +kernel, by decide +kernel⟩, List.mem_of_getElem? (i := 714) (by decide +kernel), List.mem_of_getElem? (i := 859) (by decide +kernel), List.mem_of_getElem? (i := 860) (by decide +kernel)⟩
theorem lw_p29 : lw_okq (⟨"ActorTreesModel", "liveOnes", "()I"⟩, 22) := ⟨⟨by decide +kernel, by decide +kernel⟩, List.mem_of_getElem? (i := 714) (by decide +kernel), List.mem_of_getElem? (i := 883) (by decide +kernel), List.mem_of_getElem? (i := 884) (by decide +kernel)⟩
theorem lw_p30 : lw_okq (⟨"ActorTreesModel", "stops", "(I)V"⟩, 22) := ⟨⟨by decide +kernel, by decide +kernel⟩, List.mem_of_getElem? (i := 714) (by decide +kernel), List.mem_of_getElem? (i := 890) (by decide +kernel), List.mem_of_getElem? (i := 891) (by decide +kernel)⟩
theorem lw_p31 : lw_okq (⟨"ActorTreesModel", "stopsChildren", "(I)V"⟩, 22) := ⟨⟨by decide +kernel, by decide +kernel⟩, List.mem_of_getElem? (i := 714) (by decide +kernel), List.mem_of_getElem? (i := 894) (by decide +kernel), List.mem_of_getElem? (i := 895) (by decide +kernel)⟩
def lw_privs_2 : List (MethodName × Nat) := [(⟨"ActorTrees", "doLineButSteps", "()I"⟩, 7), (⟨"ActorTrees", "firstOtherwise", "(LActorTrees$Numbers;I)I"⟩, 7), (⟨"ActorTreesModel", "canBe", "(III)I"⟩, 22), (⟨"ActorTreesModel", "isActor", "(I)Z"⟩, 22), (⟨"ActorTreesModel", "isLive", "(I)Z"⟩, 22), (⟨"ActorTreesModel", "at", "(II)I"⟩, 22), (⟨"ActorTreesModel", "sets", "(III)V"⟩, 22), (⟨"ActorTreesModel", "sends", "(III)Z"⟩, 22), (⟨"ActorTreesModel", "doing", "(I)I"⟩, 22), (⟨"ActorTreesModel", "timersOf", "(I)I"⟩, 22), (⟨"ActorTreesModel", "noted", "(IZ)I"⟩, 22), (⟨"ActorTreesModel", "childrenOf", "(I)I"⟩, 22), (⟨"ActorTreesModel", "messageAt", "(IIZ)I"⟩, 22), (⟨"ActorTreesModel", "liveOnes", "()I"⟩, 22), (⟨"ActorTreesModel", "stops", "(I)V"⟩, 22), (⟨"ActorTreesModel", "stopsChildren", "(I)V"⟩, 22)]
theorem lw_r2 : ∀ q ∈ lw_privs_2, lw_okq q := List.forall_mem_cons.mpr ⟨lw_p16, List.forall_mem_cons.mpr ⟨lw_p17, List.forall_mem_cons.mpr ⟨lw_p18, List.forall_mem_cons.mpr ⟨lw_p19, List.forall_mem_cons.mpr ⟨lw_p20, List.forall_mem_cons.mpr ⟨lw_p21, List.forall_mem_cons.mpr ⟨lw_p22, List.forall_mem_cons.mpr ⟨lw_p23, List.forall_mem_cons.mpr ⟨lw_p24, List.forall_mem_cons.mpr ⟨lw_p25, List.forall_mem_cons.mpr ⟨lw_p26, List.forall_mem_cons.mpr ⟨lw_p27, List.forall_mem_cons.mpr ⟨lw_p28, List.forall_mem_cons.mpr ⟨lw_p29, List.forall_mem_cons.mpr ⟨lw_p30, List.forall_mem_cons.mpr ⟨lw_p31, fun _ h => absurd h List.not_mem_nil⟩⟩⟩⟩⟩⟩⟩⟩⟩⟩⟩⟩⟩⟩⟩⟩
theorem lw_p32 : lw_okq (⟨"ActorTreesModel", "isLiveChild", "(II)Z"⟩, 22) := ⟨⟨by decide +kernel, by decide +kernel⟩, List.mem_of_getElem? (i := 714) (by decide +kernel), List.mem_of_getElem? (i := 898) (by decide +kernel), List.mem_of_getElem? (i := 899) (by decide +kernel)⟩
theorem lw_p33 : lw_okq (⟨"ActorTreesModel", "forgets", "(I)V"⟩, 22) := ⟨⟨by decide +kernel, by decide +kernel⟩, List.mem_of_getElem? (i := 714) (by decide +kernel), List.mem_of_getElem? (i := 902) (by decide +kernel), List.mem_of_getElem? (i := 903) (by decide +kernel)⟩
theorem lw_p34 : lw_okq (⟨"ActorTreesModel", "unwatches", "(I)V"⟩, 22) := ⟨⟨by decide +kernel, by decide +kernel⟩, List.mem_of_getElem? (i := 714) (by decide +kernel), List.mem_of_getElem? (i := 906) (by decide +kernel), List.mem_of_getElem? (i := 907) (by decide +kernel)⟩
theorem lw_p35 : lw_okq (⟨"ActorTreesModel", "runs", "(I)I"⟩, 22) := ⟨⟨by decide +kernel, by decide +kernel⟩, List.mem_of_getElem? (i := 714) (by decide +kernel), List.mem_of_getElem? (i := 914) (by decide +kernel), List.mem_of_getElem? (i := 915) (by decide +kernel)⟩
theorem lw_p36 : lw_okq (⟨"ActorTreesModel", "isEnd", "(II)Z"⟩, 22) := ⟨⟨by decide +kernel, by decide +kernel⟩, List.mem_of_getElem? (i := 714) (by decide +kernel), List.mem_of_getElem? (i := 918) (by decide +kernel), List.mem_of_getElem? (i := 919) (by decide +kernel)⟩
theorem lw_p37 : lw_okq (⟨"ActorTreesModel", "hasStep", "()Z"⟩, 22) := ⟨⟨by decide +kernel, by decide +kernel⟩, List.mem_of_getElem? (i := 714) (by decide +kernel), List.mem_of_getElem? (i := 922) (by decide +kernel), List.mem_of_getElem? (i := 923) (by decide +kernel)⟩
theorem lw_p38 : lw_okq (⟨"ActorTreesModel", "nextActor", "()I"⟩, 22) := ⟨⟨by decide +kernel, by decide +kernel⟩, List.mem_of_getElem? (i := 714) (by decide +kernel), List.mem_of_getElem? (i := 926) (by decide +kernel), List.mem_of_getElem? (i := 927) (by decide +kernel)⟩
theorem lw_p39 : lw_okq (⟨"ActorTreesModel", "step", "()V"⟩, 22) := ⟨⟨by decide +kernel, by decide +kernel⟩, List.mem_of_getElem? (i := 714) (by decide +kernel), List.mem_of_getElem? (i := 930) (by decide +kernel), List.mem_of_getElem? (i := 931) (by decide +kernel)⟩
theorem lw_p40 : lw_okq (⟨"ActorTreesModel", "logs", "(II)V"⟩, 22) := ⟨⟨by decide +kernel, by decide +kernel⟩, List.mem_of_getElem? (i := 714) (by decide +kernel), List.mem_of_getElem? (i := 934) (by decide +kernel), List.mem_of_getElem? (i := 935) (by decide +kernel)⟩
theorem lw_p41 : lw_okq (⟨"ActorTreesModel", "deals", "(III)V"⟩, 22) := ⟨⟨by decide +kernel, by decide +kernel⟩, List.mem_of_getElem? (i := 714) (by decide +kernel), List.mem_of_getElem? (i := 941) (by decide +kernel), List.mem_of_getElem? (i := 942) (by decide +kernel)⟩
theorem lw_p42 : lw_okq (⟨"ActorTreesModel", "fails", "(II)V"⟩, 22) := ⟨⟨by decide +kernel, by decide +kernel⟩, List.mem_of_getElem? (i := 714) (by decide +kernel), List.mem_of_getElem? (i := 945) (by decide +kernel), List.mem_of_getElem? (i := 946) (by decide +kernel)⟩
theorem lw_p43 : lw_okq (⟨"ActorTreesModel", "isOverBudget", "(I)Z"⟩, 22) := ⟨⟨by decide +kernel, by decide +kernel⟩, List.mem_of_getElem? (i := 714) (by decide +kernel), List.mem_of_getElem? (i := 949) (by decide +kernel), List.mem_of_getElem? (i := 950) (by decide +kernel)⟩
theorem lw_p44 : lw_okq (⟨"ActorTreesModel", "restarts", "(I)V"⟩, 22) := ⟨⟨by decide +kernel, by decide +kernel⟩, List.mem_of_getElem? (i := 714) (by decide +kernel), List.mem_of_getElem? (i := 953) (by decide +kernel), List.mem_of_getElem? (i := 954) (by decide +kernel)⟩
theorem lw_p45 : lw_okq (⟨"ActorTreesModel", "comesBack", "(I)V"⟩, 22) := ⟨⟨by decide +kernel, by decide +kernel⟩, List.mem_of_getElem? (i := 714) (by decide +kernel), List.mem_of_getElem? (i := 957) (by decide +kernel), List.mem_of_getElem? (i := 958) (by decide +kernel)⟩
theorem lw_p46 : lw_okq (⟨"ActorTreesModel", "pass", "(IIZ)V"⟩, 22) := ⟨⟨by decide +kernel, by decide +kernel⟩, List.mem_of_getElem? (i := 714) (by decide +kernel), List.mem_of_getElem? (i := 961) (by decide +kernel), List.mem_of_getElem? (i := 962) (by decide +kernel)⟩
theorem lw_p47 : lw_okq (⟨"ActorTreesModel", "holds", "(III)V"⟩, 22) := ⟨⟨by decide +kernel, by decide +kernel⟩, List.mem_of_getElem? (i := 714) (by decide +kernel), List.mem_of_getElem? (i := 965) (by decide +kernel), List.mem_of_getElem? (i := 966) (by decide +kernel)⟩
def lw_privs_3 : List (MethodName × Nat) := [(⟨"ActorTreesModel", "isLiveChild", "(II)Z"⟩, 22), (⟨"ActorTreesModel", "forgets", "(I)V"⟩, 22), (⟨"ActorTreesModel", "unwatches", "(I)V"⟩, 22), (⟨"ActorTreesModel", "runs", "(I)I"⟩, 22), (⟨"ActorTreesModel", "isEnd", "(II)Z"⟩, 22), (⟨"ActorTreesModel", "hasStep", "()Z"⟩, 22), (⟨"ActorTreesModel", "nextActor", "()I"⟩, 22), (⟨"ActorTreesModel", "step", "()V"⟩, 22), (⟨"ActorTreesModel", "logs", "(II)V"⟩, 22), (⟨"ActorTreesModel", "deals", "(III)V"⟩, 22), (⟨"ActorTreesModel", "fails", "(II)V"⟩, 22), (⟨"ActorTreesModel", "isOverBudget", "(I)Z"⟩, 22), (⟨"ActorTreesModel", "restarts", "(I)V"⟩, 22), (⟨"ActorTreesModel", "comesBack", "(I)V"⟩, 22), (⟨"ActorTreesModel", "pass", "(IIZ)V"⟩, 22), (⟨"ActorTreesModel", "holds", "(III)V"⟩, 22)]
theorem lw_r3 : ∀ q ∈ lw_privs_3, lw_okq q := List.forall_mem_cons.mpr ⟨lw_p32, List.forall_mem_cons.mpr ⟨lw_p33, List.forall_mem_cons.mpr ⟨lw_p34, List.forall_mem_cons.mpr ⟨lw_p35, List.forall_mem_cons.mpr ⟨lw_p36, List.forall_mem_cons.mpr ⟨lw_p37, List.forall_mem_cons.mpr ⟨lw_p38, List.forall_mem_cons.mpr ⟨lw_p39, List.forall_mem_cons.mpr ⟨lw_p40, List.forall_mem_cons.mpr ⟨lw_p41, List.forall_mem_cons.mpr ⟨lw_p42, List.forall_mem_cons.mpr ⟨lw_p43, List.forall_mem_cons.mpr ⟨lw_p44, List.forall_mem_cons.mpr ⟨lw_p45, List.forall_mem_cons.mpr ⟨lw_p46, List.forall_mem_cons.mpr ⟨lw_p47, fun _ h => absurd h List.not_mem_nil⟩⟩⟩⟩⟩⟩⟩⟩⟩⟩⟩⟩⟩⟩⟩⟩
theorem lw_p48 : lw_okq (⟨"ActorTreesModel", "switches", "(II)V"⟩, 22) := ⟨⟨by decide +kernel, by decide +kernel⟩, List.mem_of_getElem? (i := 714) (by decide +kernel), List.mem_of_getElem? (i := 969) (by decide +kernel), List.mem_of_getElem? (i := 970) (by decide +kernel)⟩
theorem lw_p49 : lw_okq (⟨"ActorTreesModel", "delays", "(II)V"⟩, 22) := ⟨⟨by decide +kernel, by decide +kernel⟩, List.mem_of_getElem? (i := 714) (by decide +kernel), List.mem_of_getElem? (i := 973) (by decide +kernel), List.mem_of_getElem? (i := 974) (by decide +kernel)⟩
theorem lw_p50 : lw_okq (⟨"ActorTreesModel", "watches", "(II)V"⟩, 22) := ⟨⟨by decide +kernel, by decide +kernel⟩, List.mem_of_getElem? (i := 714) (by decide +kernel), List.mem_of_getElem? (i := 977) (by decide +kernel), List.mem_of_getElem? (i := 978) (by decide +kernel)⟩
theorem lw_p51 : lw_okq (⟨"ActorTreesModel", "firstTimer", "()I"⟩, 22) := ⟨⟨by decide +kernel, by decide +kernel⟩, List.mem_of_getElem? (i := 714) (by decide +kernel), List.mem_of_getElem? (i := 981) (by decide +kernel), List.mem_of_getElem? (i := 982) (by decide +kernel)⟩
theorem lw_p52 : lw_okq (⟨"ActorTreesModel", "isNext", "(II)Z"⟩, 22) := ⟨⟨by decide +kernel, by decide +kernel⟩, List.mem_of_getElem? (i := 714) (by decide +kernel), List.mem_of_getElem? (i := 1024) (by decide +kernel), List.mem_of_getElem? (i := 1025) (by decide +kernel)⟩
theorem lw_p53 : lw_okq (⟨"ActorTreesModel", "isForm", "()Z"⟩, 22) := ⟨⟨by decide +kernel, by decide +kernel⟩, List.mem_of_getElem? (i := 714) (by decide +kernel), List.mem_of_getElem? (i := 1036) (by decide +kernel), List.mem_of_getElem? (i := 1037) (by decide +kernel)⟩
theorem lw_p54 : lw_okq (⟨"ActorTreesModel", "line", "()I"⟩, 22) := ⟨⟨by decide +kernel, by decide +kernel⟩, List.mem_of_getElem? (i := 714) (by decide +kernel), List.mem_of_getElem? (i := 1040) (by decide +kernel), List.mem_of_getElem? (i := 1041) (by decide +kernel)⟩
theorem lw_p55 : lw_okq (⟨"ActorTreesModel", "sees", "(II)Z"⟩, 22) := ⟨⟨by decide +kernel, by decide +kernel⟩, List.mem_of_getElem? (i := 714) (by decide +kernel), List.mem_of_getElem? (i := 1044) (by decide +kernel), List.mem_of_getElem? (i := 1045) (by decide +kernel)⟩
theorem lw_p56 : lw_okq (⟨"ActorTreesModel", "must", "(II)I"⟩, 22) := ⟨⟨by decide +kernel, by decide +kernel⟩, List.mem_of_getElem? (i := 714) (by decide +kernel), List.mem_of_getElem? (i := 1048) (by decide +kernel), List.mem_of_getElem? (i := 1049) (by decide +kernel)⟩
theorem lw_p57 : lw_okq (⟨"ActorTreesModel", "number", "(Z)I"⟩, 22) := ⟨⟨by decide +kernel, by decide +kernel⟩, List.mem_of_getElem? (i := 714) (by decide +kernel), List.mem_of_getElem? (i := 1052) (by decide +kernel), List.mem_of_getElem? (i := 1053) (by decide +kernel)⟩
theorem lw_p58 : lw_okq (⟨"ActorTreesModel", "does", "(I)Z"⟩, 22) := ⟨⟨by decide +kernel, by decide +kernel⟩, List.mem_of_getElem? (i := 714) (by decide +kernel), List.mem_of_getElem? (i := 1056) (by decide +kernel), List.mem_of_getElem? (i := 1057) (by decide +kernel)⟩
theorem lw_p59 : lw_okq (⟨"ActorTreesModel", "isHandle", "(I)Z"⟩, 22) := ⟨⟨by decide +kernel, by decide +kernel⟩, List.mem_of_getElem? (i := 714) (by decide +kernel), List.mem_of_getElem? (i := 1075) (by decide +kernel), List.mem_of_getElem? (i := 1076) (by decide +kernel)⟩
theorem lw_p60 : lw_okq (⟨"ActorTreesModel", "ordered", "(II)I"⟩, 22) := ⟨⟨by decide +kernel, by decide +kernel⟩, List.mem_of_getElem? (i := 714) (by decide +kernel), List.mem_of_getElem? (i := 1079) (by decide +kernel), List.mem_of_getElem? (i := 1080) (by decide +kernel)⟩
def lw_privs_4 : List (MethodName × Nat) := [(⟨"ActorTreesModel", "switches", "(II)V"⟩, 22), (⟨"ActorTreesModel", "delays", "(II)V"⟩, 22), (⟨"ActorTreesModel", "watches", "(II)V"⟩, 22), (⟨"ActorTreesModel", "firstTimer", "()I"⟩, 22), (⟨"ActorTreesModel", "isNext", "(II)Z"⟩, 22), (⟨"ActorTreesModel", "isForm", "()Z"⟩, 22), (⟨"ActorTreesModel", "line", "()I"⟩, 22), (⟨"ActorTreesModel", "sees", "(II)Z"⟩, 22), (⟨"ActorTreesModel", "must", "(II)I"⟩, 22), (⟨"ActorTreesModel", "number", "(Z)I"⟩, 22), (⟨"ActorTreesModel", "does", "(I)Z"⟩, 22), (⟨"ActorTreesModel", "isHandle", "(I)Z"⟩, 22), (⟨"ActorTreesModel", "ordered", "(II)I"⟩, 22)]
theorem lw_r4 : ∀ q ∈ lw_privs_4, lw_okq q := List.forall_mem_cons.mpr ⟨lw_p48, List.forall_mem_cons.mpr ⟨lw_p49, List.forall_mem_cons.mpr ⟨lw_p50, List.forall_mem_cons.mpr ⟨lw_p51, List.forall_mem_cons.mpr ⟨lw_p52, List.forall_mem_cons.mpr ⟨lw_p53, List.forall_mem_cons.mpr ⟨lw_p54, List.forall_mem_cons.mpr ⟨lw_p55, List.forall_mem_cons.mpr ⟨lw_p56, List.forall_mem_cons.mpr ⟨lw_p57, List.forall_mem_cons.mpr ⟨lw_p58, List.forall_mem_cons.mpr ⟨lw_p59, List.forall_mem_cons.mpr ⟨lw_p60, fun _ h => absurd h List.not_mem_nil⟩⟩⟩⟩⟩⟩⟩⟩⟩⟩⟩⟩⟩
def lw_privs : List (MethodName × Nat) := lw_privs_1 ++ (lw_privs_2 ++ (lw_privs_3 ++ (lw_privs_4)))
def lw_tbl : List Cond := k2_sels lw_privs ++ tables_1
theorem lw_privs_ok : ∀ q ∈ lw_privs, lw_okq q := by
  show ∀ q ∈ lw_privs_1 ++ (lw_privs_2 ++ (lw_privs_3 ++ (lw_privs_4))), lw_okq q
  exact List.forall_mem_append.mpr ⟨lw_r1, List.forall_mem_append.mpr ⟨lw_r2, List.forall_mem_append.mpr ⟨lw_r3, lw_r4⟩⟩⟩
-- ===== end of PART A; then your names; then what follows =====
/-! ===== BEGIN words of one list among another's, by their places ===== -/
theorem goodIn_r {big : List Cond} (ws : List Cond) (ps : List Nat) (hp : ws = ps.filterMap (fun i => big[i]?)) (h : ws.all goodWord = true) : GoodIn big ws := by
  intro w hw
  have h1 := List.all_eq_true.mp h w hw
  rw [hp] at hw
  obtain ⟨i, -, hi⟩ := List.mem_filterMap.mp hw
  have hm : w ∈ big := by first | exact List.mem_of_getElem? hi | exact List.getElem?_mem hi
  exact ⟨hm, good_of_word h1⟩
theorem goodIn_app {big a b : List Cond} (ha : GoodIn big a) (hb : GoodIn big b) : GoodIn big (a ++ b) := fun w h => (List.mem_append.mp h).elim (ha w) (hb w)
theorem goodIn_ca {big a b : List Cond} {c : Cond} (ha : GoodIn big (c :: a)) (hb : GoodIn big b) : GoodIn big (c :: (a ++ b)) := fun w h => (List.mem_cons.mp h).elim (fun e => ha w (List.mem_cons.mpr (Or.inl e))) (fun h => (List.mem_append.mp h).elim (fun h => ha w (List.mem_cons.mpr (Or.inr h))) (hb w))
theorem goodIn_sub {big ws : List Cond} (hm : ∀ w ∈ ws, w ∈ big) (h : ws.all goodWord = true) : GoodIn big ws := fun w hw => ⟨hm w hw, good_of_word (List.all_eq_true.mp h w hw)⟩
/-! ===== END ===== -/

/-! ===== BEGIN new T[n][m]: the outer array a place, the inner ones among the pooled ===== -/
/-- f, but v at every address of l -/
def vr_up {α : Type} (f : Nat → α) (l : List Nat) (v : α) : Nat → α := fun a => if a ∈ l then v else f a
theorem vr_up_in {α : Type} {f : Nat → α} {l : List Nat} {v : α} {a : Nat} (h : a ∈ l) : vr_up f l v a = v := if_pos h
theorem vr_up_ne {α : Type} {f : Nat → α} {l : List Nat} {v : α} {a : Nat} (h : a ∉ l) : vr_up f l v a = f a := if_neg h
theorem vr_rows {L l : List Nat} {f : Nat → va_E} {e : va_E} (h : ∀ a, a ∈ l → a ∉ L) : va_pl L f ++ l.map (fun a => (a, e)) = va_pl (L ++ l) (vr_up f l e) := by
  unfold va_pl
  rw [List.map_append]
  congr 1
  · apply List.map_congr_left
    intro a ha
    rw [vr_up_ne (fun q => h a q ha)]
  · apply List.map_congr_left
    intro a ha
    rw [vr_up_in ha]
theorem vr_lay {X rows : va_W} {x : Nat × va_E} {pl : va_W} {D : va_G} {cl : List vw_C} {H : Heap} (hP : va_P D cl (((X ++ pl) ++ [x]) ++ rows) H) : va_P D cl ((X ++ [x]) ++ (pl ++ rows)) H := by
  rw [List.append_assoc (X ++ pl)] at hP
  have h := va_P.swap hP
  rw [← List.append_assoc X] at h
  have h2 := va_P.swap h
  rw [List.append_assoc (X ++ [x])] at h2
  exact h2
theorem vr_layD {X rows : va_W} {x : Nat × va_E} {pl : va_W} {A : Nat → Prop} (hD : va_D A (((X ++ pl) ++ [x]) ++ rows)) : va_D A ((X ++ [x]) ++ (pl ++ rows)) := by
  rw [List.append_assoc (X ++ pl)] at hD
  have h := va_D.swap hD
  rw [← List.append_assoc X] at h
  have h2 := va_D.swap h
  rw [List.append_assoc (X ++ [x])] at h2
  exact h2
theorem vr_outer (c : ClassId) (N h0 : Nat) : ∀ i : Nat, Jvm.Free.Multi.outerC c N h0 i = arrV c N (fun j => va_rf (if j < i then some (h0 + 1 + j) else none))
  | 0 => by
    show ({ cls := c, slots := Array.replicate N .null, vm := .none } : Cell) = _
    rw [arrV_new]
    refine congrArg (arrV c N) (funext fun j => ?_)
    simp [va_rf]
  | i + 1 => by
    show (Jvm.Free.Multi.outerC c N h0 i).setSlot i (.ref (h0 + 1 + i)) = _
    rw [vr_outer c N h0 i, arrV_store]
    refine congrArg (arrV c N) (funext fun j => ?_)
    by_cases e : j = i
    · subst e
      simp [updV, va_rf]
    · by_cases h : j < i
      · simp [updV, e, h, Nat.lt_succ_of_lt h]
      · simp [updV, e, h, show ¬ j < i + 1 by omega]

/-! ===== END ===== -/

/-! ===== BEGIN printed: names, fields, word lists, decode rows ===== -/
def RX0 : String := "ActorTrees$Actor"
def TX0 : u_T := fun k => match k with
  | 0 => ("ActorTrees$Actor", "parent", "I", false)
  | 1 => ("ActorTrees$Actor", "own", "I", false)
  | 2 => ("ActorTrees$Actor", "strategy", "I", false)
  | 3 => ("ActorTrees$Actor", "budget", "I", false)
  | 4 => ("ActorTrees$Actor", "window", "I", false)
  | 5 => ("ActorTrees$Actor", "count", "I", false)
  | 6 => ("ActorTrees$Actor", "live", "Z", false)
  | 7 => ("ActorTrees$Actor", "stack", "LActorTrees$Numbers;", true)
  | 8 => ("ActorTrees$Actor", "mailbox", "LActorTrees$Pairs;", true)
  | 9 => ("ActorTrees$Actor", "stash", "LActorTrees$Pairs;", true)
  | 10 => ("ActorTrees$Actor", "watchers", "LActorTrees$Numbers;", true)
  | _ => ("ActorTrees$Actor", "notes", "LActorTrees$Numbers;", true)
def tyX0 : Nat → FieldType := fun k => match k with
  | 0 => .int
  | 1 => .int
  | 2 => .int
  | 3 => .int
  | 4 => .int
  | 5 => .int
  | 6 => .boolean
  | 7 => .object "ActorTrees$Numbers"
  | 8 => .object "ActorTrees$Pairs"
  | 9 => .object "ActorTrees$Pairs"
  | 10 => .object "ActorTrees$Numbers"
  | _ => .object "ActorTrees$Numbers"
abbrev wsX00 : List Cond := u_ws RX0 TX0 12
theorem nmX0 : ∀ a, a < 12 → ∀ b, b < 12 → a ≠ b → (TX0 a).2.1 ≠ (TX0 b).2.1 := by decide +kernel
theorem tyX0_ok : ∀ k, k < 12 → parseFieldDescriptor (TX0 k).2.2.1 = some (tyX0 k) := by decide +kernel
abbrev cX0_init : ByteArray := prog_2_method_1_code
def yX0_init : MethodName := ⟨RX0, "<init>", "()V"⟩
abbrev cX0_begin : ByteArray := prog_2_method_2_code
def yX0_begin : MethodName := ⟨RX0, "begin", "(II)V"⟩
abbrev cX0_keepOwnOnly : ByteArray := prog_2_method_3_code
def yX0_keepOwnOnly : MethodName := ⟨RX0, "keepOwnOnly", "()V"⟩
abbrev cX0_copyFrom : ByteArray := prog_2_method_4_code
def yX0_copyFrom : MethodName := ⟨RX0, "copyFrom", "(LActorTrees$Actor;)V"⟩
def RX1 : String := "ActorTrees$Handle"
def TX1 : u_T := fun k => match k with
  | 0 => ("ActorTrees$Handle", "items", "LActorTrees$Numbers;", true)
  | 1 => ("ActorTrees$Handle", "sort", "I", false)
  | _ => ("ActorTrees$Handle", "actor", "I", false)
def tyX1 : Nat → FieldType := fun k => match k with
  | 0 => .object "ActorTrees$Numbers"
  | 1 => .int
  | _ => .int
abbrev wsX10 : List Cond := u_ws RX1 TX1 3
theorem nmX1 : ∀ a, a < 3 → ∀ b, b < 3 → a ≠ b → (TX1 a).2.1 ≠ (TX1 b).2.1 := by decide +kernel
theorem tyX1_ok : ∀ k, k < 3 → parseFieldDescriptor (TX1 k).2.2.1 = some (tyX1 k) := by decide +kernel
abbrev cX1_init : ByteArray := prog_3_method_1_code
def yX1_init : MethodName := ⟨RX1, "<init>", "()V"⟩
def RX2 : String := "ActorTrees$Numbers"
def TX2 : u_T := fun k => match k with
  | 0 => ("ActorTrees$Numbers", "items", "[I", true)
  | _ => ("ActorTrees$Numbers", "size", "I", false)
def tyX2 : Nat → FieldType := fun k => match k with
  | 0 => .array .int
  | _ => .int
abbrev wsX20 : List Cond := u_ws RX2 TX2 2
theorem nmX2 : ∀ a, a < 2 → ∀ b, b < 2 → a ≠ b → (TX2 a).2.1 ≠ (TX2 b).2.1 := by decide +kernel
theorem tyX2_ok : ∀ k, k < 2 → parseFieldDescriptor (TX2 k).2.2.1 = some (tyX2 k) := by decide +kernel
abbrev cX2_init : ByteArray := prog_4_method_1_code
def yX2_init : MethodName := ⟨RX2, "<init>", "(I)V"⟩
abbrev cX2_at : ByteArray := prog_4_method_2_code
def yX2_at : MethodName := ⟨RX2, "at", "(I)I"⟩
abbrev cX2_change : ByteArray := prog_4_method_3_code
def yX2_change : MethodName := ⟨RX2, "change", "(II)V"⟩
abbrev cX2_add : ByteArray := prog_4_method_4_code
def yX2_add : MethodName := ⟨RX2, "add", "(I)Z"⟩
abbrev cX2_has : ByteArray := prog_4_method_5_code
def yX2_has : MethodName := ⟨RX2, "has", "(I)Z"⟩
abbrev cX2_remove : ByteArray := prog_4_method_6_code
def yX2_remove : MethodName := ⟨RX2, "remove", "(I)V"⟩
abbrev cX2_removeBelow : ByteArray := prog_4_method_7_code
def yX2_removeBelow : MethodName := ⟨RX2, "removeBelow", "(I)V"⟩
abbrev cX2_countFrom : ByteArray := prog_4_method_8_code
def yX2_countFrom : MethodName := ⟨RX2, "countFrom", "(I)I"⟩
abbrev cX2_fillWithZeros : ByteArray := prog_4_method_9_code
def yX2_fillWithZeros : MethodName := ⟨RX2, "fillWithZeros", "(I)V"⟩
abbrev cX2_copyFrom : ByteArray := prog_4_method_10_code
def yX2_copyFrom : MethodName := ⟨RX2, "copyFrom", "(LActorTrees$Numbers;)V"⟩
def RX3 : String := "ActorTrees$Pairs"
def TX3 : u_T := fun k => match k with
  | 0 => ("ActorTrees$Pairs", "firsts", "[I", true)
  | 1 => ("ActorTrees$Pairs", "seconds", "[I", true)
  | _ => ("ActorTrees$Pairs", "size", "I", false)
def tyX3 : Nat → FieldType := fun k => match k with
  | 0 => .array .int
  | 1 => .array .int
  | _ => .int
abbrev wsX30 : List Cond := u_ws RX3 TX3 3
theorem nmX3 : ∀ a, a < 3 → ∀ b, b < 3 → a ≠ b → (TX3 a).2.1 ≠ (TX3 b).2.1 := by decide +kernel
theorem tyX3_ok : ∀ k, k < 3 → parseFieldDescriptor (TX3 k).2.2.1 = some (tyX3 k) := by decide +kernel
abbrev cX3_init : ByteArray := prog_5_method_1_code
def yX3_init : MethodName := ⟨RX3, "<init>", "(I)V"⟩
abbrev cX3_firstAt : ByteArray := prog_5_method_2_code
def yX3_firstAt : MethodName := ⟨RX3, "firstAt", "(I)I"⟩
abbrev cX3_secondAt : ByteArray := prog_5_method_3_code
def yX3_secondAt : MethodName := ⟨RX3, "secondAt", "(I)I"⟩
abbrev cX3_add : ByteArray := prog_5_method_4_code
def yX3_add : MethodName := ⟨RX3, "add", "(II)Z"⟩
abbrev cX3_addDroppingOldest : ByteArray := prog_5_method_5_code
def yX3_addDroppingOldest : MethodName := ⟨RX3, "addDroppingOldest", "(II)V"⟩
abbrev cX3_removeFirst : ByteArray := prog_5_method_6_code
def yX3_removeFirst : MethodName := ⟨RX3, "removeFirst", "()V"⟩
abbrev cX3_putAhead : ByteArray := prog_5_method_7_code
def yX3_putAhead : MethodName := ⟨RX3, "putAhead", "(LActorTrees$Pairs;)I"⟩
abbrev cX3_copyFrom : ByteArray := prog_5_method_8_code
def yX3_copyFrom : MethodName := ⟨RX3, "copyFrom", "(LActorTrees$Pairs;)V"⟩
def RX4 : String := "ActorTrees$Tape"
def TX4 : u_T := fun k => match k with
  | 0 => ("ActorTrees$Tape", "bytes", "LActorTrees$Numbers;", true)
  | 1 => ("ActorTrees$Tape", "numbers", "LActorTrees$Numbers;", true)
  | 2 => ("ActorTrees$Tape", "kind", "I", false)
  | _ => ("ActorTrees$Tape", "place", "I", false)
def tyX4 : Nat → FieldType := fun k => match k with
  | 0 => .object "ActorTrees$Numbers"
  | 1 => .object "ActorTrees$Numbers"
  | 2 => .int
  | _ => .int
abbrev wsX40 : List Cond := u_ws RX4 TX4 4
theorem nmX4 : ∀ a, a < 4 → ∀ b, b < 4 → a ≠ b → (TX4 a).2.1 ≠ (TX4 b).2.1 := by decide +kernel
theorem tyX4_ok : ∀ k, k < 4 → parseFieldDescriptor (TX4 k).2.2.1 = some (tyX4 k) := by decide +kernel
abbrev cX4_init : ByteArray := prog_6_method_1_code
def yX4_init : MethodName := ⟨RX4, "<init>", "()V"⟩
abbrev cX4_isRead : ByteArray := prog_6_method_2_code
def yX4_isRead : MethodName := ⟨RX4, "isRead", "()Z"⟩
abbrev cX4_faultOfForm : ByteArray := prog_6_method_3_code
def yX4_faultOfForm : MethodName := ⟨RX4, "faultOfForm", "()I"⟩
abbrev cX4_readLine : ByteArray := prog_6_method_4_code
def yX4_readLine : MethodName := ⟨RX4, "readLine", "()Z"⟩
abbrev cX4_readNumber : ByteArray := prog_6_method_5_code
def yX4_readNumber : MethodName := ⟨RX4, "readNumber", "(Z)Z"⟩
abbrev cX4_isNext : ByteArray := prog_6_method_6_code
def yX4_isNext : MethodName := ⟨RX4, "isNext", "(C)Z"⟩
abbrev cX4_isDigitNext : ByteArray := prog_6_method_7_code
def yX4_isDigitNext : MethodName := ⟨RX4, "isDigitNext", "()Z"⟩
def RX5 : String := "ActorTrees$Timers"
def TX5 : u_T := fun k => match k with
  | 0 => ("ActorTrees$Timers", "owners", "[I", true)
  | 1 => ("ActorTrees$Timers", "dues", "[I", true)
  | 2 => ("ActorTrees$Timers", "numbers", "[I", true)
  | _ => ("ActorTrees$Timers", "size", "I", false)
def tyX5 : Nat → FieldType := fun k => match k with
  | 0 => .array .int
  | 1 => .array .int
  | 2 => .array .int
  | _ => .int
abbrev wsX50 : List Cond := u_ws RX5 TX5 4
theorem nmX5 : ∀ a, a < 4 → ∀ b, b < 4 → a ≠ b → (TX5 a).2.1 ≠ (TX5 b).2.1 := by decide +kernel
theorem tyX5_ok : ∀ k, k < 4 → parseFieldDescriptor (TX5 k).2.2.1 = some (tyX5 k) := by decide +kernel
abbrev cX5_init : ByteArray := prog_7_method_1_code
def yX5_init : MethodName := ⟨RX5, "<init>", "()V"⟩
abbrev cX5_ownerAt : ByteArray := prog_7_method_2_code
def yX5_ownerAt : MethodName := ⟨RX5, "ownerAt", "(I)I"⟩
abbrev cX5_dueAt : ByteArray := prog_7_method_3_code
def yX5_dueAt : MethodName := ⟨RX5, "dueAt", "(I)I"⟩
abbrev cX5_numberAt : ByteArray := prog_7_method_4_code
def yX5_numberAt : MethodName := ⟨RX5, "numberAt", "(I)I"⟩
abbrev cX5_countOf : ByteArray := prog_7_method_5_code
def yX5_countOf : MethodName := ⟨RX5, "countOf", "(I)I"⟩
abbrev cX5_set : ByteArray := prog_7_method_6_code
def yX5_set : MethodName := ⟨RX5, "set", "(III)V"⟩
abbrev cX5_removeOf : ByteArray := prog_7_method_7_code
def yX5_removeOf : MethodName := ⟨RX5, "removeOf", "(I)V"⟩
abbrev cX5_removeFirst : ByteArray := prog_7_method_8_code
def yX5_removeFirst : MethodName := ⟨RX5, "removeFirst", "()V"⟩
abbrev cX5_move : ByteArray := prog_7_method_9_code
def yX5_move : MethodName := ⟨RX5, "move", "(II)V"⟩
abbrev cX5_copyFrom : ByteArray := prog_7_method_10_code
def yX5_copyFrom : MethodName := ⟨RX5, "copyFrom", "(LActorTrees$Timers;)V"⟩
def RX6 : String := "ActorTrees$World"
def TX6 : u_T := fun k => match k with
  | 0 => ("ActorTrees$World", "actors", "[LActorTrees$Actor;", true)
  | 1 => ("ActorTrees$World", "timers", "LActorTrees$Timers;", true)
  | 2 => ("ActorTrees$World", "dealt", "LActorTrees$Pairs;", true)
  | 3 => ("ActorTrees$World", "causes", "LActorTrees$Pairs;", true)
  | 4 => ("ActorTrees$World", "came", "I", false)
  | 5 => ("ActorTrees$World", "latest", "I", false)
  | 6 => ("ActorTrees$World", "time", "I", false)
  | 7 => ("ActorTrees$World", "clock", "I", false)
  | 8 => ("ActorTrees$World", "deadLetters", "I", false)
  | 9 => ("ActorTrees$World", "seed", "I", false)
  | 10 => ("ActorTrees$World", "ended", "I", false)
  | 11 => ("ActorTrees$World", "hasFailed", "Z", false)
  | _ => ("ActorTrees$World", "restarted", "I", false)
def tyX6 : Nat → FieldType := fun k => match k with
  | 0 => .array (.object "ActorTrees$Actor")
  | 1 => .object "ActorTrees$Timers"
  | 2 => .object "ActorTrees$Pairs"
  | 3 => .object "ActorTrees$Pairs"
  | 4 => .int
  | 5 => .int
  | 6 => .int
  | 7 => .int
  | 8 => .int
  | 9 => .int
  | 10 => .int
  | 11 => .boolean
  | _ => .int
abbrev wsX60 : List Cond := u_ws RX6 TX6 13
theorem nmX6 : ∀ a, a < 13 → ∀ b, b < 13 → a ≠ b → (TX6 a).2.1 ≠ (TX6 b).2.1 := by decide +kernel
theorem tyX6_ok : ∀ k, k < 13 → parseFieldDescriptor (TX6 k).2.2.1 = some (tyX6 k) := by decide +kernel
abbrev cX6_init : ByteArray := prog_8_method_1_code
def yX6_init : MethodName := ⟨RX6, "<init>", "()V"⟩
abbrev cX6_copyFrom : ByteArray := prog_8_method_2_code
def yX6_copyFrom : MethodName := ⟨RX6, "copyFrom", "(LActorTrees$World;)V"⟩
abbrev cX6_isActor : ByteArray := prog_8_method_3_code
def yX6_isActor : MethodName := ⟨RX6, "isActor", "(I)Z"⟩
abbrev cX6_isLive : ByteArray := prog_8_method_4_code
def yX6_isLive : MethodName := ⟨RX6, "isLive", "(I)Z"⟩
abbrev cX6_isLiveChild : ByteArray := prog_8_method_5_code
def yX6_isLiveChild : MethodName := ⟨RX6, "isLiveChild", "(II)Z"⟩
abbrev cX6_childBits : ByteArray := prog_8_method_6_code
def yX6_childBits : MethodName := ⟨RX6, "childBits", "(I)I"⟩
abbrev cX6_liveBits : ByteArray := prog_8_method_7_code
def yX6_liveBits : MethodName := ⟨RX6, "liveBits", "()I"⟩
abbrev cX6_mailed : ByteArray := prog_8_method_8_code
def yX6_mailed : MethodName := ⟨RX6, "mailed", "()I"⟩
abbrev cX6_addActor : ByteArray := prog_8_method_9_code
def yX6_addActor : MethodName := ⟨RX6, "addActor", "(IIIII)I"⟩
abbrev cX6_send : ByteArray := prog_8_method_10_code
def yX6_send : MethodName := ⟨RX6, "send", "(III)Z"⟩
abbrev cX6_makeSteps : ByteArray := prog_8_method_11_code
def yX6_makeSteps : MethodName := ⟨RX6, "makeSteps", "(I)I"⟩
abbrev cX6_howItStands : ByteArray := prog_8_method_12_code
def yX6_howItStands : MethodName := ⟨RX6, "howItStands", "()I"⟩
abbrev cX6_hasStep : ByteArray := prog_8_method_13_code
def yX6_hasStep : MethodName := ⟨RX6, "hasStep", "()Z"⟩
abbrev cX6_nextDealer : ByteArray := prog_8_method_14_code
def yX6_nextDealer : MethodName := ⟨RX6, "nextDealer", "()I"⟩
abbrev cX6_step : ByteArray := prog_8_method_15_code
def yX6_step : MethodName := ⟨RX6, "step", "()Z"⟩
abbrev cX6_fireTimer : ByteArray := prog_8_method_16_code
def yX6_fireTimer : MethodName := ⟨RX6, "fireTimer", "()Z"⟩
abbrev cX6_deal : ByteArray := prog_8_method_17_code
def yX6_deal : MethodName := ⟨RX6, "deal", "(III)I"⟩
abbrev cX6_dealEarlier : ByteArray := prog_8_method_18_code
def yX6_dealEarlier : MethodName := ⟨RX6, "dealEarlier", "(IIII)I"⟩
abbrev cX6_dealLater : ByteArray := prog_8_method_19_code
def yX6_dealLater : MethodName := ⟨RX6, "dealLater", "(III)I"⟩
abbrev cX6_sendDown : ByteArray := prog_8_method_20_code
def yX6_sendDown : MethodName := ⟨RX6, "sendDown", "(III)V"⟩
abbrev cX6_unstash : ByteArray := prog_8_method_21_code
def yX6_unstash : MethodName := ⟨RX6, "unstash", "(LActorTrees$Actor;)V"⟩
abbrev cX6_watch : ByteArray := prog_8_method_22_code
def yX6_watch : MethodName := ⟨RX6, "watch", "(II)V"⟩
abbrev cX6_fail : ByteArray := prog_8_method_23_code
def yX6_fail : MethodName := ⟨RX6, "fail", "(II)V"⟩
abbrev cX6_isOverBudgetAbove : ByteArray := prog_8_method_24_code
def yX6_isOverBudgetAbove : MethodName := ⟨RX6, "isOverBudgetAbove", "(I)Z"⟩
abbrev cX6_isRestartedWith : ByteArray := prog_8_method_25_code
def yX6_isRestartedWith : MethodName := ⟨RX6, "isRestartedWith", "(II)Z"⟩
abbrev cX6_restart : ByteArray := prog_8_method_26_code
def yX6_restart : MethodName := ⟨RX6, "restart", "(I)V"⟩
abbrev cX6_halt : ByteArray := prog_8_method_27_code
def yX6_halt : MethodName := ⟨RX6, "halt", "(I)I"⟩
abbrev cX6_greatestLiveChild : ByteArray := prog_8_method_28_code
def yX6_greatestLiveChild : MethodName := ⟨RX6, "greatestLiveChild", "(I)I"⟩
def RX7 : String := "ActorTrees"
def TX7 : u_T := fun k => match k with
  | 0 => ("ActorTrees", "now", "LActorTrees$World;", true)
  | 1 => ("ActorTrees", "thought", "LActorTrees$World;", true)
  | 2 => ("ActorTrees", "kept", "LActorTrees$World;", true)
  | 3 => ("ActorTrees", "ahead", "LActorTrees$World;", true)
  | 4 => ("ActorTrees", "tape", "LActorTrees$Tape;", true)
  | 5 => ("ActorTrees", "handles", "[LActorTrees$Handle;", true)
  | _ => ("ActorTrees", "hasImage", "Z", false)
def tyX7 : Nat → FieldType := fun k => match k with
  | 0 => .object "ActorTrees$World"
  | 1 => .object "ActorTrees$World"
  | 2 => .object "ActorTrees$World"
  | 3 => .object "ActorTrees$World"
  | 4 => .object "ActorTrees$Tape"
  | 5 => .array (.object "ActorTrees$Handle")
  | _ => .boolean
abbrev wsX70 : List Cond := u_ws RX7 TX7 7
theorem nmX7 : ∀ a, a < 7 → ∀ b, b < 7 → a ≠ b → (TX7 a).2.1 ≠ (TX7 b).2.1 := by decide +kernel
theorem tyX7_ok : ∀ k, k < 7 → parseFieldDescriptor (TX7 k).2.2.1 = some (tyX7 k) := by decide +kernel
abbrev cX7_init : ByteArray := prog_1_method_1_code
def yX7_init : MethodName := ⟨RX7, "<init>", "()V"⟩
abbrev cX7_actor : ByteArray := prog_1_method_2_code
def yX7_actor : MethodName := ⟨RX7, "actor", "(III)I"⟩
abbrev cX7_tell : ByteArray := prog_1_method_3_code
def yX7_tell : MethodName := ⟨RX7, "tell", "(III)I"⟩
abbrev cX7_of : ByteArray := prog_1_method_4_code
def yX7_of : MethodName := ⟨RX7, "of", "(II)I"⟩
abbrev cX7_counted : ByteArray := prog_1_method_5_code
def yX7_counted : MethodName := ⟨RX7, "counted", "(I)I"⟩
abbrev cX7_message : ByteArray := prog_1_method_6_code
def yX7_message : MethodName := ⟨RX7, "message", "(IIZ)I"⟩
abbrev cX7_sender : ByteArray := prog_1_method_7_code
def yX7_sender : MethodName := ⟨RX7, "sender", "(IIZ)I"⟩
abbrev cX7_stack : ByteArray := prog_1_method_8_code
def yX7_stack : MethodName := ⟨RX7, "stack", "(II)I"⟩
abbrev cX7_watcher : ByteArray := prog_1_method_9_code
def yX7_watcher : MethodName := ⟨RX7, "watcher", "(II)I"⟩
abbrev cX7_timer : ByteArray := prog_1_method_10_code
def yX7_timer : MethodName := ⟨RX7, "timer", "(II)I"⟩
abbrev cX7_stop : ByteArray := prog_1_method_11_code
def yX7_stop : MethodName := ⟨RX7, "stop", "(I)I"⟩
abbrev cX7_run : ByteArray := prog_1_method_12_code
def yX7_run : MethodName := ⟨RX7, "run", "(I)I"⟩
abbrev cX7_ended : ByteArray := prog_1_method_13_code
def yX7_ended : MethodName := ⟨RX7, "ended", "()I"⟩
abbrev cX7_log : ByteArray := prog_1_method_14_code
def yX7_log : MethodName := ⟨RX7, "log", "(I)I"⟩
abbrev cX7_cause : ByteArray := prog_1_method_15_code
def yX7_cause : MethodName := ⟨RX7, "cause", "(II)I"⟩
abbrev cX7_dry : ByteArray := prog_1_method_16_code
def yX7_dry : MethodName := ⟨RX7, "dry", "(II)I"⟩
abbrev cX7_first : ByteArray := prog_1_method_17_code
def yX7_first : MethodName := ⟨RX7, "first", "()I"⟩
abbrev cX7_quiet : ByteArray := prog_1_method_18_code
def yX7_quiet : MethodName := ⟨RX7, "quiet", "()I"⟩
abbrev cX7_would : ByteArray := prog_1_method_19_code
def yX7_would : MethodName := ⟨RX7, "would", "(III)I"⟩
abbrev cX7_brings : ByteArray := prog_1_method_20_code
def yX7_brings : MethodName := ⟨RX7, "brings", "(II)I"⟩
abbrev cX7_reach : ByteArray := prog_1_method_21_code
def yX7_reach : MethodName := ⟨RX7, "reach", "(II)I"⟩
abbrev cX7_feed : ByteArray := prog_1_method_22_code
def yX7_feed : MethodName := ⟨RX7, "feed", "(I)I"⟩
abbrev cX7_script : ByteArray := prog_1_method_23_code
def yX7_script : MethodName := ⟨RX7, "script", "()I"⟩
abbrev cX7_drawn : ByteArray := prog_1_method_24_code
def yX7_drawn : MethodName := ⟨RX7, "drawn", "(I)I"⟩
abbrev cX7_seed : ByteArray := prog_1_method_25_code
def yX7_seed : MethodName := ⟨RX7, "seed", "(I)I"⟩
abbrev cX7_order : ByteArray := prog_1_method_26_code
def yX7_order : MethodName := ⟨RX7, "order", "(II)I"⟩
abbrev cX7_image : ByteArray := prog_1_method_27_code
def yX7_image : MethodName := ⟨RX7, "image", "()I"⟩
abbrev cX7_back : ByteArray := prog_1_method_28_code
def yX7_back : MethodName := ⟨RX7, "back", "()I"⟩
abbrev cX7_hold : ByteArray := prog_1_method_29_code
def yX7_hold : MethodName := ⟨RX7, "hold", "(II)I"⟩
abbrev cX7_row : ByteArray := prog_1_method_30_code
def yX7_row : MethodName := ⟨RX7, "row", "(II)I"⟩
abbrev cX7_put : ByteArray := prog_1_method_31_code
def yX7_put : MethodName := ⟨RX7, "put", "(III)I"⟩
abbrev cX7_tells : ByteArray := prog_1_method_32_code
def yX7_tells : MethodName := ⟨RX7, "tells", "(II)I"⟩
abbrev cX7_count : ByteArray := prog_1_method_33_code
def yX7_count : MethodName := ⟨RX7, "count", "(I)I"⟩
abbrev cX7_isNumber : ByteArray := prog_1_method_34_code
def yX7_isNumber : MethodName := ⟨RX7, "isNumber", "(I)Z"⟩
abbrev cX7_isSteps : ByteArray := prog_1_method_35_code
def yX7_isSteps : MethodName := ⟨RX7, "isSteps", "(I)Z"⟩
abbrev cX7_isHandle : ByteArray := prog_1_method_36_code
def yX7_isHandle : MethodName := ⟨RX7, "isHandle", "(I)Z"⟩
abbrev cX7_itemOf : ByteArray := prog_1_method_37_code
def yX7_itemOf : MethodName := ⟨RX7, "itemOf", "(LActorTrees$Numbers;I)I"⟩
abbrev cX7_doLineButSteps : ByteArray := prog_1_method_38_code
def yX7_doLineButSteps : MethodName := ⟨RX7, "doLineButSteps", "()I"⟩
abbrev cX7_firstOtherwise : ByteArray := prog_1_method_39_code
def yX7_firstOtherwise : MethodName := ⟨RX7, "firstOtherwise", "(LActorTrees$Numbers;I)I"⟩
def RX8 : String := "ActorTreesModel"
def TX8 : u_T := fun k => match k with
  | 0 => ("ActorTreesModel", "g", "[I", true)
  | 1 => ("ActorTreesModel", "saved", "[I", true)
  | 2 => ("ActorTreesModel", "whole", "[I", true)
  | 3 => ("ActorTreesModel", "kept", "[I", true)
  | 4 => ("ActorTreesModel", "isKept", "Z", false)
  | 5 => ("ActorTreesModel", "hasFailed", "Z", false)
  | 6 => ("ActorTreesModel", "restarted", "I", false)
  | 7 => ("ActorTreesModel", "dealt", "I", false)
  | 8 => ("ActorTreesModel", "chain", "[I", true)
  | 9 => ("ActorTreesModel", "chained", "I", false)
  | 10 => ("ActorTreesModel", "tape", "[I", true)
  | 11 => ("ActorTreesModel", "tapeMany", "I", false)
  | 12 => ("ActorTreesModel", "held", "[I", true)
  | 13 => ("ActorTreesModel", "heldActor", "[I", true)
  | 14 => ("ActorTreesModel", "rowSize", "[I", true)
  | 15 => ("ActorTreesModel", "rows", "[[I", true)
  | 16 => ("ActorTreesModel", "queue", "[I", true)
  | 17 => ("ActorTreesModel", "ways", "[I", true)
  | 18 => ("ActorTreesModel", "how", "I", false)
  | 19 => ("ActorTreesModel", "spot", "I", false)
  | 20 => ("ActorTreesModel", "fault", "I", false)
  | _ => ("ActorTreesModel", "told", "[I", true)
def tyX8 : Nat → FieldType := fun k => match k with
  | 0 => .array .int
  | 1 => .array .int
  | 2 => .array .int
  | 3 => .array .int
  | 4 => .boolean
  | 5 => .boolean
  | 6 => .int
  | 7 => .int
  | 8 => .array .int
  | 9 => .int
  | 10 => .array .int
  | 11 => .int
  | 12 => .array .int
  | 13 => .array .int
  | 14 => .array .int
  | 15 => .array (.array .int)
  | 16 => .array .int
  | 17 => .array .int
  | 18 => .int
  | 19 => .int
  | 20 => .int
  | _ => .array .int
abbrev wsX80 : List Cond := u_ws RX8 TX8 22
theorem nmX8 : ∀ a, a < 22 → ∀ b, b < 22 → a ≠ b → (TX8 a).2.1 ≠ (TX8 b).2.1 := by decide +kernel
theorem tyX8_ok : ∀ k, k < 22 → parseFieldDescriptor (TX8 k).2.2.1 = some (tyX8 k) := by decide +kernel
abbrev cX8_init : ByteArray := prog_10_method_1_code
def yX8_init : MethodName := ⟨RX8, "<init>", "()V"⟩
abbrev cX8_in : ByteArray := prog_10_method_2_code
def yX8_in : MethodName := ⟨RX8, "in", "(III)Z"⟩
abbrev cX8_take : ByteArray := prog_10_method_3_code
def yX8_take : MethodName := ⟨RX8, "take", "([I[I)V"⟩
abbrev cX8_at : ByteArray := prog_10_method_4_code
def yX8_at : MethodName := ⟨RX8, "at", "(II)I"⟩
abbrev cX8_sets : ByteArray := prog_10_method_5_code
def yX8_sets : MethodName := ⟨RX8, "sets", "(III)V"⟩
abbrev cX8_isActor : ByteArray := prog_10_method_6_code
def yX8_isActor : MethodName := ⟨RX8, "isActor", "(I)Z"⟩
abbrev cX8_isLive : ByteArray := prog_10_method_7_code
def yX8_isLive : MethodName := ⟨RX8, "isLive", "(I)Z"⟩
abbrev cX8_isLiveChild : ByteArray := prog_10_method_8_code
def yX8_isLiveChild : MethodName := ⟨RX8, "isLiveChild", "(II)Z"⟩
abbrev cX8_sends : ByteArray := prog_10_method_9_code
def yX8_sends : MethodName := ⟨RX8, "sends", "(III)Z"⟩
abbrev cX8_comesBack : ByteArray := prog_10_method_10_code
def yX8_comesBack : MethodName := ⟨RX8, "comesBack", "(I)V"⟩
abbrev cX8_forgets : ByteArray := prog_10_method_11_code
def yX8_forgets : MethodName := ⟨RX8, "forgets", "(I)V"⟩
abbrev cX8_unwatches : ByteArray := prog_10_method_12_code
def yX8_unwatches : MethodName := ⟨RX8, "unwatches", "(I)V"⟩
abbrev cX8_stopsChildren : ByteArray := prog_10_method_13_code
def yX8_stopsChildren : MethodName := ⟨RX8, "stopsChildren", "(I)V"⟩
abbrev cX8_stops : ByteArray := prog_10_method_14_code
def yX8_stops : MethodName := ⟨RX8, "stops", "(I)V"⟩
abbrev cX8_restarts : ByteArray := prog_10_method_15_code
def yX8_restarts : MethodName := ⟨RX8, "restarts", "(I)V"⟩
abbrev cX8_noted : ByteArray := prog_10_method_16_code
def yX8_noted : MethodName := ⟨RX8, "noted", "(IZ)I"⟩
abbrev cX8_isOverBudget : ByteArray := prog_10_method_17_code
def yX8_isOverBudget : MethodName := ⟨RX8, "isOverBudget", "(I)Z"⟩
abbrev cX8_fails : ByteArray := prog_10_method_18_code
def yX8_fails : MethodName := ⟨RX8, "fails", "(II)V"⟩
abbrev cX8_pass : ByteArray := prog_10_method_19_code
def yX8_pass : MethodName := ⟨RX8, "pass", "(IIZ)V"⟩
abbrev cX8_holds : ByteArray := prog_10_method_20_code
def yX8_holds : MethodName := ⟨RX8, "holds", "(III)V"⟩
abbrev cX8_switches : ByteArray := prog_10_method_21_code
def yX8_switches : MethodName := ⟨RX8, "switches", "(II)V"⟩
abbrev cX8_delays : ByteArray := prog_10_method_22_code
def yX8_delays : MethodName := ⟨RX8, "delays", "(II)V"⟩
abbrev cX8_watches : ByteArray := prog_10_method_23_code
def yX8_watches : MethodName := ⟨RX8, "watches", "(II)V"⟩
abbrev cX8_doing : ByteArray := prog_10_method_24_code
def yX8_doing : MethodName := ⟨RX8, "doing", "(I)I"⟩
abbrev cX8_deals : ByteArray := prog_10_method_25_code
def yX8_deals : MethodName := ⟨RX8, "deals", "(III)V"⟩
abbrev cX8_nextActor : ByteArray := prog_10_method_26_code
def yX8_nextActor : MethodName := ⟨RX8, "nextActor", "()I"⟩
abbrev cX8_firstTimer : ByteArray := prog_10_method_27_code
def yX8_firstTimer : MethodName := ⟨RX8, "firstTimer", "()I"⟩
abbrev cX8_hasStep : ByteArray := prog_10_method_28_code
def yX8_hasStep : MethodName := ⟨RX8, "hasStep", "()Z"⟩
abbrev cX8_toldAs : ByteArray := prog_10_method_29_code
def yX8_toldAs : MethodName := ⟨RX8, "toldAs", "(I)I"⟩
abbrev cX8_logs : ByteArray := prog_10_method_30_code
def yX8_logs : MethodName := ⟨RX8, "logs", "(II)V"⟩
abbrev cX8_step : ByteArray := prog_10_method_31_code
def yX8_step : MethodName := ⟨RX8, "step", "()V"⟩
abbrev cX8_isEnd : ByteArray := prog_10_method_32_code
def yX8_isEnd : MethodName := ⟨RX8, "isEnd", "(II)Z"⟩
abbrev cX8_runs : ByteArray := prog_10_method_33_code
def yX8_runs : MethodName := ⟨RX8, "runs", "(I)I"⟩
abbrev cX8_isRule : ByteArray := prog_10_method_34_code
def yX8_isRule : MethodName := ⟨RX8, "isRule", "(I)Z"⟩
abbrev cX8_canBe : ByteArray := prog_10_method_35_code
def yX8_canBe : MethodName := ⟨RX8, "canBe", "(III)I"⟩
abbrev cX8_actor : ByteArray := prog_10_method_36_code
def yX8_actor : MethodName := ⟨RX8, "actor", "(III)I"⟩
abbrev cX8_isNumber : ByteArray := prog_10_method_37_code
def yX8_isNumber : MethodName := ⟨RX8, "isNumber", "(I)Z"⟩
abbrev cX8_tell : ByteArray := prog_10_method_38_code
def yX8_tell : MethodName := ⟨RX8, "tell", "(III)I"⟩
abbrev cX8_timersOf : ByteArray := prog_10_method_39_code
def yX8_timersOf : MethodName := ⟨RX8, "timersOf", "(I)I"⟩
abbrev cX8_childrenOf : ByteArray := prog_10_method_40_code
def yX8_childrenOf : MethodName := ⟨RX8, "childrenOf", "(I)I"⟩
abbrev cX8_of : ByteArray := prog_10_method_41_code
def yX8_of : MethodName := ⟨RX8, "of", "(II)I"⟩
abbrev cX8_counted : ByteArray := prog_10_method_42_code
def yX8_counted : MethodName := ⟨RX8, "counted", "(I)I"⟩
abbrev cX8_messageAt : ByteArray := prog_10_method_43_code
def yX8_messageAt : MethodName := ⟨RX8, "messageAt", "(IIZ)I"⟩
abbrev cX8_message : ByteArray := prog_10_method_44_code
def yX8_message : MethodName := ⟨RX8, "message", "(IIZ)I"⟩
abbrev cX8_sender : ByteArray := prog_10_method_45_code
def yX8_sender : MethodName := ⟨RX8, "sender", "(IIZ)I"⟩
abbrev cX8_stack : ByteArray := prog_10_method_46_code
def yX8_stack : MethodName := ⟨RX8, "stack", "(II)I"⟩
abbrev cX8_watcher : ByteArray := prog_10_method_47_code
def yX8_watcher : MethodName := ⟨RX8, "watcher", "(II)I"⟩
abbrev cX8_timer : ByteArray := prog_10_method_48_code
def yX8_timer : MethodName := ⟨RX8, "timer", "(II)I"⟩
abbrev cX8_liveOnes : ByteArray := prog_10_method_49_code
def yX8_liveOnes : MethodName := ⟨RX8, "liveOnes", "()I"⟩
abbrev cX8_bits : ByteArray := prog_10_method_50_code
def yX8_bits : MethodName := ⟨RX8, "bits", "(I)I"⟩
abbrev cX8_stop : ByteArray := prog_10_method_51_code
def yX8_stop : MethodName := ⟨RX8, "stop", "(I)I"⟩
abbrev cX8_run : ByteArray := prog_10_method_52_code
def yX8_run : MethodName := ⟨RX8, "run", "(I)I"⟩
abbrev cX8_ended : ByteArray := prog_10_method_53_code
def yX8_ended : MethodName := ⟨RX8, "ended", "()I"⟩
abbrev cX8_log : ByteArray := prog_10_method_54_code
def yX8_log : MethodName := ⟨RX8, "log", "(I)I"⟩
abbrev cX8_cause : ByteArray := prog_10_method_55_code
def yX8_cause : MethodName := ⟨RX8, "cause", "(II)I"⟩
abbrev cX8_dry : ByteArray := prog_10_method_56_code
def yX8_dry : MethodName := ⟨RX8, "dry", "(II)I"⟩
abbrev cX8_first : ByteArray := prog_10_method_57_code
def yX8_first : MethodName := ⟨RX8, "first", "()I"⟩
abbrev cX8_quiet : ByteArray := prog_10_method_58_code
def yX8_quiet : MethodName := ⟨RX8, "quiet", "()I"⟩
abbrev cX8_would : ByteArray := prog_10_method_59_code
def yX8_would : MethodName := ⟨RX8, "would", "(III)I"⟩
abbrev cX8_brings : ByteArray := prog_10_method_60_code
def yX8_brings : MethodName := ⟨RX8, "brings", "(II)I"⟩
abbrev cX8_isNext : ByteArray := prog_10_method_61_code
def yX8_isNext : MethodName := ⟨RX8, "isNext", "(II)Z"⟩
abbrev cX8_reach : ByteArray := prog_10_method_62_code
def yX8_reach : MethodName := ⟨RX8, "reach", "(II)I"⟩
abbrev cX8_feed : ByteArray := prog_10_method_63_code
def yX8_feed : MethodName := ⟨RX8, "feed", "(I)I"⟩
abbrev cX8_sees : ByteArray := prog_10_method_64_code
def yX8_sees : MethodName := ⟨RX8, "sees", "(II)Z"⟩
abbrev cX8_must : ByteArray := prog_10_method_65_code
def yX8_must : MethodName := ⟨RX8, "must", "(II)I"⟩
abbrev cX8_number : ByteArray := prog_10_method_66_code
def yX8_number : MethodName := ⟨RX8, "number", "(Z)I"⟩
abbrev cX8_line : ByteArray := prog_10_method_67_code
def yX8_line : MethodName := ⟨RX8, "line", "()I"⟩
abbrev cX8_isForm : ByteArray := prog_10_method_68_code
def yX8_isForm : MethodName := ⟨RX8, "isForm", "()Z"⟩
abbrev cX8_does : ByteArray := prog_10_method_69_code
def yX8_does : MethodName := ⟨RX8, "does", "(I)Z"⟩
abbrev cX8_script : ByteArray := prog_10_method_70_code
def yX8_script : MethodName := ⟨RX8, "script", "()I"⟩
abbrev cX8_drawn : ByteArray := prog_10_method_71_code
def yX8_drawn : MethodName := ⟨RX8, "drawn", "(I)I"⟩
abbrev cX8_seed : ByteArray := prog_10_method_72_code
def yX8_seed : MethodName := ⟨RX8, "seed", "(I)I"⟩
abbrev cX8_ordered : ByteArray := prog_10_method_73_code
def yX8_ordered : MethodName := ⟨RX8, "ordered", "(II)I"⟩
abbrev cX8_isHandle : ByteArray := prog_10_method_74_code
def yX8_isHandle : MethodName := ⟨RX8, "isHandle", "(I)Z"⟩
abbrev cX8_order : ByteArray := prog_10_method_75_code
def yX8_order : MethodName := ⟨RX8, "order", "(II)I"⟩
abbrev cX8_image : ByteArray := prog_10_method_76_code
def yX8_image : MethodName := ⟨RX8, "image", "()I"⟩
abbrev cX8_back : ByteArray := prog_10_method_77_code
def yX8_back : MethodName := ⟨RX8, "back", "()I"⟩
abbrev cX8_hold : ByteArray := prog_10_method_78_code
def yX8_hold : MethodName := ⟨RX8, "hold", "(II)I"⟩
abbrev cX8_row : ByteArray := prog_10_method_79_code
def yX8_row : MethodName := ⟨RX8, "row", "(II)I"⟩
abbrev cX8_put : ByteArray := prog_10_method_80_code
def yX8_put : MethodName := ⟨RX8, "put", "(III)I"⟩
abbrev cX8_tells : ByteArray := prog_10_method_81_code
def yX8_tells : MethodName := ⟨RX8, "tells", "(II)I"⟩
abbrev cX8_count : ByteArray := prog_10_method_82_code
def yX8_count : MethodName := ⟨RX8, "count", "(I)I"⟩
def RJ6 : String := "java/lang/Integer"
def TJ6 : u_T := fun k => match k with
  | _ => ("", "", "", false)
def tyJ6 : Nat → FieldType := fun k => match k with
  | _ => .int
abbrev wsJ60 : List Cond := u_ws RJ6 TJ6 0
theorem nmJ6 : ∀ a, a < 0 → ∀ b, b < 0 → a ≠ b → (TJ6 a).2.1 ≠ (TJ6 b).2.1 := by decide +kernel
theorem tyJ6_ok : ∀ k, k < 0 → parseFieldDescriptor (TJ6 k).2.2.1 = some (tyJ6 k) := by decide +kernel
abbrev cJ6_bitCount_0f7a4 : ByteArray := prog_11_method_49_code
def yJ6_bitCount_0f7a4 : MethodName := ⟨RJ6, "bitCount", "(I)I"⟩
def RJ9 : String := "java/lang/Math"
def TJ9 : u_T := fun k => match k with
  | _ => ("", "", "", false)
def tyJ9 : Nat → FieldType := fun k => match k with
  | _ => .int
abbrev wsJ90 : List Cond := u_ws RJ9 TJ9 0
theorem nmJ9 : ∀ a, a < 0 → ∀ b, b < 0 → a ≠ b → (TJ9 a).2.1 ≠ (TJ9 b).2.1 := by decide +kernel
theorem tyJ9_ok : ∀ k, k < 0 → parseFieldDescriptor (TJ9 k).2.2.1 = some (tyJ9 k) := by decide +kernel
abbrev cJ9_max_7cf53 : ByteArray := prog_12_method_65_code
def yJ9_max_7cf53 : MethodName := ⟨RJ9, "max", "(II)I"⟩
abbrev cJ9_min_7cf53 : ByteArray := prog_12_method_69_code
def yJ9_min_7cf53 : MethodName := ⟨RJ9, "min", "(II)I"⟩
def RJ10 : String := "java/lang/System"
def TJ10 : u_T := fun k => match k with
  | _ => ("", "", "", false)
def tyJ10 : Nat → FieldType := fun k => match k with
  | _ => .int
abbrev wsJ100 : List Cond := u_ws RJ10 TJ10 0
theorem nmJ10 : ∀ a, a < 0 → ∀ b, b < 0 → a ≠ b → (TJ10 a).2.1 ≠ (TJ10 b).2.1 := by decide +kernel
theorem tyJ10_ok : ∀ k, k < 0 → parseFieldDescriptor (TJ10 k).2.2.1 = some (tyJ10 k) := by decide +kernel
def RL : String := "ActorTreesLaw"
abbrev cL_law : ByteArray := code
def yL_law : MethodName := ⟨RL, "law", "([I)Z"⟩
abbrev xcl : List vw_C := [(RX0, TX0, 12), (RX1, TX1, 3), (RX2, TX2, 2), (RX3, TX3, 3), (RX4, TX4, 4), (RX5, TX5, 4), (RX6, TX6, 13), (RX7, TX7, 7), (RX8, TX8, 22)]
end
section
/-! the tables' words that stay; the abstract machine: cells by numbers, whole numbers, references by numbers -/
def xgd (w : Cond) : Bool := match w with
  | .privateMethod .. => false
  | .methodLinkNest .. => false
  | .arrayOver .. => false
  | _ => true
def xtbl : List Cond := k2_sels lw_privs ++ tables_1.filter xgd
set_option maxRecDepth 100000 in
theorem xtbl_good : xtbl.all goodWord = true := by decide +kernel
theorem xtbl_in {w : Cond} (h : w ∈ xtbl) : w ∈ lw_tbl := (List.mem_append.mp h).elim (fun h => List.mem_append_left _ h) (fun h => List.mem_append_right _ (List.mem_filter.mp h).1)
def xnf (ci : Nat) : Nat := match ci with
  | 0 => 12
  | 1 => 3
  | 2 => 2
  | 3 => 3
  | 4 => 4
  | 5 => 4
  | 6 => 13
  | 7 => 7
  | 8 => 22
  | _ => 0
def xty (ci : Nat) : Nat → FieldType := match ci with
  | 0 => tyX0
  | 1 => tyX1
  | 2 => tyX2
  | 3 => tyX3
  | 4 => tyX4
  | 5 => tyX5
  | 6 => tyX6
  | 7 => tyX7
  | 8 => tyX8
  | _ => fun _ => .int
def xisR (t : FieldType) : Bool := match t with
  | .object _ => true
  | .array _ => true
  | _ => false
def XCl (ci : Nat) (C : String) (T : u_T) : Prop := xcl[ci]? = some (C, T, xnf ci) ∧ (∀ w ∈ u_ws C T (xnf ci), w ∈ xtbl) ∧ (∀ k, k < xnf ci → parseFieldDescriptor (T k).2.2.1 = some (xty ci k)) ∧ (∀ a, a < xnf ci → ∀ b, b < xnf ci → a ≠ b → (T a).2.1 ≠ (T b).2.1)
theorem xin_of {ws : List Cond} (ps : List Nat) (h : ws = ps.filterMap (fun i => xtbl[i]?)) : ∀ w ∈ ws, w ∈ xtbl := by
  intro w hw
  rw [h] at hw
  obtain ⟨i, -, hi⟩ := List.mem_filterMap.mp hw
  exact List.mem_of_getElem? hi
theorem xC0 : XCl 0 RX0 TX0 := ⟨rfl, xin_of [187, 189, 191, 193, 195, 197, 199, 201, 203, 205, 207, 209] (by decide +kernel), tyX0_ok, nmX0⟩
theorem xC1 : XCl 1 RX1 TX1 := ⟨rfl, xin_of [299, 301, 303] (by decide +kernel), tyX1_ok, nmX1⟩
theorem xC2 : XCl 2 RX2 TX2 := ⟨rfl, xin_of [145, 147] (by decide +kernel), tyX2_ok, nmX2⟩
theorem xC3 : XCl 3 RX3 TX3 := ⟨rfl, xin_of [122, 124, 126] (by decide +kernel), tyX3_ok, nmX3⟩
theorem xC4 : XCl 4 RX4 TX4 := ⟨rfl, xin_of [279, 281, 283, 285] (by decide +kernel), tyX4_ok, nmX4⟩
theorem xC5 : XCl 5 RX5 TX5 := ⟨rfl, xin_of [100, 102, 104, 106] (by decide +kernel), tyX5_ok, nmX5⟩
theorem xC6 : XCl 6 RX6 TX6 := ⟨rfl, xin_of [237, 239, 241, 243, 245, 247, 249, 251, 253, 255, 257, 259, 261] (by decide +kernel), tyX6_ok, nmX6⟩
theorem xC7 : XCl 7 RX7 TX7 := ⟨rfl, xin_of [313, 315, 317, 319, 321, 323, 325] (by decide +kernel), tyX7_ok, nmX7⟩
theorem xC8 : XCl 8 RX8 TX8 := ⟨rfl, xin_of [779, 781, 783, 785, 787, 789, 791, 793, 795, 797, 799, 801, 803, 805, 807, 809, 811, 813, 815, 817, 819, 821] (by decide +kernel), tyX8_ok, nmX8⟩
/-! what isn't a word that stays -/
abbrev XV : Type := Int32 ⊕ Option (Option Nat)
abbrev XL : Type := List (Nat × XV)
abbrev XK : Type := Nat ⊕ (Nat × Nat)
abbrev XH : Type := Nat × Nat × (Nat → XK) × (Nat → Nat → Option Nat) × (Nat → Nat → Int32)
abbrev XA : Type := Nat × Nat
abbrev XO : Type := (Nat × XL × List XV × XH) ⊕ ((Nat × List XV × Nat × List XV) ⊕ Option (Option XV))
abbrev XI : Type := XL → List XV → XH → XO
abbrev XY : Type := MethodName × ByteArray × Nat × Option FieldType
def xM (h : XH) : Nat := h.1
def xZ (h : XH) : Nat := h.2.1
def xK (h : XH) : Nat → XK := h.2.2.1
def xR (h : XH) : Nat → Nat → Option Nat := h.2.2.2.1
def xS (h : XH) : Nat → Nat → Int32 := h.2.2.2.2
def xup {α : Type} (f : Nat → α) (i : Nat) (v : α) : Nat → α := fun a => if a = i then v else f a
def xsetS (h : XH) (i : Nat) (f : Nat → Int32) : XH := (h.1, h.2.1, h.2.2.1, h.2.2.2.1, xup h.2.2.2.2 i f)
def xsetR (h : XH) (i : Nat) (f : Nat → Option Nat) : XH := (h.1, h.2.1, h.2.2.1, xup h.2.2.2.1 i f, h.2.2.2.2)
def xnew (h : XH) (k : XK) (sz : Nat) : XH := (h.1 + 1, h.2.1 + sz, xup h.2.2.1 h.1 k, xup h.2.2.2.1 h.1 (fun _ => none), xup h.2.2.2.2 h.1 (fun _ => 0))
def xv (β : XA) (v : XV) : Value := match v with
  | .inl x => .int x
  | .inr none => .null
  | .inr (some none) => .ref β.2
  | .inr (some (some i)) => .ref (β.1 + i)
def xls (β : XA) (L : XL) : List (Nat × Value) := L.map fun q => (q.1, xv β q.2)
def xst (β : XA) (st : List XV) : List Value := st.map (xv β)
def xfs (β : XA) (h : XH) (i ci : Nat) : List Value := (List.range (xnf ci)).map fun k => if xisR (xty ci k) = true then va_rf ((xR h i k).map (fun q => β.1 + q)) else .int (xS h i k)
def xe (β : XA) (cA : Nat → ClassId) (h : XH) (i : Nat) : va_E := match xK h i with
  | .inl ci => .inr (ci, xfs β h i ci)
  | .inr (0, n) => .inl (cA 0, n, .inl (xS h i))
  | .inr (t + 1, n) => .inl (cA (t + 1), n, .inr (.inr (.inr (.inr (fun j => (xR h i j).map (fun q => β.1 + q))))))
def xal (k : XK) : Bool := match k with
  | .inl _ => true
  | .inr (t, _) => Nat.blt t 4
def XP (β : XA) (D : va_G) (cA : Nat → ClassId) (h : XH) (H : Heap) : Prop := H.size = β.1 + xM h ∧ ∀ i, i < xM h → xal (xK h i) = true → va_at D xcl (β.1 + i, xe β cA h i) H
def xaT (t : Nat) : FieldType := match t with
  | 0 => .int
  | 1 => .object "ActorTrees$Actor"
  | 2 => .object "ActorTrees$Handle"
  | _ => .array .int
def xtys (cA : Nat → ClassId) : List (ClassId × FieldType) := [(cA 0, xaT 0), (cA 1, xaT 1), (cA 2, xaT 2), (cA 3, xaT 3)]
def xnest : List Cond := [.methodLinkNest RX6 19 yX5_init RX7, .methodLinkNest RX6 43 yX0_init RX7, .methodLinkNest RX7 27 yX4_init RX7, .methodLinkNest RX7 38 yX1_init RX7, .arrayOver (xaT 1), .arrayOver (xaT 2), .arrayOver (xaT 3)]
def XNw (U : State) : Prop := ∀ w ∈ xnest, w.before #[] U = true
def XKn (D : va_G) (cA : Nat → ClassId) (U : State) : Prop := va_K D xcl (xtys cA) U ∧ XNw U
def XF (β : XA) (s : State) (H : Heap) (locs : List Loc) : Prop := (∀ q : Nat, q < β.1 → H[q]? = s.heap[q]?) ∧ ∀ q ∈ locs, β.1 ≤ q.base
theorem xAOA_moved {t : FieldType} {u U : State} (hvm : u.vm.Alike U.vm) (h : (Cond.arrayOver (.array t)).before #[] u = true) : (Cond.arrayOver (.array t)).before #[] U = true := by
  obtain ⟨comp, c, k, h1, h2, h3, h4, h5⟩ := arrayOverA_spec h
  obtain ⟨k', hk', he⟩ := hvm.2.2 _ _ h3
  have hi : (U.vm.classes.findIdx? fun (x : Class) => match x.kind with | .array component _ => component == comp | _ => false) = some c := by
    have e1 := va_idx_bare U.vm comp
    have e2 := va_idx_bare u.vm comp
    have hb : U.vm.bare = u.vm.bare := by first | exact hvm.bare_eq | exact hvm.bare_eq.symm
    rw [hb] at e1
    exact e1.symm.trans (e2.trans h2)
  have hkind : k'.kind = .array comp (.array t) := by rw [he]; exact h4
  have f1 : U.vm.findClass (FieldType.array t).toString = some comp := by rw [hvm.findClass]; exact h1
  have f2 : U.vm.findClass ("[" ++ (FieldType.array t).toString) = some c := by rw [hvm.findClass]; exact h5
  unfold Cond.before Cond.holds
  simp only [Cond.value]
  rw [f1, Option.bind_some]
  refine (congrArg (fun o : Option Nat => (o.bind (fun c => (U.vm.classes[c]?).map fun (k : Class) => match k.kind with | .array _ ty => decide (ty = FieldType.array t) && decide (U.vm.findClass ("[" ++ (FieldType.array t).toString) = some c) | _ => false) == some true)) hi).trans ?_
  simp [hk', hkind, f2]
theorem XNw.moved {u U : State} (hW : u.WarmedH U.vm) (h : XNw u) : XNw U := by
  intro w hw
  have h0 := h w hw
  simp only [xnest, List.mem_cons, List.not_mem_nil, or_false] at hw
  rcases hw with rfl | rfl | rfl | rfl | rfl | rfl | rfl
  · exact va_Nw.warmM hW h0
  · exact va_Nw.warmM hW h0
  · exact va_Nw.warmM hW h0
  · exact va_Nw.warmM hW h0
  · exact va_AO.moved hW.alike h0
  · exact va_AO.moved hW.alike h0
  · exact xAOA_moved hW.alike h0
theorem XKn.moved {D : va_G} {cA : Nat → ClassId} {u U : State} (hW : u.WarmedH U.vm) (h : XKn D cA u) : XKn D cA U := ⟨va_K.moved hW.alike h.1, h.2.moved hW⟩
end
section
/-! 03: what an instruction of the abstract machine owes to the machine -/
def XRM (d mc ms : Nat) : Room := { frames := d + 1, cells := mc, slots := ms, locals := 128 * (d + 1) }
def XWs (Y : XY) : List Cond := Cond.code Y.1 Y.2.1 Y.2.2.1 Y.2.2.2 :: xtbl
def XPre (β : XA) (D : va_G) (cA : Nat → ClassId) (h : XH) : State → Prop := fun U => XP β D cA h U.heap ∧ XKn D cA U
def XQ (β : XA) (D : va_G) (cA : Nat → ClassId) (r : Option XV) (h' : XH) : Array Value → State → Outcome → State → Prop := fun _ st oc t => oc = .returned (r.map (xv β)) ∧ XP β D cA h' t.heap ∧ ∀ q : Nat, q < β.1 → t.heap[q]? = st.heap[q]?
def XMet (l : Launch) (Y : XY) (d : Nat) (β : XA) (D : va_G) (cA : Nat → ClassId) (as : List XV) (h : XH) (r : Option XV) (h' : XH) : Prop := Met l Y.1 (XWs Y) (XRM d (xM h' - xM h) (xZ h' - xZ h)) (va_Pc (xst β as) (XPre β D cA h)) (XQ β D cA r h') (xM h' - xM h) (xZ h' - xZ h) (fun q => β.1 ≤ q)
def XC (scr : Nat × (Nat → Int32)) (p : Program) (R : Room) (s : State) (m : MethodId) (args : Array Value) (meth : Method) (c : Code) (Y : XY) (β : XA) (D : va_G) (cA : Nat → ClassId) (d : Nat) : Prop :=
  p.tables.exec = Jvm.exec ∧ c.code = Y.2.1 ∧ c.maxLocals = Y.2.2.1 ∧ s.vm.findClass Y.1.cls = some m.cls ∧ (∀ w ∈ xtbl, w.before args s = true) ∧ XKn D cA s ∧ (Y.1.name = "<init>" → meth.name = "<init>") ∧ β.1 ≤ s.heap.size ∧ d + 1 ≤ R.frames ∧ 128 * (d + 1) ≤ R.locals ∧ (Y.1.name = "law" → va_X β.2 scr.1 scr.2 s s.heap ∧ β.2 < β.1)
/-- where a walk stands -/
def XWk (p : Program) (l : Launch) (e : Env) (R : Room) (s : State) (m : MethodId) (args : Array Value) (below : List Frame) (meth : Method) (c : Code) (Y : XY) (β : XA) (D : va_G) (cA : Nat → ClassId) (m0 z0 : Nat) (Q : State → Prop) (pc : Nat) (L : XL) (st : List XV) (h : XH) : Prop :=
  ∀ (H : Heap) (locs : List Loc) (ls : Array Slot), XP β D cA h H → XF β s H locs → lv_has ls Y.2.2.1 (xls β L) → W p l e R s m args below meth c H locs (xM h - m0) (xZ h - z0) Q (F0 m pc ls (xst β st))
def XNx (scr : Nat × (Nat → Int32)) (Y : XY) (pc : Nat) (L : XL) (st : List XV) (h : XH) (pc' : Nat) (L' : XL) (st' : List XV) (h' : XH) : Prop :=
  ∀ (p : Program) (l : Launch) (e : Env) (R : Room) (s : State) (m : MethodId) (args : Array Value) (below : List Frame) (meth : Method) (c : Code) (β : XA) (D : va_G) (cA : Nat → ClassId) (d m0 z0 : Nat) (Q : State → Prop), XC scr p R s m args meth c Y β D cA d → m0 ≤ xM h → z0 ≤ xZ h → xM h' - m0 ≤ R.cells → xZ h' - z0 ≤ R.slots →
    XWk p l e R s m args below meth c Y β D cA m0 z0 Q pc' L' st' h' → XWk p l e R s m args below meth c Y β D cA m0 z0 Q pc L st h
def XCx (xm : Nat → XY) (scr : Nat × (Nat → Int32)) (Y : XY) (pc : Nat) (L : XL) (st : List XV) (h : XH) (mid : Nat) (as : List XV) (pc' : Nat) (st' : List XV) : Prop :=
  as.length ≤ (xm mid).2.2.1 ∧ plainName (xm mid).1.cls = true ∧ (xm mid).1.name ≠ "law" ∧ ∀ (p : Program) (l : Launch) (e : Env) (R : Room) (s : State) (m : MethodId) (args : Array Value) (below : List Frame) (meth : Method) (c : Code) (β : XA) (D : va_G) (cA : Nat → ClassId) (d m0 z0 : Nat) (Q : State → Prop) (r : Option XV) (h2 : XH), XC scr p R s m args meth c Y β D cA (d + 1) → m0 ≤ xM h → z0 ≤ xZ h → xM h ≤ xM h2 → xZ h ≤ xZ h2 → xM h2 - m0 ≤ R.cells → xZ h2 - z0 ≤ R.slots →
    XMet l (xm mid) d β D cA as h r h2 → XWk p l e R s m args below meth c Y β D cA m0 z0 Q pc' L (r.toList ++ st') h2 → XWk p l e R s m args below meth c Y β D cA m0 z0 Q pc L st h
def XRx (Y : XY) (pc : Nat) (st : List XV) (r : Option XV) : Prop :=
  (r = none ∧ st = [] ∧ decode Y.2.1 pc = .ok (.return_, 1) ∧ Y.2.2.2 = none) ∨ (∃ (v : Int32) (ty : FieldType), r = some (.inl v) ∧ st = [.inl v] ∧ decode Y.2.1 pc = .ok (.ireturn, 1) ∧ Y.2.2.2 = some ty ∧ narrow ty (.int v) = .int v)
def XSnd (xm : Nat → XY) (scr : Nat × (Nat → Int32)) (Y : XY) (pc : Nat) (sem : XI) : Prop := ∀ (L : XL) (st : List XV) (h : XH),
  (∀ pc' L' st' h', sem L st h = .inl (pc', L', st', h') → xM h ≤ xM h' ∧ xZ h ≤ xZ h' ∧ XNx scr Y pc L st h pc' L' st' h') ∧
  (∀ mid as pc' st', sem L st h = .inr (.inl (mid, as, pc', st')) → XCx xm scr Y pc L st h mid as pc' st') ∧
  (∀ r, sem L st h = .inr (.inr (some r)) → XRx Y pc st r)
def xbad : XO := .inr (.inr none)
theorem XSnd_bad {xm : Nat → XY} {scr : Nat × (Nat → Int32)} {Y : XY} {pc : Nat} : XSnd xm scr Y pc (fun _ _ _ => xbad) := fun L st h => ⟨fun _ _ _ _ e => (by cases e), fun _ _ _ _ e => (by cases e), fun _ e => (by cases e)⟩
/-! small laws -/
theorem xls_mem {β : XA} {L : XL} {ls : Array Slot} {n i : Nat} {v : XV} (hl : lv_has ls n (xls β L)) (h : (i, v) ∈ L) : ls[i]? = some (.val (xv β v)) := hl.2.2 (i, xv β v) (List.mem_map.mpr ⟨(i, v), h, rfl⟩)
def xget : XL → Nat → Option XV
  | [], _ => none
  | (k, v) :: L, i => if k = i then some v else xget L i
theorem xget_mem : ∀ {L : XL} {i : Nat} {v : XV}, xget L i = some v → (i, v) ∈ L
  | [], _, _, h => by cases h
  | (k, w) :: L, i, v, h => by
    unfold xget at h
    split at h
    · rename_i hk
      cases h
      rw [hk]
      exact List.mem_cons_self
    · exact List.mem_cons_of_mem _ (xget_mem h)
theorem xv_cat (β : XA) (v : XV) : (xv β v).category = 1 := by
  rcases v with x | _ | _ | i <;> rfl
def xput (L : XL) (i : Nat) (v : XV) : XL := (i, v) :: L.filter fun q => !(q.1 == i)
theorem xls_put (β : XA) (L : XL) (i : Nat) (v : XV) : (i, xv β v) :: (xls β L).filter (fun q => !(q.1 == i) && !(q.1 + 1 == i && q.2.category == 2)) = xls β (xput L i v) := by
  unfold xls xput
  rw [List.map_cons, List.filter_map]
  congr 2
  apply List.filter_congr
  intro q hq
  simp [Function.comp, xv_cat]
theorem xst_cons (β : XA) (v : XV) (st : List XV) : xst β (v :: st) = xv β v :: xst β st := rfl
theorem xst_sum (β : XA) (st : List XV) : ((xst β st).map fun v => v.category).sum = st.length := by
  induction st with
  | nil => rfl
  | cons v st ih =>
    show (xv β v).category + ((xst β st).map fun v => v.category).sum = _
    rw [xv_cat, ih, List.length_cons]
    omega
theorem XF_S {β : XA} {s : State} {H : Heap} {locs : List Loc} (h : XF β s H locs) (hb : β.1 ≤ s.heap.size) (hs : s.heap.size ≤ H.size) : va_S (fun q => β.1 ≤ q) s.heap H locs := ⟨hs, fun q h1 h2 => h.1 q (Nat.not_le.mp h2), h.2⟩
theorem xe_eq {β : XA} {cA : Nat → ClassId} {h h' : XH} {j : Nat} (h1 : xK h' j = xK h j) (h2 : xR h' j = xR h j) (h3 : xS h' j = xS h j) : xe β cA h' j = xe β cA h j := by
  unfold xe xfs
  rw [h1, h2, h3]
theorem XP_upd {β : XA} {D : va_G} {cA : Nat → ClassId} {h h' : XH} {H H' : Heap} {i : Nat} (hP : XP β D cA h H) (hm : xM h' = xM h) (hs : H'.size = H.size) (hne : ∀ q : Nat, q ≠ β.1 + i → H'[q]? = H[q]?) (hj : ∀ j, j ≠ i → xK h' j = xK h j ∧ xR h' j = xR h j ∧ xS h' j = xS h j) (hi : va_at D xcl (β.1 + i, xe β cA h' i) H') : XP β D cA h' H' := by
  refine ⟨by rw [hs, hm]; exact hP.1, fun j hjm ha => ?_⟩
  by_cases e : j = i
  · subst e
    exact hi
  · obtain ⟨h1, h2, h3⟩ := hj j e
    rw [xe_eq h1 h2 h3]
    exact (hP.2 j (by rw [← hm]; exact hjm) (by rw [← h1]; exact ha)).kept (hne _ (by show β.1 + j ≠ β.1 + i; omega))
theorem XF_put {β : XA} {s : State} {H H' : Heap} {locs : List Loc} {i k : Nat} (h : XF β s H locs) (hne : ∀ q : Nat, q ≠ β.1 + i → H'[q]? = H[q]?) : XF β s H' (locs ++ [⟨β.1 + i, k⟩]) := by
  refine ⟨fun q hq => (hne q (by omega)).trans (h.1 q hq), fun q hq => ?_⟩
  rcases List.mem_append.mp hq with g | g
  · exact h.2 q g
  · rw [List.mem_singleton.mp g]
    exact Nat.le_add_right _ _
theorem XP_push {β : XA} {D : va_G} {cA : Nat → ClassId} {h : XH} {H H' : Heap} {k : XK} {sz : Nat} (hP : XP β D cA h H) (hs : H'.size = H.size + 1) (hne : ∀ q : Nat, q < H.size → H'[q]? = H[q]?) (hi : va_at D xcl (β.1 + xM h, xe β cA (xnew h k sz) (xM h)) H') : XP β D cA (xnew h k sz) H' := by
  refine ⟨by rw [hs, hP.1]; show _ = β.1 + (xM h + 1); omega, fun j hjm ha => ?_⟩
  by_cases e : j = xM h
  · subst e
    exact hi
  · have hjm' : j < xM h := by have : j < xM h + 1 := hjm; omega
    have h1 : xK (xnew h k sz) j = xK h j := if_neg e
    have h2 : xR (xnew h k sz) j = xR h j := if_neg e
    have h3 : xS (xnew h k sz) j = xS h j := if_neg e
    rw [xe_eq h1 h2 h3]
    exact (hP.2 j hjm' (by rw [← h1]; exact ha)).kept (hne _ (by show β.1 + j < H.size; rw [hP.1]; omega))
theorem XF_push {β : XA} {s : State} {H H' : Heap} {locs : List Loc} (h : XF β s H locs) (hs : β.1 ≤ H.size) (hne : ∀ q : Nat, q < H.size → H'[q]? = H[q]?) : XF β s H' locs := ⟨fun q hq => (hne q (by omega)).trans (h.1 q hq), h.2⟩
/-- a cell alone -/
theorem XP_one {β : XA} {D : va_G} {cA : Nat → ClassId} {h : XH} {H : Heap} {i : Nat} {e : va_E} (hP : XP β D cA h H) (hi : i < xM h) (ha : xal (xK h i) = true) (he : xe β cA h i = e) : va_P D xcl [(β.1 + i, e)] H := by
  intro k q hk
  have hz : k < 1 := (List.getElem?_eq_some_iff.mp hk).1
  rw [show k = 0 by omega] at hk
  cases hk
  rw [← he]
  exact hP.2 i hi ha
theorem xe_obj {β : XA} {cA : Nat → ClassId} {h : XH} {i ci : Nat} (hk : xK h i = .inl ci) : xe β cA h i = .inr (ci, xfs β h i ci) := by unfold xe; rw [hk]
theorem xe_int {β : XA} {cA : Nat → ClassId} {h : XH} {i n : Nat} (hk : xK h i = .inr (0, n)) : xe β cA h i = .inl (cA 0, n, .inl (xS h i)) := by unfold xe; rw [hk]
theorem xe_ref {β : XA} {cA : Nat → ClassId} {h : XH} {i t n : Nat} (hk : xK h i = .inr (t + 1, n)) : xe β cA h i = .inl (cA (t + 1), n, .inr (.inr (.inr (.inr (fun j => (xR h i j).map (fun q => β.1 + q)))))) := by unfold xe; rw [hk]
theorem xfs_at (β : XA) (h : XH) (i ci : Nat) {k : Nat} (hk : k < xnf ci) : (xfs β h i ci)[k]? = some (if xisR (xty ci k) = true then va_rf ((xR h i k).map (fun q => β.1 + q)) else .int (xS h i k)) := by
  unfold xfs
  rw [List.getElem?_map, List.getElem?_range hk]
  rfl
theorem xfs_V (β : XA) (h : XH) (i ci : Nat) {k : Nat} (hk : k < xnf ci) : vp_V (xfs β h i ci) k = (if xisR (xty ci k) = true then va_rf ((xR h i k).map (fun q => β.1 + q)) else .int (xS h i k)) := by
  unfold vp_V
  rw [List.getD_eq_getElem?_getD, xfs_at β h i ci hk]
  rfl
theorem xfs_len (β : XA) (h : XH) (i ci : Nat) : (xfs β h i ci).length = xnf ci := by simp [xfs]
def xiN (f : XL → List XV → XH → Option (Nat × XL × List XV × XH)) : XI := fun L st h => match f L st h with
  | some o => .inl o
  | none => xbad
theorem XSnd_N {xm : Nat → XY} {scr : Nat × (Nat → Int32)} {Y : XY} {pc : Nat} {f : XL → List XV → XH → Option (Nat × XL × List XV × XH)} (hf : ∀ L st h pc' L' st' h', f L st h = some (pc', L', st', h') → xM h ≤ xM h' ∧ xZ h ≤ xZ h' ∧ XNx scr Y pc L st h pc' L' st' h') : XSnd xm scr Y pc (xiN f) := by
  intro L st h
  refine ⟨fun pc' L' st' h' e => hf L st h pc' L' st' h' ?_, fun _ _ _ _ e => ?_, fun _ e => ?_⟩
  · unfold xiN at e
    split at e
    · rename_i o ho
      cases e
      exact ho
    · cases e
  · unfold xiN at e
    split at e <;> cases e
  · unfold xiN at e
    split at e <;> cases e
/-- an instruction that leaves the cells -/
theorem XSnd_P {xm : Nat → XY} {scr : Nat × (Nat → Int32)} {Y : XY} {pc : Nat} {f : XL → List XV → XH → Option (Nat × XL × List XV × XH)} (hf : ∀ L st h pc' L' st' h', f L st h = some (pc', L', st', h') → h' = h ∧ XNx scr Y pc L st h pc' L' st' h) : XSnd xm scr Y pc (xiN f) :=
  XSnd_N fun L st h pc' L' st' h' e => by
    obtain ⟨rfl, hx⟩ := hf L st h pc' L' st' h' e
    exact ⟨Nat.le_refl _, Nat.le_refl _, hx⟩
end
section
/-! 04: the instructions that leave the cells -/
def x_push (v : Int32) (n : Nat) : XI := xiN fun L st h => some (n, L, .inl v :: st, h)
theorem s_iconst {xm : Nat → XY} {scr : Nat × (Nat → Int32)} {Y : XY} {pc : Nat} {z : Int} {v : Int32} (hd : decode Y.2.1 pc = .ok (.iconst z, 1)) (hv : Int32.ofInt z = v) : XSnd xm scr Y pc (x_push v (pc + 1)) := by
  refine XSnd_P fun L st h pc1 L1 st1 h1 ee => ?_
  cases ee
  refine ⟨rfl, fun p l e R s m args below meth c β D cA d m0 z0 Q X hm0 hz0 hmR hzR k H locs ls hP hF hl => ?_⟩
  obtain ⟨hx, hb, hml, hown, hts, hK, -⟩ := X
  exact lv_iconst hx hb hd hv (k H locs ls hP hF hl)
theorem s_bipush {xm : Nat → XY} {scr : Nat × (Nat → Int32)} {Y : XY} {pc : Nat} {z : Int} {v : Int32} (hd : decode Y.2.1 pc = .ok (.bipush z, 2)) (hv : (Int8.ofInt z).toInt32 = v) : XSnd xm scr Y pc (x_push v (pc + 2)) := by
  refine XSnd_P fun L st h pc1 L1 st1 h1 ee => ?_
  cases ee
  refine ⟨rfl, fun p l e R s m args below meth c β D cA d m0 z0 Q X hm0 hz0 hmR hzR k H locs ls hP hF hl => ?_⟩
  obtain ⟨hx, hb, hml, hown, hts, hK, -⟩ := X
  exact lv_bipush hx hb hd hv (k H locs ls hP hF hl)
theorem s_sipush {xm : Nat → XY} {scr : Nat × (Nat → Int32)} {Y : XY} {pc : Nat} {z : Int} {v : Int32} (hd : decode Y.2.1 pc = .ok (.sipush z, 3)) (hv : (Int16.ofInt z).toInt32 = v) : XSnd xm scr Y pc (x_push v (pc + 3)) := by
  refine XSnd_P fun L st h pc1 L1 st1 h1 ee => ?_
  cases ee
  refine ⟨rfl, fun p l e R s m args below meth c β D cA d m0 z0 Q X hm0 hz0 hmR hzR k H locs ls hP hF hl => ?_⟩
  obtain ⟨hx, hb, hml, hown, hts, hK, -⟩ := X
  exact lv_sipush hx hb hd hv (k H locs ls hP hF hl)
theorem s_ldc {xm : Nat → XY} {scr : Nat × (Nat → Int32)} {Y : XY} {pc : Nat} {idx : Nat} {v : Int32} (hd : decode Y.2.1 pc = .ok (.ldc idx, 2)) (hw : Cond.constant Y.1.cls idx v ∈ xtbl) : XSnd xm scr Y pc (x_push v (pc + 2)) := by
  refine XSnd_P fun L st h pc1 L1 st1 h1 ee => ?_
  cases ee
  refine ⟨rfl, fun p l e R s m args below meth c β D cA d m0 z0 Q X hm0 hz0 hmR hzR k H locs ls hP hF hl => ?_⟩
  obtain ⟨hx, hb, hml, hown, hts, hK, -⟩ := X
  exact lv_ldc hx hb hown (hts _ hw) hd (k H locs ls hP hF hl)
theorem s_ldcw {xm : Nat → XY} {scr : Nat × (Nat → Int32)} {Y : XY} {pc : Nat} {idx : Nat} {v : Int32} (hd : decode Y.2.1 pc = .ok (.ldc_w idx, 3)) (hw : Cond.constant Y.1.cls idx v ∈ xtbl) : XSnd xm scr Y pc (x_push v (pc + 3)) := by
  refine XSnd_P fun L st h pc1 L1 st1 h1 ee => ?_
  cases ee
  refine ⟨rfl, fun p l e R s m args below meth c β D cA d m0 z0 Q X hm0 hz0 hmR hzR k H locs ls hP hF hl => ?_⟩
  obtain ⟨hx, hb, hml, hown, hts, hK, -⟩ := X
  exact lv_ldcw hx hb hown (hts _ hw) hd (k H locs ls hP hF hl)
def x_iload (i n : Nat) : XI := xiN fun L st h => match xget L i with
  | some (.inl x) => some (n, L, .inl x :: st, h)
  | _ => none
def x_aload (i n : Nat) : XI := xiN fun L st h => match xget L i with
  | some (.inr (some r)) => some (n, L, .inr (some r) :: st, h)
  | _ => none
theorem s_iload_n {xm : Nat → XY} {scr : Nat × (Nat → Int32)} {Y : XY} {pc : Nat} {i : Nat} {j : Fin 4} (hi : (j : Nat) = i) (hd : decode Y.2.1 pc = .ok (.iload_n j, 1)) : XSnd xm scr Y pc (x_iload i (pc + 1)) := by
  refine XSnd_P fun L st h pc1 L1 st1 h1 ee => ?_
  split at ee
  · rename_i x hg
    cases ee
    refine ⟨rfl, fun p l e R s m args below meth c β D cA d m0 z0 Q X hm0 hz0 hmR hzR k H locs ls hP hF hl => ?_⟩
    obtain ⟨hx, hb, hml, hown, hts, hK, -⟩ := X
    exact lv_iload_n hx hb hd hi (xls_mem hl (xget_mem hg)) (k H locs ls hP hF hl)
  · cases ee
theorem s_iload {xm : Nat → XY} {scr : Nat × (Nat → Int32)} {Y : XY} {pc : Nat} {i : Nat}  (hd : decode Y.2.1 pc = .ok (.iload i, 2)) : XSnd xm scr Y pc (x_iload i (pc + 2)) := by
  refine XSnd_P fun L st h pc1 L1 st1 h1 ee => ?_
  split at ee
  · rename_i x hg
    cases ee
    refine ⟨rfl, fun p l e R s m args below meth c β D cA d m0 z0 Q X hm0 hz0 hmR hzR k H locs ls hP hF hl => ?_⟩
    obtain ⟨hx, hb, hml, hown, hts, hK, -⟩ := X
    exact lv_iload hx hb hd (xls_mem hl (xget_mem hg)) (k H locs ls hP hF hl)
  · cases ee
theorem s_aload_n {xm : Nat → XY} {scr : Nat × (Nat → Int32)} {Y : XY} {pc : Nat} {i : Nat} {j : Fin 4} (hi : (j : Nat) = i) (hd : decode Y.2.1 pc = .ok (.aload_n j, 1)) : XSnd xm scr Y pc (x_aload i (pc + 1)) := by
  refine XSnd_P fun L st h pc1 L1 st1 h1 ee => ?_
  split at ee
  · rename_i r hg
    cases ee
    refine ⟨rfl, fun p l e R s m args below meth c β D cA d m0 z0 Q X hm0 hz0 hmR hzR k H locs ls hP hF hl => ?_⟩
    obtain ⟨hx, hb, hml, hown, hts, hK, -⟩ := X
    rcases r with _ | r
    · exact lv_aload_n hx hb hd hi (xls_mem hl (xget_mem hg)) (k H locs ls hP hF hl)
    · exact lv_aload_n hx hb hd hi (xls_mem hl (xget_mem hg)) (k H locs ls hP hF hl)
  · cases ee
theorem s_aload {xm : Nat → XY} {scr : Nat × (Nat → Int32)} {Y : XY} {pc : Nat} {i : Nat}  (hd : decode Y.2.1 pc = .ok (.aload i, 2)) : XSnd xm scr Y pc (x_aload i (pc + 2)) := by
  refine XSnd_P fun L st h pc1 L1 st1 h1 ee => ?_
  split at ee
  · rename_i r hg
    cases ee
    refine ⟨rfl, fun p l e R s m args below meth c β D cA d m0 z0 Q X hm0 hz0 hmR hzR k H locs ls hP hF hl => ?_⟩
    obtain ⟨hx, hb, hml, hown, hts, hK, -⟩ := X
    rcases r with _ | r
    · exact lv_aload hx hb hd (xls_mem hl (xget_mem hg)) (k H locs ls hP hF hl)
    · exact lv_aload hx hb hd (xls_mem hl (xget_mem hg)) (k H locs ls hP hF hl)
  · cases ee
def x_istore (i n : Nat) : XI := xiN fun L st h => match st with
  | .inl x :: st => some (n, xput L i (.inl x), st, h)
  | _ => none
def x_astore (i n : Nat) : XI := xiN fun L st h => match st with
  | .inr (some r) :: st => some (n, xput L i (.inr (some r)), st, h)
  | _ => none
theorem s_istore_n {xm : Nat → XY} {scr : Nat × (Nat → Int32)} {Y : XY} {pc : Nat} {i : Nat} {j : Fin 4} (hi : (j : Nat) = i) (hd : decode Y.2.1 pc = .ok (.istore_n j, 1)) (hn : i < Y.2.2.1) : XSnd xm scr Y pc (x_istore i (pc + 1)) := by
  refine XSnd_P fun L st h pc1 L1 st1 h1 ee => ?_
  split at ee
  · rename_i x st0
    cases ee
    refine ⟨rfl, fun p l e R s m args below meth c β D cA d m0 z0 Q X hm0 hz0 hmR hzR k H locs ls hP hF hl => ?_⟩
    obtain ⟨hx, hb, hml, hown, hts, hK, -⟩ := X
    exact lv_istore_n hx hb hd hi hl hn (xls_put β L i (.inl x)) (fun ls2 hl2 => k H locs ls2 hP hF hl2)
  · cases ee
theorem s_istore {xm : Nat → XY} {scr : Nat × (Nat → Int32)} {Y : XY} {pc : Nat} {i : Nat}  (hd : decode Y.2.1 pc = .ok (.istore i, 2)) (hn : i < Y.2.2.1) : XSnd xm scr Y pc (x_istore i (pc + 2)) := by
  refine XSnd_P fun L st h pc1 L1 st1 h1 ee => ?_
  split at ee
  · rename_i x st0
    cases ee
    refine ⟨rfl, fun p l e R s m args below meth c β D cA d m0 z0 Q X hm0 hz0 hmR hzR k H locs ls hP hF hl => ?_⟩
    obtain ⟨hx, hb, hml, hown, hts, hK, -⟩ := X
    exact lv_istore hx hb hd hl hn (xls_put β L i (.inl x)) (fun ls2 hl2 => k H locs ls2 hP hF hl2)
  · cases ee
theorem s_astore_n {xm : Nat → XY} {scr : Nat × (Nat → Int32)} {Y : XY} {pc : Nat} {i : Nat} {j : Fin 4} (hi : (j : Nat) = i) (hd : decode Y.2.1 pc = .ok (.astore_n j, 1)) (hn : i < Y.2.2.1) : XSnd xm scr Y pc (x_astore i (pc + 1)) := by
  refine XSnd_P fun L st h pc1 L1 st1 h1 ee => ?_
  split at ee
  · rename_i r st0
    cases ee
    refine ⟨rfl, fun p l e R s m args below meth c β D cA d m0 z0 Q X hm0 hz0 hmR hzR k H locs ls hP hF hl => ?_⟩
    obtain ⟨hx, hb, hml, hown, hts, hK, -⟩ := X
    rcases r with _ | r
    · exact lv_astore_n hx hb hd hi hl hn (xls_put β L i (.inr (some none))) (fun ls2 hl2 => k H locs ls2 hP hF hl2)
    · exact lv_astore_n hx hb hd hi hl hn (xls_put β L i (.inr (some (some r)))) (fun ls2 hl2 => k H locs ls2 hP hF hl2)
  · cases ee
theorem s_astore {xm : Nat → XY} {scr : Nat × (Nat → Int32)} {Y : XY} {pc : Nat} {i : Nat}  (hd : decode Y.2.1 pc = .ok (.astore i, 2)) (hn : i < Y.2.2.1) : XSnd xm scr Y pc (x_astore i (pc + 2)) := by
  refine XSnd_P fun L st h pc1 L1 st1 h1 ee => ?_
  split at ee
  · rename_i r st0
    cases ee
    refine ⟨rfl, fun p l e R s m args below meth c β D cA d m0 z0 Q X hm0 hz0 hmR hzR k H locs ls hP hF hl => ?_⟩
    obtain ⟨hx, hb, hml, hown, hts, hK, -⟩ := X
    rcases r with _ | r
    · exact lv_astore hx hb hd hl hn (xls_put β L i (.inr (some none))) (fun ls2 hl2 => k H locs ls2 hP hF hl2)
    · exact lv_astore hx hb hd hl hn (xls_put β L i (.inr (some (some r)))) (fun ls2 hl2 => k H locs ls2 hP hF hl2)
  · cases ee
def x_iinc (i : Nat) (a : Int32) (n : Nat) : XI := xiN fun L st h => match xget L i with
  | some (.inl x) => some (n, xput L i (.inl (x + a)), st, h)
  | _ => none
theorem s_iinc {xm : Nat → XY} {scr : Nat × (Nat → Int32)} {Y : XY} {pc : Nat} {i : Nat} {z : Int} {a : Int32} (hd : decode Y.2.1 pc = .ok (.iinc i z, 3)) (ha : Int32.ofInt z = a) (hn : i < Y.2.2.1) : XSnd xm scr Y pc (x_iinc i a (pc + 3)) := by
  refine XSnd_P fun L st h pc1 L1 st1 h1 ee => ?_
  split at ee
  · rename_i x hg
    cases ee
    refine ⟨rfl, fun p l e R s m args below meth c β D cA d m0 z0 Q X hm0 hz0 hmR hzR k H locs ls hP hF hl => ?_⟩
    obtain ⟨hx, hb, hml, hown, hts, hK, -⟩ := X
    obtain ⟨q, hq⟩ := List.getElem?_of_mem (List.mem_map.mpr ⟨(i, .inl x), xget_mem hg, rfl⟩ : (i, Value.int x) ∈ xls β L)
    exact lv_iinc hx hb hd hl hq (by rw [ha]) hn (xls_put β L i (.inl (x + a))) (fun ls2 hl2 => k H locs ls2 hP hF hl2)
  · cases ee
def x_dup (n : Nat) : XI := xiN fun L st h => match st with
  | v :: st => some (n, L, v :: v :: st, h)
  | _ => none
theorem s_dup {xm : Nat → XY} {scr : Nat × (Nat → Int32)} {Y : XY} {pc : Nat} (hd : decode Y.2.1 pc = .ok (.dup, 1)) : XSnd xm scr Y pc (x_dup (pc + 1)) := by
  refine XSnd_P fun L st h pc1 L1 st1 h1 ee => ?_
  split at ee
  · cases ee
    refine ⟨rfl, fun p l e R s m args below meth c β D cA d m0 z0 Q X hm0 hz0 hmR hzR k H locs ls hP hF hl => ?_⟩
    obtain ⟨hx, hb, hml, hown, hts, hK, -⟩ := X
    exact lv_dup hx hb hd (xv_cat _ _) (k H locs ls hP hF hl)
  · cases ee
def x_pop (n : Nat) : XI := xiN fun L st h => match st with
  | _ :: st => some (n, L, st, h)
  | _ => none
theorem s_pop {xm : Nat → XY} {scr : Nat × (Nat → Int32)} {Y : XY} {pc : Nat} (hd : decode Y.2.1 pc = .ok (.pop, 1)) : XSnd xm scr Y pc (x_pop (pc + 1)) := by
  refine XSnd_P fun L st h pc1 L1 st1 h1 ee => ?_
  split at ee
  · cases ee
    refine ⟨rfl, fun p l e R s m args below meth c β D cA d m0 z0 Q X hm0 hz0 hmR hzR k H locs ls hP hF hl => ?_⟩
    obtain ⟨hx, hb, hml, hown, hts, hK, -⟩ := X
    exact lv_pop hx hb hd (xv_cat _ _) (k H locs ls hP hF hl)
  · cases ee
def x_dup_x1 (n : Nat) : XI := xiN fun L st h => match st with
  | v :: w :: st => some (n, L, v :: w :: v :: st, h)
  | _ => none
theorem s_dup_x1 {xm : Nat → XY} {scr : Nat × (Nat → Int32)} {Y : XY} {pc : Nat} (hd : decode Y.2.1 pc = .ok (.dup_x1, 1)) : XSnd xm scr Y pc (x_dup_x1 (pc + 1)) := by
  refine XSnd_P fun L st h pc1 L1 st1 h1 ee => ?_
  split at ee
  · cases ee
    refine ⟨rfl, fun p l e R s m args below meth c β D cA d m0 z0 Q X hm0 hz0 hmR hzR k H locs ls hP hF hl => ?_⟩
    obtain ⟨hx, hb, hml, hown, hts, hK, -⟩ := X
    exact lv_dup_x1 hx hb hd (xv_cat _ _) (xv_cat _ _) (k H locs ls hP hF hl)
  · cases ee
def x_dup_x2 (n : Nat) : XI := xiN fun L st h => match st with
  | v :: w :: u :: st => some (n, L, v :: w :: u :: v :: st, h)
  | _ => none
theorem s_dup_x2 {xm : Nat → XY} {scr : Nat × (Nat → Int32)} {Y : XY} {pc : Nat} (hd : decode Y.2.1 pc = .ok (.dup_x2, 1)) : XSnd xm scr Y pc (x_dup_x2 (pc + 1)) := by
  refine XSnd_P fun L st h pc1 L1 st1 h1 ee => ?_
  split at ee
  · cases ee
    refine ⟨rfl, fun p l e R s m args below meth c β D cA d m0 z0 Q X hm0 hz0 hmR hzR k H locs ls hP hF hl => ?_⟩
    obtain ⟨hx, hb, hml, hown, hts, hK, -⟩ := X
    exact lv_dup_x2 hx hb hd (xv_cat _ _) (xv_cat _ _) (xv_cat _ _) (k H locs ls hP hF hl)
  · cases ee
def x_dup2 (n : Nat) : XI := xiN fun L st h => match st with
  | v :: w :: st => some (n, L, v :: w :: v :: w :: st, h)
  | _ => none
theorem s_dup2 {xm : Nat → XY} {scr : Nat × (Nat → Int32)} {Y : XY} {pc : Nat} (hd : decode Y.2.1 pc = .ok (.dup2, 1)) : XSnd xm scr Y pc (x_dup2 (pc + 1)) := by
  refine XSnd_P fun L st h pc1 L1 st1 h1 ee => ?_
  split at ee
  · cases ee
    refine ⟨rfl, fun p l e R s m args below meth c β D cA d m0 z0 Q X hm0 hz0 hmR hzR k H locs ls hP hF hl => ?_⟩
    obtain ⟨hx, hb, hml, hown, hts, hK, -⟩ := X
    exact lv_dup2_11 hx hb hd (xv_cat _ _) (xv_cat _ _) (k H locs ls hP hF hl)
  · cases ee
def x_iadd (n : Nat) : XI := xiN fun L st h => match st with
  | .inl y :: .inl x :: st => some (n, L, .inl (x + y) :: st, h)
  | _ => none
theorem s_iadd {xm : Nat → XY} {scr : Nat × (Nat → Int32)} {Y : XY} {pc : Nat} (hd : decode Y.2.1 pc = .ok (.iadd, 1)) : XSnd xm scr Y pc (x_iadd (pc + 1)) := by
  refine XSnd_P fun L st h pc1 L1 st1 h1 ee => ?_
  split at ee
  · cases ee
    refine ⟨rfl, fun p l e R s m args below meth c β D cA d m0 z0 Q X hm0 hz0 hmR hzR k H locs ls hP hF hl => ?_⟩
    obtain ⟨hx, hb, hml, hown, hts, hK, -⟩ := X
    exact lv_iadd hx hb hd (k H locs ls hP hF hl)
  · cases ee
def x_isub (n : Nat) : XI := xiN fun L st h => match st with
  | .inl y :: .inl x :: st => some (n, L, .inl (x - y) :: st, h)
  | _ => none
theorem s_isub {xm : Nat → XY} {scr : Nat × (Nat → Int32)} {Y : XY} {pc : Nat} (hd : decode Y.2.1 pc = .ok (.isub, 1)) : XSnd xm scr Y pc (x_isub (pc + 1)) := by
  refine XSnd_P fun L st h pc1 L1 st1 h1 ee => ?_
  split at ee
  · cases ee
    refine ⟨rfl, fun p l e R s m args below meth c β D cA d m0 z0 Q X hm0 hz0 hmR hzR k H locs ls hP hF hl => ?_⟩
    obtain ⟨hx, hb, hml, hown, hts, hK, -⟩ := X
    exact lv_isub hx hb hd (k H locs ls hP hF hl)
  · cases ee
def x_imul (n : Nat) : XI := xiN fun L st h => match st with
  | .inl y :: .inl x :: st => some (n, L, .inl (x * y) :: st, h)
  | _ => none
theorem s_imul {xm : Nat → XY} {scr : Nat × (Nat → Int32)} {Y : XY} {pc : Nat} (hd : decode Y.2.1 pc = .ok (.imul, 1)) : XSnd xm scr Y pc (x_imul (pc + 1)) := by
  refine XSnd_P fun L st h pc1 L1 st1 h1 ee => ?_
  split at ee
  · cases ee
    refine ⟨rfl, fun p l e R s m args below meth c β D cA d m0 z0 Q X hm0 hz0 hmR hzR k H locs ls hP hF hl => ?_⟩
    obtain ⟨hx, hb, hml, hown, hts, hK, -⟩ := X
    exact lv_imul hx hb hd (k H locs ls hP hF hl)
  · cases ee
def x_iand (n : Nat) : XI := xiN fun L st h => match st with
  | .inl y :: .inl x :: st => some (n, L, .inl (x &&& y) :: st, h)
  | _ => none
theorem s_iand {xm : Nat → XY} {scr : Nat × (Nat → Int32)} {Y : XY} {pc : Nat} (hd : decode Y.2.1 pc = .ok (.iand, 1)) : XSnd xm scr Y pc (x_iand (pc + 1)) := by
  refine XSnd_P fun L st h pc1 L1 st1 h1 ee => ?_
  split at ee
  · cases ee
    refine ⟨rfl, fun p l e R s m args below meth c β D cA d m0 z0 Q X hm0 hz0 hmR hzR k H locs ls hP hF hl => ?_⟩
    obtain ⟨hx, hb, hml, hown, hts, hK, -⟩ := X
    exact lv_iand hx hb hd (k H locs ls hP hF hl)
  · cases ee
def x_ior (n : Nat) : XI := xiN fun L st h => match st with
  | .inl y :: .inl x :: st => some (n, L, .inl (x ||| y) :: st, h)
  | _ => none
theorem s_ior {xm : Nat → XY} {scr : Nat × (Nat → Int32)} {Y : XY} {pc : Nat} (hd : decode Y.2.1 pc = .ok (.ior, 1)) : XSnd xm scr Y pc (x_ior (pc + 1)) := by
  refine XSnd_P fun L st h pc1 L1 st1 h1 ee => ?_
  split at ee
  · cases ee
    refine ⟨rfl, fun p l e R s m args below meth c β D cA d m0 z0 Q X hm0 hz0 hmR hzR k H locs ls hP hF hl => ?_⟩
    obtain ⟨hx, hb, hml, hown, hts, hK, -⟩ := X
    exact lv_ior hx hb hd (k H locs ls hP hF hl)
  · cases ee
def x_ixor (n : Nat) : XI := xiN fun L st h => match st with
  | .inl y :: .inl x :: st => some (n, L, .inl (x ^^^ y) :: st, h)
  | _ => none
theorem s_ixor {xm : Nat → XY} {scr : Nat × (Nat → Int32)} {Y : XY} {pc : Nat} (hd : decode Y.2.1 pc = .ok (.ixor, 1)) : XSnd xm scr Y pc (x_ixor (pc + 1)) := by
  refine XSnd_P fun L st h pc1 L1 st1 h1 ee => ?_
  split at ee
  · cases ee
    refine ⟨rfl, fun p l e R s m args below meth c β D cA d m0 z0 Q X hm0 hz0 hmR hzR k H locs ls hP hF hl => ?_⟩
    obtain ⟨hx, hb, hml, hown, hts, hK, -⟩ := X
    exact lv_ixor hx hb hd (k H locs ls hP hF hl)
  · cases ee
def x_ishl (n : Nat) : XI := xiN fun L st h => match st with
  | .inl y :: .inl x :: st => some (n, L, .inl (x <<< (y &&& 31)) :: st, h)
  | _ => none
theorem s_ishl {xm : Nat → XY} {scr : Nat × (Nat → Int32)} {Y : XY} {pc : Nat} (hd : decode Y.2.1 pc = .ok (.ishl, 1)) : XSnd xm scr Y pc (x_ishl (pc + 1)) := by
  refine XSnd_P fun L st h pc1 L1 st1 h1 ee => ?_
  split at ee
  · cases ee
    refine ⟨rfl, fun p l e R s m args below meth c β D cA d m0 z0 Q X hm0 hz0 hmR hzR k H locs ls hP hF hl => ?_⟩
    obtain ⟨hx, hb, hml, hown, hts, hK, -⟩ := X
    exact lv_ishl hx hb hd (k H locs ls hP hF hl)
  · cases ee
def x_iushr (n : Nat) : XI := xiN fun L st h => match st with
  | .inl y :: .inl x :: st => some (n, L, .inl ((x.toUInt32 >>> (y.toUInt32 &&& Int32.toUInt32 31)).toInt32) :: st, h)
  | _ => none
theorem s_iushr {xm : Nat → XY} {scr : Nat × (Nat → Int32)} {Y : XY} {pc : Nat} (hd : decode Y.2.1 pc = .ok (.iushr, 1)) : XSnd xm scr Y pc (x_iushr (pc + 1)) := by
  refine XSnd_P fun L st h pc1 L1 st1 h1 ee => ?_
  split at ee
  · cases ee
    refine ⟨rfl, fun p l e R s m args below meth c β D cA d m0 z0 Q X hm0 hz0 hmR hzR k H locs ls hP hF hl => ?_⟩
    obtain ⟨hx, hb, hml, hown, hts, hK, -⟩ := X
    exact lv_iushr hx hb hd rfl (k H locs ls hP hF hl)
  · cases ee
def x_ineg (n : Nat) : XI := xiN fun L st h => match st with
  | .inl x :: st => some (n, L, .inl (-x) :: st, h)
  | _ => none
theorem s_ineg {xm : Nat → XY} {scr : Nat × (Nat → Int32)} {Y : XY} {pc : Nat} (hd : decode Y.2.1 pc = .ok (.ineg, 1)) : XSnd xm scr Y pc (x_ineg (pc + 1)) := by
  refine XSnd_P fun L st h pc1 L1 st1 h1 ee => ?_
  split at ee
  · cases ee
    refine ⟨rfl, fun p l e R s m args below meth c β D cA d m0 z0 Q X hm0 hz0 hmR hzR k H locs ls hP hF hl => ?_⟩
    obtain ⟨hx, hb, hml, hown, hts, hK, -⟩ := X
    exact lv_ineg hx hb hd (k H locs ls hP hF hl)
  · cases ee
def x_idiv (n : Nat) : XI := xiN fun L st h => match st with
  | .inl y :: .inl x :: st => if y = 0 then none else some (n, L, .inl (x / y) :: st, h)
  | _ => none
theorem s_idiv {xm : Nat → XY} {scr : Nat × (Nat → Int32)} {Y : XY} {pc : Nat} (hd : decode Y.2.1 pc = .ok (.idiv, 1)) : XSnd xm scr Y pc (x_idiv (pc + 1)) := by
  refine XSnd_P fun L st h pc1 L1 st1 h1 ee => ?_
  split at ee
  · split at ee
    · cases ee
    rename_i hne
    cases ee
    refine ⟨rfl, fun p l e R s m args below meth c β D cA d m0 z0 Q X hm0 hz0 hmR hzR k H locs ls hP hF hl => ?_⟩
    obtain ⟨hx, hb, hml, hown, hts, hK, -⟩ := X
    exact lv_idiv hx hb hd hne (k H locs ls hP hF hl)
  · cases ee
def x_irem (n : Nat) : XI := xiN fun L st h => match st with
  | .inl y :: .inl x :: st => if y = 0 then none else some (n, L, .inl (x - x / y * y) :: st, h)
  | _ => none
theorem s_irem {xm : Nat → XY} {scr : Nat × (Nat → Int32)} {Y : XY} {pc : Nat} (hd : decode Y.2.1 pc = .ok (.irem, 1)) : XSnd xm scr Y pc (x_irem (pc + 1)) := by
  refine XSnd_P fun L st h pc1 L1 st1 h1 ee => ?_
  split at ee
  · split at ee
    · cases ee
    rename_i hne
    cases ee
    refine ⟨rfl, fun p l e R s m args below meth c β D cA d m0 z0 Q X hm0 hz0 hmR hzR k H locs ls hP hF hl => ?_⟩
    obtain ⟨hx, hb, hml, hown, hts, hK, -⟩ := X
    exact lv_irem hx hb hd hne (k H locs ls hP hF hl)
  · cases ee
def x_goto (t : Nat) : XI := xiN fun L st h => some (t, L, st, h)
theorem s_goto {xm : Nat → XY} {scr : Nat × (Nat → Int32)} {Y : XY} {pc : Nat} {off : Int} {t : Nat} (hd : decode Y.2.1 pc = .ok (.goto off, 3)) (ht : (pc : Int) + off = (t : Int)) : XSnd xm scr Y pc (x_goto t) := by
  refine XSnd_P fun L st h pc1 L1 st1 h1 ee => ?_
  cases ee
  refine ⟨rfl, fun p l e R s m args below meth c β D cA d m0 z0 Q X hm0 hz0 hmR hzR k H locs ls hP hF hl => ?_⟩
  obtain ⟨hx, hb, hml, hown, hts, hK, -⟩ := X
  exact lv_goto hx hb hd ht (k H locs ls hP hF hl)
def x_ifeq (t n : Nat) : XI := xiN fun L st h => match st with
  | .inl x :: st => if x = 0 then some (t, L, st, h) else some (n, L, st, h)
  | _ => none
def x_ifne (t n : Nat) : XI := xiN fun L st h => match st with
  | .inl x :: st => if ¬ x = 0 then some (t, L, st, h) else some (n, L, st, h)
  | _ => none
def x_iflt (t n : Nat) : XI := xiN fun L st h => match st with
  | .inl x :: st => if x < 0 then some (t, L, st, h) else some (n, L, st, h)
  | _ => none
def x_ifge (t n : Nat) : XI := xiN fun L st h => match st with
  | .inl x :: st => if 0 ≤ x then some (t, L, st, h) else some (n, L, st, h)
  | _ => none
def x_ifgt (t n : Nat) : XI := xiN fun L st h => match st with
  | .inl x :: st => if 0 < x then some (t, L, st, h) else some (n, L, st, h)
  | _ => none
def x_ifle (t n : Nat) : XI := xiN fun L st h => match st with
  | .inl x :: st => if x ≤ 0 then some (t, L, st, h) else some (n, L, st, h)
  | _ => none
def x_iceq (t n : Nat) : XI := xiN fun L st h => match st with
  | .inl y :: .inl x :: st => if x = y then some (t, L, st, h) else some (n, L, st, h)
  | _ => none
def x_icne (t n : Nat) : XI := xiN fun L st h => match st with
  | .inl y :: .inl x :: st => if ¬ x = y then some (t, L, st, h) else some (n, L, st, h)
  | _ => none
def x_iclt (t n : Nat) : XI := xiN fun L st h => match st with
  | .inl y :: .inl x :: st => if x < y then some (t, L, st, h) else some (n, L, st, h)
  | _ => none
def x_icge (t n : Nat) : XI := xiN fun L st h => match st with
  | .inl y :: .inl x :: st => if y ≤ x then some (t, L, st, h) else some (n, L, st, h)
  | _ => none
def x_icgt (t n : Nat) : XI := xiN fun L st h => match st with
  | .inl y :: .inl x :: st => if y < x then some (t, L, st, h) else some (n, L, st, h)
  | _ => none
def x_icle (t n : Nat) : XI := xiN fun L st h => match st with
  | .inl y :: .inl x :: st => if x ≤ y then some (t, L, st, h) else some (n, L, st, h)
  | _ => none
theorem s_ifeq {xm : Nat → XY} {scr : Nat × (Nat → Int32)} {Y : XY} {pc : Nat} {off : Int} {t : Nat} (hd : decode Y.2.1 pc = .ok (.ifCond .eq off, 3)) (ht : (pc : Int) + off = (t : Int)) : XSnd xm scr Y pc (x_ifeq t (pc + 3)) := by
  refine XSnd_P fun L st h pc1 L1 st1 h1 ee => ?_
  split at ee
  · split at ee
    · rename_i hc
      cases ee
      refine ⟨rfl, fun p l e R s m args below meth c β D cA d m0 z0 Q X hm0 hz0 hmR hzR k H locs ls hP hF hl => ?_⟩
      obtain ⟨hx, hb, hml, hown, hts, hK, -⟩ := X
      exact lv_if_eq hx hb hd ht (fun _ => (k H locs ls hP hF hl)) (fun q => absurd hc q)
    · rename_i hc
      cases ee
      refine ⟨rfl, fun p l e R s m args below meth c β D cA d m0 z0 Q X hm0 hz0 hmR hzR k H locs ls hP hF hl => ?_⟩
      obtain ⟨hx, hb, hml, hown, hts, hK, -⟩ := X
      exact lv_if_eq hx hb hd ht (fun q => absurd q hc) (fun _ => (k H locs ls hP hF hl))
  · cases ee
theorem s_iceq {xm : Nat → XY} {scr : Nat × (Nat → Int32)} {Y : XY} {pc : Nat} {off : Int} {t : Nat} (hd : decode Y.2.1 pc = .ok (.if_icmp .eq off, 3)) (ht : (pc : Int) + off = (t : Int)) : XSnd xm scr Y pc (x_iceq t (pc + 3)) := by
  refine XSnd_P fun L st h pc1 L1 st1 h1 ee => ?_
  split at ee
  · split at ee
    · rename_i hc
      cases ee
      refine ⟨rfl, fun p l e R s m args below meth c β D cA d m0 z0 Q X hm0 hz0 hmR hzR k H locs ls hP hF hl => ?_⟩
      obtain ⟨hx, hb, hml, hown, hts, hK, -⟩ := X
      exact lv_icmp_eq hx hb hd ht (fun _ => (k H locs ls hP hF hl)) (fun q => absurd hc q)
    · rename_i hc
      cases ee
      refine ⟨rfl, fun p l e R s m args below meth c β D cA d m0 z0 Q X hm0 hz0 hmR hzR k H locs ls hP hF hl => ?_⟩
      obtain ⟨hx, hb, hml, hown, hts, hK, -⟩ := X
      exact lv_icmp_eq hx hb hd ht (fun q => absurd q hc) (fun _ => (k H locs ls hP hF hl))
  · cases ee
theorem s_ifne {xm : Nat → XY} {scr : Nat × (Nat → Int32)} {Y : XY} {pc : Nat} {off : Int} {t : Nat} (hd : decode Y.2.1 pc = .ok (.ifCond .ne off, 3)) (ht : (pc : Int) + off = (t : Int)) : XSnd xm scr Y pc (x_ifne t (pc + 3)) := by
  refine XSnd_P fun L st h pc1 L1 st1 h1 ee => ?_
  split at ee
  · split at ee
    · rename_i hc
      cases ee
      refine ⟨rfl, fun p l e R s m args below meth c β D cA d m0 z0 Q X hm0 hz0 hmR hzR k H locs ls hP hF hl => ?_⟩
      obtain ⟨hx, hb, hml, hown, hts, hK, -⟩ := X
      exact lv_if_ne hx hb hd ht (fun _ => (k H locs ls hP hF hl)) (fun q => absurd q hc)
    · rename_i hc
      cases ee
      refine ⟨rfl, fun p l e R s m args below meth c β D cA d m0 z0 Q X hm0 hz0 hmR hzR k H locs ls hP hF hl => ?_⟩
      obtain ⟨hx, hb, hml, hown, hts, hK, -⟩ := X
      exact lv_if_ne hx hb hd ht (fun q => absurd q hc) (fun _ => (k H locs ls hP hF hl))
  · cases ee
theorem s_icne {xm : Nat → XY} {scr : Nat × (Nat → Int32)} {Y : XY} {pc : Nat} {off : Int} {t : Nat} (hd : decode Y.2.1 pc = .ok (.if_icmp .ne off, 3)) (ht : (pc : Int) + off = (t : Int)) : XSnd xm scr Y pc (x_icne t (pc + 3)) := by
  refine XSnd_P fun L st h pc1 L1 st1 h1 ee => ?_
  split at ee
  · split at ee
    · rename_i hc
      cases ee
      refine ⟨rfl, fun p l e R s m args below meth c β D cA d m0 z0 Q X hm0 hz0 hmR hzR k H locs ls hP hF hl => ?_⟩
      obtain ⟨hx, hb, hml, hown, hts, hK, -⟩ := X
      exact lv_icmp_ne hx hb hd ht (fun _ => (k H locs ls hP hF hl)) (fun q => absurd q hc)
    · rename_i hc
      cases ee
      refine ⟨rfl, fun p l e R s m args below meth c β D cA d m0 z0 Q X hm0 hz0 hmR hzR k H locs ls hP hF hl => ?_⟩
      obtain ⟨hx, hb, hml, hown, hts, hK, -⟩ := X
      exact lv_icmp_ne hx hb hd ht (fun q => absurd q hc) (fun _ => (k H locs ls hP hF hl))
  · cases ee
theorem s_iflt {xm : Nat → XY} {scr : Nat × (Nat → Int32)} {Y : XY} {pc : Nat} {off : Int} {t : Nat} (hd : decode Y.2.1 pc = .ok (.ifCond .lt off, 3)) (ht : (pc : Int) + off = (t : Int)) : XSnd xm scr Y pc (x_iflt t (pc + 3)) := by
  refine XSnd_P fun L st h pc1 L1 st1 h1 ee => ?_
  split at ee
  · split at ee
    · rename_i hc
      cases ee
      refine ⟨rfl, fun p l e R s m args below meth c β D cA d m0 z0 Q X hm0 hz0 hmR hzR k H locs ls hP hF hl => ?_⟩
      obtain ⟨hx, hb, hml, hown, hts, hK, -⟩ := X
      exact lv_if_lt hx hb hd ht (fun _ => (k H locs ls hP hF hl)) (fun q => absurd hc q)
    · rename_i hc
      cases ee
      refine ⟨rfl, fun p l e R s m args below meth c β D cA d m0 z0 Q X hm0 hz0 hmR hzR k H locs ls hP hF hl => ?_⟩
      obtain ⟨hx, hb, hml, hown, hts, hK, -⟩ := X
      exact lv_if_lt hx hb hd ht (fun q => absurd q hc) (fun _ => (k H locs ls hP hF hl))
  · cases ee
theorem s_iclt {xm : Nat → XY} {scr : Nat × (Nat → Int32)} {Y : XY} {pc : Nat} {off : Int} {t : Nat} (hd : decode Y.2.1 pc = .ok (.if_icmp .lt off, 3)) (ht : (pc : Int) + off = (t : Int)) : XSnd xm scr Y pc (x_iclt t (pc + 3)) := by
  refine XSnd_P fun L st h pc1 L1 st1 h1 ee => ?_
  split at ee
  · split at ee
    · rename_i hc
      cases ee
      refine ⟨rfl, fun p l e R s m args below meth c β D cA d m0 z0 Q X hm0 hz0 hmR hzR k H locs ls hP hF hl => ?_⟩
      obtain ⟨hx, hb, hml, hown, hts, hK, -⟩ := X
      exact lv_icmp_lt hx hb hd ht (fun _ => (k H locs ls hP hF hl)) (fun q => absurd hc q)
    · rename_i hc
      cases ee
      refine ⟨rfl, fun p l e R s m args below meth c β D cA d m0 z0 Q X hm0 hz0 hmR hzR k H locs ls hP hF hl => ?_⟩
      obtain ⟨hx, hb, hml, hown, hts, hK, -⟩ := X
      exact lv_icmp_lt hx hb hd ht (fun q => absurd q hc) (fun _ => (k H locs ls hP hF hl))
  · cases ee
theorem s_ifge {xm : Nat → XY} {scr : Nat × (Nat → Int32)} {Y : XY} {pc : Nat} {off : Int} {t : Nat} (hd : decode Y.2.1 pc = .ok (.ifCond .ge off, 3)) (ht : (pc : Int) + off = (t : Int)) : XSnd xm scr Y pc (x_ifge t (pc + 3)) := by
  refine XSnd_P fun L st h pc1 L1 st1 h1 ee => ?_
  split at ee
  · split at ee
    · rename_i hc
      cases ee
      refine ⟨rfl, fun p l e R s m args below meth c β D cA d m0 z0 Q X hm0 hz0 hmR hzR k H locs ls hP hF hl => ?_⟩
      obtain ⟨hx, hb, hml, hown, hts, hK, -⟩ := X
      exact lv_if_ge hx hb hd ht (fun _ => (k H locs ls hP hF hl)) (fun q => absurd hc q)
    · rename_i hc
      cases ee
      refine ⟨rfl, fun p l e R s m args below meth c β D cA d m0 z0 Q X hm0 hz0 hmR hzR k H locs ls hP hF hl => ?_⟩
      obtain ⟨hx, hb, hml, hown, hts, hK, -⟩ := X
      exact lv_if_ge hx hb hd ht (fun q => absurd q hc) (fun _ => (k H locs ls hP hF hl))
  · cases ee
theorem s_icge {xm : Nat → XY} {scr : Nat × (Nat → Int32)} {Y : XY} {pc : Nat} {off : Int} {t : Nat} (hd : decode Y.2.1 pc = .ok (.if_icmp .ge off, 3)) (ht : (pc : Int) + off = (t : Int)) : XSnd xm scr Y pc (x_icge t (pc + 3)) := by
  refine XSnd_P fun L st h pc1 L1 st1 h1 ee => ?_
  split at ee
  · split at ee
    · rename_i hc
      cases ee
      refine ⟨rfl, fun p l e R s m args below meth c β D cA d m0 z0 Q X hm0 hz0 hmR hzR k H locs ls hP hF hl => ?_⟩
      obtain ⟨hx, hb, hml, hown, hts, hK, -⟩ := X
      exact lv_icmp_ge hx hb hd ht (fun _ => (k H locs ls hP hF hl)) (fun q => absurd hc q)
    · rename_i hc
      cases ee
      refine ⟨rfl, fun p l e R s m args below meth c β D cA d m0 z0 Q X hm0 hz0 hmR hzR k H locs ls hP hF hl => ?_⟩
      obtain ⟨hx, hb, hml, hown, hts, hK, -⟩ := X
      exact lv_icmp_ge hx hb hd ht (fun q => absurd q hc) (fun _ => (k H locs ls hP hF hl))
  · cases ee
theorem s_ifgt {xm : Nat → XY} {scr : Nat × (Nat → Int32)} {Y : XY} {pc : Nat} {off : Int} {t : Nat} (hd : decode Y.2.1 pc = .ok (.ifCond .gt off, 3)) (ht : (pc : Int) + off = (t : Int)) : XSnd xm scr Y pc (x_ifgt t (pc + 3)) := by
  refine XSnd_P fun L st h pc1 L1 st1 h1 ee => ?_
  split at ee
  · split at ee
    · rename_i hc
      cases ee
      refine ⟨rfl, fun p l e R s m args below meth c β D cA d m0 z0 Q X hm0 hz0 hmR hzR k H locs ls hP hF hl => ?_⟩
      obtain ⟨hx, hb, hml, hown, hts, hK, -⟩ := X
      exact lv_if_gt hx hb hd ht (fun _ => (k H locs ls hP hF hl)) (fun q => absurd hc q)
    · rename_i hc
      cases ee
      refine ⟨rfl, fun p l e R s m args below meth c β D cA d m0 z0 Q X hm0 hz0 hmR hzR k H locs ls hP hF hl => ?_⟩
      obtain ⟨hx, hb, hml, hown, hts, hK, -⟩ := X
      exact lv_if_gt hx hb hd ht (fun q => absurd q hc) (fun _ => (k H locs ls hP hF hl))
  · cases ee
theorem s_icgt {xm : Nat → XY} {scr : Nat × (Nat → Int32)} {Y : XY} {pc : Nat} {off : Int} {t : Nat} (hd : decode Y.2.1 pc = .ok (.if_icmp .gt off, 3)) (ht : (pc : Int) + off = (t : Int)) : XSnd xm scr Y pc (x_icgt t (pc + 3)) := by
  refine XSnd_P fun L st h pc1 L1 st1 h1 ee => ?_
  split at ee
  · split at ee
    · rename_i hc
      cases ee
      refine ⟨rfl, fun p l e R s m args below meth c β D cA d m0 z0 Q X hm0 hz0 hmR hzR k H locs ls hP hF hl => ?_⟩
      obtain ⟨hx, hb, hml, hown, hts, hK, -⟩ := X
      exact lv_icmp_gt hx hb hd ht (fun _ => (k H locs ls hP hF hl)) (fun q => absurd hc q)
    · rename_i hc
      cases ee
      refine ⟨rfl, fun p l e R s m args below meth c β D cA d m0 z0 Q X hm0 hz0 hmR hzR k H locs ls hP hF hl => ?_⟩
      obtain ⟨hx, hb, hml, hown, hts, hK, -⟩ := X
      exact lv_icmp_gt hx hb hd ht (fun q => absurd q hc) (fun _ => (k H locs ls hP hF hl))
  · cases ee
theorem s_ifle {xm : Nat → XY} {scr : Nat × (Nat → Int32)} {Y : XY} {pc : Nat} {off : Int} {t : Nat} (hd : decode Y.2.1 pc = .ok (.ifCond .le off, 3)) (ht : (pc : Int) + off = (t : Int)) : XSnd xm scr Y pc (x_ifle t (pc + 3)) := by
  refine XSnd_P fun L st h pc1 L1 st1 h1 ee => ?_
  split at ee
  · split at ee
    · rename_i hc
      cases ee
      refine ⟨rfl, fun p l e R s m args below meth c β D cA d m0 z0 Q X hm0 hz0 hmR hzR k H locs ls hP hF hl => ?_⟩
      obtain ⟨hx, hb, hml, hown, hts, hK, -⟩ := X
      exact lv_if_le hx hb hd ht (fun _ => (k H locs ls hP hF hl)) (fun q => absurd hc q)
    · rename_i hc
      cases ee
      refine ⟨rfl, fun p l e R s m args below meth c β D cA d m0 z0 Q X hm0 hz0 hmR hzR k H locs ls hP hF hl => ?_⟩
      obtain ⟨hx, hb, hml, hown, hts, hK, -⟩ := X
      exact lv_if_le hx hb hd ht (fun q => absurd q hc) (fun _ => (k H locs ls hP hF hl))
  · cases ee
theorem s_icle {xm : Nat → XY} {scr : Nat × (Nat → Int32)} {Y : XY} {pc : Nat} {off : Int} {t : Nat} (hd : decode Y.2.1 pc = .ok (.if_icmp .le off, 3)) (ht : (pc : Int) + off = (t : Int)) : XSnd xm scr Y pc (x_icle t (pc + 3)) := by
  refine XSnd_P fun L st h pc1 L1 st1 h1 ee => ?_
  split at ee
  · split at ee
    · rename_i hc
      cases ee
      refine ⟨rfl, fun p l e R s m args below meth c β D cA d m0 z0 Q X hm0 hz0 hmR hzR k H locs ls hP hF hl => ?_⟩
      obtain ⟨hx, hb, hml, hown, hts, hK, -⟩ := X
      exact lv_icmp_le hx hb hd ht (fun _ => (k H locs ls hP hF hl)) (fun q => absurd hc q)
    · rename_i hc
      cases ee
      refine ⟨rfl, fun p l e R s m args below meth c β D cA d m0 z0 Q X hm0 hz0 hmR hzR k H locs ls hP hF hl => ?_⟩
      obtain ⟨hx, hb, hml, hown, hts, hK, -⟩ := X
      exact lv_icmp_le hx hb hd ht (fun q => absurd q hc) (fun _ => (k H locs ls hP hF hl))
  · cases ee
def x_tsw (lo hi : Int) (ts : List Nat) (t : Nat) : XI := xiN fun L st h => match st with
  | .inl x :: st => if x.toInt < lo ∨ hi < x.toInt then some (t, L, st, h) else match ts[(x.toInt - lo).toNat]? with
    | some u => some (u, L, st, h)
    | none => none
  | _ => none
theorem s_tsw {xm : Nat → XY} {scr : Nat × (Nat → Int32)} {Y : XY} {pc : Nat} {dflt lo hi : Int} {offs : Array Int} {len t : Nat} {ts : List Nat} (hd : decode Y.2.1 pc = .ok (.tableswitch dflt lo hi offs, len)) (ht : (pc : Int) + dflt = (t : Int)) (hts0 : offs.toList.map (fun o => (pc : Int) + o) = ts.map (fun (u : Nat) => (u : Int))) : XSnd xm scr Y pc (x_tsw lo hi ts t) := by
  refine XSnd_P fun L st h pc1 L1 st1 h1 ee => ?_
  split at ee
  · split at ee
    · rename_i hc
      cases ee
      refine ⟨rfl, fun p l e R s m args below meth c β D cA d m0 z0 Q X hm0 hz0 hmR hzR k H locs ls hP hF hl => ?_⟩
      obtain ⟨hx, hb, hml, hown, hts, hK, -⟩ := X
      exact lv_tableOut hx hb hd hc ht (k H locs ls hP hF hl)
    · rename_i hc
      split at ee
      · rename_i u hu
        cases ee
        refine ⟨rfl, fun p l e R s m args below meth c β D cA d m0 z0 Q X hm0 hz0 hmR hzR k H locs ls hP hF hl => ?_⟩
        obtain ⟨hx, hb, hml, hown, hts, hK, -⟩ := X
        have h2 := congrArg (Option.map (fun (u : Nat) => (u : Int))) hu
        rw [← List.getElem?_map, ← hts0, List.getElem?_map] at h2
        obtain ⟨o, ho, hou⟩ := Option.map_eq_some_iff.mp h2
        exact lv_tableIn hx hb hd (fun q => hc (Or.inl q)) (fun q => hc (Or.inr q)) (by rw [← Array.getElem?_toList]; exact ho) hou (k H locs ls hP hF hl)
      · cases ee
  · cases ee
def x_lsw (ps : List (Int × Nat)) (t : Nat) : XI := xiN fun L st h => match st with
  | .inl x :: st => some ((match ps.find? (fun q => decide (x.toInt = q.1)) with | some q => q.2 | none => t), L, st, h)
  | _ => none
theorem xlsw_off {pc : Nat} {d : Int} {t : Nat} (ht : (pc : Int) + d = (t : Int)) {x : Int} : ∀ {r : List (Int × Int)} {ps : List (Int × Nat)}, r.map (fun q => (q.1, (pc : Int) + q.2)) = ps.map (fun q => (q.1, (q.2 : Int))) → (pc : Int) + Op.lookupswitch.offset r d x = (((match ps.find? (fun q => decide (x = q.1)) with | some q => q.2 | none => t) : Nat) : Int)
  | [], [], _ => by simpa [Op.lookupswitch.offset] using ht
  | [], _ :: _, h => by simp at h
  | _ :: _, [], h => by simp at h
  | (a, o) :: r, (b, u) :: ps, h => by
    simp only [List.map_cons, List.cons.injEq, Prod.mk.injEq] at h
    obtain ⟨⟨rfl, h2⟩, h3⟩ := h
    rw [Op.lookupswitch.offset_cons, List.find?_cons]
    by_cases hx : x = a
    · simp [hx, h2]
    · simp only [hx, decide_false, if_false]
      rw [if_neg (fun e => hx e.symm)]
      exact xlsw_off ht h3
theorem s_lsw {xm : Nat → XY} {scr : Nat × (Nat → Int32)} {Y : XY} {pc : Nat} {dflt : Int} {r : Array (Int × Int)} {len t : Nat} {ps : List (Int × Nat)} (hd : decode Y.2.1 pc = .ok (.lookupswitch dflt r, len)) (hp : (r.toList.zip (r.toList.drop 1)).all (fun (a, next) => a.1 < next.1) = true) (ht : (pc : Int) + dflt = (t : Int)) (hps : r.toList.map (fun q => (q.1, (pc : Int) + q.2)) = ps.map (fun q => (q.1, (q.2 : Int)))) : XSnd xm scr Y pc (x_lsw ps t) := by
  refine XSnd_P fun L st h pc1 L1 st1 h1 ee => ?_
  split at ee
  · cases ee
    refine ⟨rfl, fun p l e R s m args below meth c β D cA d m0 z0 Q X hm0 hz0 hmR hzR k H locs ls hP hF hl => ?_⟩
    obtain ⟨hx, hb, hml, hown, hts, hK, -⟩ := X
    exact lv_lookup hx hb hd hp rfl (xlsw_off ht hps) (k H locs ls hP hF hl)
  · cases ee
def x_ret : XI := fun _ st _ => match st with
  | [] => .inr (.inr (some none))
  | _ => xbad
def x_iret : XI := fun _ st _ => match st with
  | [.inl x] => .inr (.inr (some (some (.inl x))))
  | _ => xbad
def x_zret : XI := fun _ st _ => match st with
  | [.inl x] => if x = 0 ∨ x = 1 then .inr (.inr (some (some (.inl x)))) else xbad
  | _ => xbad
theorem s_ret {xm : Nat → XY} {scr : Nat × (Nat → Int32)} {Y : XY} {pc : Nat} (hd : decode Y.2.1 pc = .ok (.return_, 1)) (hr : Y.2.2.2 = none) : XSnd xm scr Y pc x_ret := by
  intro L st h
  unfold x_ret
  split
  · exact ⟨fun _ _ _ _ e => (by cases e), fun _ _ _ _ e => (by cases e), fun r e => by cases e; exact Or.inl ⟨rfl, rfl, hd, hr⟩⟩
  · exact ⟨fun _ _ _ _ e => (by cases e), fun _ _ _ _ e => (by cases e), fun _ e => (by cases e)⟩
theorem s_iret {xm : Nat → XY} {scr : Nat × (Nat → Int32)} {Y : XY} {pc : Nat} (hd : decode Y.2.1 pc = .ok (.ireturn, 1)) (hr : Y.2.2.2 = some .int) : XSnd xm scr Y pc x_iret := by
  intro L st h
  unfold x_iret
  split
  · exact ⟨fun _ _ _ _ e => (by cases e), fun _ _ _ _ e => (by cases e), fun r e => by cases e; exact Or.inr ⟨_, .int, rfl, rfl, hd, hr, rfl⟩⟩
  · exact ⟨fun _ _ _ _ e => (by cases e), fun _ _ _ _ e => (by cases e), fun _ e => (by cases e)⟩
theorem xnarZ {x : Int32} (h : x = 0 ∨ x = 1) : narrow .boolean (.int x) = .int x := by
  rcases h with rfl | rfl <;> rfl
theorem s_zret {xm : Nat → XY} {scr : Nat × (Nat → Int32)} {Y : XY} {pc : Nat} (hd : decode Y.2.1 pc = .ok (.ireturn, 1)) (hr : Y.2.2.2 = some .boolean) : XSnd xm scr Y pc x_zret := by
  intro L st h
  unfold x_zret
  split
  · split
    · rename_i hz
      exact ⟨fun _ _ _ _ e => (by cases e), fun _ _ _ _ e => (by cases e), fun r e => by cases e; exact Or.inr ⟨_, .boolean, rfl, rfl, hd, hr, xnarZ hz⟩⟩
    · exact ⟨fun _ _ _ _ e => (by cases e), fun _ _ _ _ e => (by cases e), fun _ e => (by cases e)⟩
  · exact ⟨fun _ _ _ _ e => (by cases e), fun _ _ _ _ e => (by cases e), fun _ e => (by cases e)⟩
end
section
/-! 05: the instructions on cells -/
def x_getI (ci f n : Nat) : XI := xiN fun L st h => match st with
  | .inr (some (some i)) :: st => if i < xM h ∧ xK h i = .inl ci then some (n, L, .inl (xS h i f) :: st, h) else none
  | _ => none
theorem s_getI {xm : Nat → XY} {scr : Nat × (Nat → Int32)} {Y : XY} {pc : Nat} {ci f : Nat} {C : String} {T : u_T} (hC : XCl ci C T) (hk : f < xnf ci) {idx : Nat} (hw : Cond.fieldLink Y.1.cls idx (T f).1 (T f).2.1 (T f).2.2.1 ∈ xtbl) (hr : xisR (xty ci f) = false) (hd : decode Y.2.1 pc = .ok (.getfield idx, 3)) : XSnd xm scr Y pc (x_getI ci f (pc + 3)) := by
  refine XSnd_P fun L st h pc1 L1 st1 h1 ee => ?_
  split at ee
  · split at ee
    · rename_i i st0 hc
      cases ee
      refine ⟨rfl, fun p l e R s m args below meth c β D cA d m0 z0 Q X hm0 hz0 hmR hzR k H locs ls hP hF hl => ?_⟩
      obtain ⟨hx, hb, hml, hown, hts, hK, hnm, hbs, -⟩ := X
      refine va_get (ci := ci) (a := β.1 + i) hx hb hts hC.2.1 hown hK.1 (XP_one hP hc.1 (by rw [hc.2]; rfl) (xe_obj hc.2)) 0 rfl hC.1 f hk (hts _ hw) (fun _ g => g) ?_ hd (k H locs ls hP hF hl)
      exact (xfs_at β h i ci hk).trans (by rw [hr]; rfl)
    · cases ee
  · cases ee
def x_getR (ci f n : Nat) : XI := xiN fun L st h => match st with
  | .inr (some (some i)) :: st => if i < xM h ∧ xK h i = .inl ci then match xR h i f with
    | some j => some (n, L, .inr (some (some j)) :: st, h)
    | none => none
    else none
  | _ => none
theorem s_getR {xm : Nat → XY} {scr : Nat × (Nat → Int32)} {Y : XY} {pc : Nat} {ci f : Nat} {C : String} {T : u_T} (hC : XCl ci C T) (hk : f < xnf ci) {idx : Nat} (hw : Cond.fieldLink Y.1.cls idx (T f).1 (T f).2.1 (T f).2.2.1 ∈ xtbl) (hr : xisR (xty ci f) = true) (hd : decode Y.2.1 pc = .ok (.getfield idx, 3)) : XSnd xm scr Y pc (x_getR ci f (pc + 3)) := by
  refine XSnd_P fun L st h pc1 L1 st1 h1 ee => ?_
  split at ee
  · split at ee
    · split at ee
      · rename_i i st0 hc _ j hj
        cases ee
        refine ⟨rfl, fun p l e R s m args below meth c β D cA d m0 z0 Q X hm0 hz0 hmR hzR k H locs ls hP hF hl => ?_⟩
        obtain ⟨hx, hb, hml, hown, hts, hK, hnm, hbs, -⟩ := X
        refine va_get (v := .ref (β.1 + j)) (ci := ci) (a := β.1 + i) hx hb hts hC.2.1 hown hK.1 (XP_one hP hc.1 (by rw [hc.2]; rfl) (xe_obj hc.2)) 0 rfl hC.1 f hk (hts _ hw) (fun _ g => g) ?_ hd (k H locs ls hP hF hl)
        exact (xfs_at β h i ci hk).trans (by rw [hr, hj]; rfl)
      · cases ee
    · cases ee
  · cases ee
/-- a field of a cell is written -/
theorem x_put_cell {β : XA} {D : va_G} {cA : Nat → ClassId} {h h' : XH} {H H1 : Heap} {s : State} {args : Array Value} {tys : List (ClassId × FieldType)} {own : String} {ci f i : Nat} {C : String} {T : u_T} {v : Value} {cell : Cell} (hC : XCl ci C T) (hts : ∀ w ∈ xtbl, w.before args s = true) (hK : va_K D xcl tys s) (hk : f < xnf ci) (hP : XP β D cA h H)
    (q2 : cell.cls = D.1 ci) (q3 : cell.vm = .none) (q4 : ∀ j, j < xnf ci → cell.slots[D.2 ci j]? = some (vp_V (xfs β h i ci) j)) (e1 : H1[β.1 + i]? = some (cell.setSlot (D.2 ci f) v)) (e2 : H1.size = H.size) (e3 : ∀ q : Nat, q ≠ β.1 + i → H1[q]? = H[q]?)
    (hm : xM h' = xM h) (hj : ∀ j, j ≠ i → xK h' j = xK h j ∧ xR h' j = xR h j ∧ xS h' j = xS h j) (hki : xK h' i = .inl ci) (hV : ∀ j, j < xnf ci → updV (vp_V (xfs β h i ci)) f v j = vp_V (xfs β h' i ci) j) : XP β D cA h' H1 := by
  have hap := va_apart (own := own) hts hC.2.1 (xty ci) hC.2.2.1 hC.2.2.2 hK hC.1
  refine XP_upd hP hm e2 e3 hj ?_
  rw [xe_obj hki]
  exact ⟨_, hC.1, t_OB.to (V := updV (vp_V (xfs β h i ci)) f v) ⟨_, e1, q2, q3, t_set q4 hap hk v⟩ hV⟩
theorem x_put {scr : Nat × (Nat → Int32)} {p : Program} {l : Launch} {e : Env} {R : Room} {s : State} {m : MethodId} {args : Array Value} {below : List Frame} {meth : Method} {c : Code} {Y : XY} {β : XA} {D : va_G} {cA : Nat → ClassId} {d cells slots pc idx i ci f : Nat} {Q : State → Prop} {h h' : XH} {H : Heap} {locs : List Loc} {ls : Array Slot} {rest : List Value} {C : String} {T : u_T} {v : Value}
    (X : XC scr p R s m args meth c Y β D cA d) (hC : XCl ci C T) (hk : f < xnf ci) (hw : Cond.fieldLink Y.1.cls idx (T f).1 (T f).2.1 (T f).2.2.1 ∈ xtbl) (hfin : (T f).2.2.2 = false ∨ ((T f).2.2.2 = true ∧ Y.1.name = "<init>" ∧ (T f).1 = Y.1.cls)) (hd : decode Y.2.1 pc = .ok (.putfield idx, 3))
    (hn : narrow (xty ci f) v = v) (hfit : fits (xty ci f) v = true) (hi : i < xM h) (hki : xK h i = .inl ci) (hP : XP β D cA h H) (hF : XF β s H locs)
    (hm : xM h' = xM h) (hj : ∀ j, j ≠ i → xK h' j = xK h j ∧ xR h' j = xR h j ∧ xS h' j = xS h j) (hki' : xK h' i = .inl ci) (hV : ∀ j, j < xnf ci → updV (vp_V (xfs β h i ci)) f v j = vp_V (xfs β h' i ci) j)
    (kk : ∀ H1 locs1, XP β D cA h' H1 → XF β s H1 locs1 → W p l e R s m args below meth c H1 locs1 cells slots Q (F0 m (pc + 3) ls rest)) : W p l e R s m args below meth c H locs cells slots Q (F0 m pc ls (v :: .ref (β.1 + i) :: rest)) := by
  obtain ⟨hx, hb, hml, hown, hts, hK, hnm, hbs, -⟩ := X
  have hat := hP.2 i hi (by rw [hki]; rfl)
  rw [xe_obj hki] at hat
  obtain ⟨r, h1, cell, q1, q2, q3, q4⟩ := hat
  have hr : r = (C, T, xnf ci) := Option.some.inj (h1.symm.trans hC.1)
  subst hr
  obtain ⟨hS, hfc, kC, hkC, hkind⟩ := hK.1.1 ci _ hC.1
  obtain ⟨cf, kf, fi, fd, hfi, hsl⟩ := hS f hk
  have hlay := hts _ (hC.2.1 _ (u_in_lay hk))
  have hst := (u_facts hfc hkC (u_lays hts hC.2.1 hk) hfi).1
  have hty := hC.2.2.1 f hk
  rcases hfin with hfin | ⟨hfin, hini, hdecl⟩
  · unfold u_lay at hlay
    rw [if_neg (by rw [hfin]; decide)] at hlay
    have h6 := u_store hfc hkC hkind hlay hfi hty hn hfit
    refine W.putK hx hb (f := fd) ⟨hown, hts _ hw, ⟨_, _, _, hfi⟩, hst⟩ (by rw [q2]; exact h6) q1 q3 (by rw [hsl]; exact k2_hasslot (q4 f hk)) rfl rfl hd fun H' e1 e2 e3 => ?_
    rw [hsl] at e1 ⊢
    exact kk H' _ (x_put_cell (own := Y.1.cls) hC hts hK.1 hk hP q2 q3 q4 e1 e2 e3 hm hj hki' hV) (XF_put hF e3)
  · unfold u_lay at hlay
    rw [if_pos hfin] at hlay
    have hcf : m.cls = cf := by
      obtain ⟨_, _, c', _, _, _, -, -, hf', -, -, -, hown2, -⟩ := Cond.laysFinal_spec hlay
      have e1 : c' = cf := by have := hfi.symm.trans hf'; simp at this; exact this.1.symm
      rw [hdecl] at hown2
      rw [← e1]; exact Option.some.inj (hown.symm.trans hown2)
    have h6 := u_fits hfc hkC hkind (Or.inr hlay) hfi hty hn hfit
    refine W.putFinK hx hb hown (hts _ hw) hfi hst hcf (hnm hini) (by rw [q2]; exact h6) q1 q3 (by rw [hsl]; exact k2_hasslot (q4 f hk)) rfl rfl hd fun H' e1 e2 e3 => ?_
    rw [hsl] at e1 ⊢
    exact kk H' _ (x_put_cell (own := Y.1.cls) hC hts hK.1 hk hP q2 q3 q4 e1 e2 e3 hm hj hki' hV) (XF_put hF e3)
theorem xsetS_V {β : XA} {h : XH} {i ci f : Nat} {v : Int32} (hk : f < xnf ci) (hr : xisR (xty ci f) = false) : ∀ j, j < xnf ci → updV (vp_V (xfs β h i ci)) f (.int v) j = vp_V (xfs β (xsetS h i (upd (xS h i) f v)) i ci) j := by
  intro j hj
  rw [xfs_V _ _ _ _ hj]
  have e1 : xS (xsetS h i (upd (xS h i) f v)) i j = upd (xS h i) f v j := congrFun (if_pos rfl) j
  have e2 : xR (xsetS h i (upd (xS h i) f v)) i j = xR h i j := rfl
  rw [e1, e2]
  unfold updV upd
  by_cases g : j = f
  · subst g
    rw [if_pos rfl, if_pos rfl, hr]
    rfl
  · rw [if_neg g, if_neg g, xfs_V _ _ _ _ hj]
theorem xsetR_V {β : XA} {h : XH} {i ci f j0 : Nat} (hk : f < xnf ci) (hr : xisR (xty ci f) = true) : ∀ j, j < xnf ci → updV (vp_V (xfs β h i ci)) f (.ref (β.1 + j0)) j = vp_V (xfs β (xsetR h i (xup (xR h i) f (some j0))) i ci) j := by
  intro j hj
  rw [xfs_V _ _ _ _ hj]
  have e1 : xR (xsetR h i (xup (xR h i) f (some j0))) i j = xup (xR h i) f (some j0) j := congrFun (if_pos rfl) j
  have e2 : xS (xsetR h i (xup (xR h i) f (some j0))) i j = xS h i j := rfl
  rw [e1, e2]
  unfold updV xup
  by_cases g : j = f
  · subst g
    rw [if_pos rfl, if_pos rfl, hr]
    rfl
  · rw [if_neg g, if_neg g, xfs_V _ _ _ _ hj]
theorem xsetS_off {h : XH} {i : Nat} {g : Nat → Int32} : ∀ j, j ≠ i → xK (xsetS h i g) j = xK h j ∧ xR (xsetS h i g) j = xR h j ∧ xS (xsetS h i g) j = xS h j := fun _ hj => ⟨rfl, rfl, if_neg hj⟩
theorem xsetR_off {h : XH} {i : Nat} {g : Nat → Option Nat} : ∀ j, j ≠ i → xK (xsetR h i g) j = xK h j ∧ xR (xsetR h i g) j = xR h j ∧ xS (xsetR h i g) j = xS h j := fun _ hj => ⟨rfl, if_neg hj, rfl⟩
def x_putI (ci f n : Nat) : XI := xiN fun L st h => match st with
  | .inl v :: .inr (some (some i)) :: st => if i < xM h ∧ xK h i = .inl ci then some (n, L, st, xsetS h i (upd (xS h i) f v)) else none
  | _ => none
def x_putZ (ci f n : Nat) : XI := xiN fun L st h => match st with
  | .inl v :: .inr (some (some i)) :: st => if (i < xM h ∧ xK h i = .inl ci) ∧ (v = 0 ∨ v = 1) then some (n, L, st, xsetS h i (upd (xS h i) f v)) else none
  | _ => none
def x_putR (ci f n : Nat) : XI := xiN fun L st h => match st with
  | .inr (some (some j)) :: .inr (some (some i)) :: st => if i < xM h ∧ xK h i = .inl ci then some (n, L, st, xsetR h i (xup (xR h i) f (some j))) else none
  | _ => none
theorem s_putI {xm : Nat → XY} {scr : Nat × (Nat → Int32)} {Y : XY} {pc : Nat} {ci f : Nat} {C : String} {T : u_T} (hC : XCl ci C T) (hk : f < xnf ci) {idx : Nat} (hw : Cond.fieldLink Y.1.cls idx (T f).1 (T f).2.1 (T f).2.2.1 ∈ xtbl) (hty : xty ci f = .int) (hfin : (T f).2.2.2 = false ∨ ((T f).2.2.2 = true ∧ Y.1.name = "<init>" ∧ (T f).1 = Y.1.cls)) (hd : decode Y.2.1 pc = .ok (.putfield idx, 3)) : XSnd xm scr Y pc (x_putI ci f (pc + 3)) := by
  refine XSnd_N fun L st h pc1 L1 st1 h1 ee => ?_
  split at ee
  · split at ee
    · rename_i v i st0 hc
      cases ee
      refine ⟨Nat.le_refl _, Nat.le_refl _, fun p l e R s m args below meth c β D cA d m0 z0 Q X hm0 hz0 hmR hzR k H locs ls hP hF hl => ?_⟩
      exact x_put (h' := xsetS h i (upd (xS h i) f v)) X hC hk hw hfin hd (by rw [hty]; rfl) (by rw [hty]; rfl) hc.1 hc.2 hP hF rfl xsetS_off hc.2 (xsetS_V hk (by rw [hty]; rfl)) (fun H1 locs1 g1 g2 => k H1 locs1 ls g1 g2 hl)
    · cases ee
  · cases ee
theorem s_putZ {xm : Nat → XY} {scr : Nat × (Nat → Int32)} {Y : XY} {pc : Nat} {ci f : Nat} {C : String} {T : u_T} (hC : XCl ci C T) (hk : f < xnf ci) {idx : Nat} (hw : Cond.fieldLink Y.1.cls idx (T f).1 (T f).2.1 (T f).2.2.1 ∈ xtbl) (hty : xty ci f = .boolean) (hfin : (T f).2.2.2 = false ∨ ((T f).2.2.2 = true ∧ Y.1.name = "<init>" ∧ (T f).1 = Y.1.cls)) (hd : decode Y.2.1 pc = .ok (.putfield idx, 3)) : XSnd xm scr Y pc (x_putZ ci f (pc + 3)) := by
  refine XSnd_N fun L st h pc1 L1 st1 h1 ee => ?_
  split at ee
  · split at ee
    · rename_i v i st0 hc
      cases ee
      refine ⟨Nat.le_refl _, Nat.le_refl _, fun p l e R s m args below meth c β D cA d m0 z0 Q X hm0 hz0 hmR hzR k H locs ls hP hF hl => ?_⟩
      exact x_put (h' := xsetS h i (upd (xS h i) f v)) X hC hk hw hfin hd (by rw [hty]; exact xnarZ hc.2) (by rw [hty]; rcases hc.2 with rfl | rfl <;> rfl) hc.1.1 hc.1.2 hP hF rfl xsetS_off hc.1.2 (xsetS_V hk (by rw [hty]; rfl)) (fun H1 locs1 g1 g2 => k H1 locs1 ls g1 g2 hl)
    · cases ee
  · cases ee
theorem xnarR {t : FieldType} {a : Nat} (h : xisR t = true) : narrow t (.ref a) = .ref a ∧ fits t (.ref a) = true := by
  cases t <;> first | exact ⟨rfl, rfl⟩ | cases h
theorem s_putR {xm : Nat → XY} {scr : Nat × (Nat → Int32)} {Y : XY} {pc : Nat} {ci f : Nat} {C : String} {T : u_T} (hC : XCl ci C T) (hk : f < xnf ci) {idx : Nat} (hw : Cond.fieldLink Y.1.cls idx (T f).1 (T f).2.1 (T f).2.2.1 ∈ xtbl) (hr : xisR (xty ci f) = true) (hfin : (T f).2.2.2 = false ∨ ((T f).2.2.2 = true ∧ Y.1.name = "<init>" ∧ (T f).1 = Y.1.cls)) (hd : decode Y.2.1 pc = .ok (.putfield idx, 3)) : XSnd xm scr Y pc (x_putR ci f (pc + 3)) := by
  refine XSnd_N fun L st h pc1 L1 st1 h1 ee => ?_
  split at ee
  · split at ee
    · rename_i j i st0 hc
      cases ee
      refine ⟨Nat.le_refl _, Nat.le_refl _, fun p l e R s m args below meth c β D cA d m0 z0 Q X hm0 hz0 hmR hzR k H locs ls hP hF hl => ?_⟩
      exact x_put (h' := xsetR h i (xup (xR h i) f (some j))) X hC hk hw hfin hd (xnarR hr).1 (xnarR hr).2 hc.1 hc.2 hP hF rfl xsetR_off hc.2 (xsetR_V hk hr) (fun H1 locs1 g1 g2 => k H1 locs1 ls g1 g2 hl)
    · cases ee
  · cases ee
def x_new (ci n : Nat) : XI := xiN fun L st h => some (n, L, .inr (some (some (xM h))) :: st, xnew h (.inl ci) (xnf ci))
theorem s_new {xm : Nat → XY} {scr : Nat × (Nat → Int32)} {Y : XY} {pc : Nat} {ci : Nat} {C : String} {T : u_T} (hC : XCl ci C T) {idx : Nat} (hw : Cond.classLink Y.1.cls idx C ∈ xtbl) (hi1 : Cond.instantiable C (xnf ci) ∈ xtbl) (hi2 : Cond.initialized C ∈ xtbl) (hdf : ∀ j, j < xnf ci → defaultValue (xty ci j) = if xisR (xty ci j) = true then .null else .int 0) (hd : decode Y.2.1 pc = .ok (.new idx, 3)) : XSnd xm scr Y pc (x_new ci (pc + 3)) := by
  refine XSnd_N fun L st h pc1 L1 st1 h1 ee => ?_
  cases ee
  refine ⟨Nat.le_add_right _ _, Nat.le_add_right _ _, fun p l e R s m args below meth c β D cA d m0 z0 Q X hm0 hz0 hmR hzR k H locs ls hP hF hl => ?_⟩
  obtain ⟨hx, hb, hml, hown, hts, hK, hnm, hbs, -⟩ := X
  have hKn := hK.1.1 ci _ hC.1
  have hm1 : xM h - m0 + 1 = xM (xnew h (.inl ci) (xnf ci)) - m0 := by show _ = xM h + 1 - m0; omega
  have hz1 : xZ h - z0 + xnf ci = xZ (xnew h (.inl ci) (xnf ci)) - z0 := by show _ = xZ h + xnf ci - z0; omega
  refine W.newcK hx hb hown (hts _ hw) (hts _ hi1) (hts _ hi2) rfl hd (by rw [hm1]; exact hmR) (by rw [hz1]; exact hzR) hKn.2.1 hP.1 fun H1 kC hkC e1 z1 o1 => ?_
  rw [hm1, hz1]
  have hsz : β.1 + xM h = H.size := hP.1.symm
  refine k H1 locs ls (XP_push hP (by rw [z1, hsz]) (fun q hq => o1 q (by rw [hsz]; exact hq)) ?_) (XF_push hF (by omega) (fun q hq => o1 q (by rw [hsz]; exact hq))) hl
  have hk0 : xK (xnew h (.inl ci) (xnf ci)) (xM h) = .inl ci := if_pos rfl
  rw [xe_obj hk0]
  refine ⟨_, hC.1, (u_born (xty ci) hts hC.2.1 hKn hkC e1 hC.2.2.1).to fun j hj => ?_⟩
  rw [xfs_V _ _ _ _ hj]
  have e2 : xR (xnew h (.inl ci) (xnf ci)) (xM h) j = none := congrFun (if_pos rfl) j
  have e3 : xS (xnew h (.inl ci) (xnf ci)) (xM h) j = 0 := congrFun (if_pos rfl) j
  rw [e2, e3]
  exact hdf j hj
def x_newI (n : Nat) : XI := xiN fun L st h => match st with
  | .inl z :: st => if z < 0 ∨ 100000 < z.toNatClampNeg then none else some (n, L, .inr (some (some (xM h))) :: st, xnew h (.inr (0, z.toNatClampNeg)) z.toNatClampNeg)
  | _ => none
theorem s_newI {xm : Nat → XY} {scr : Nat × (Nat → Int32)} {Y : XY} {pc : Nat} (hw : Cond.arrayClass .int ∈ xtbl) (hd : decode Y.2.1 pc = .ok (.newarray .int, 2)) : XSnd xm scr Y pc (x_newI (pc + 2)) := by
  refine XSnd_N fun L st h pc1 L1 st1 h1 ee => ?_
  split at ee
  · split at ee
    · cases ee
    rename_i z st0 hc
    cases ee
    generalize hN : z.toNatClampNeg = N at hc
    refine ⟨Nat.le_add_right _ _, Nat.le_add_right _ _, fun p l e R s m args below meth c β D cA d m0 z0 Q X hm0 hz0 hmR hzR k H locs ls hP hF hl => ?_⟩
    obtain ⟨hx, hb, hml, hown, hts, hK, hnm, hbs, -⟩ := X
    have hm1 : xM h - m0 + 1 = xM (xnew h (.inr (0, N)) N) - m0 := by show _ = xM h + 1 - m0; omega
    have hz1 : xZ h - z0 + N = xZ (xnew h (.inr (0, N)) N) - z0 := by show _ = xZ h + N - z0; omega
    have hc1 : ¬ z < 0 := fun q => hc (Or.inl q)
    have hc2 : N ≤ 100000 := Nat.not_lt.mp fun q => hc (Or.inr q)
    refine va_newaK (atype := .int) hx hb (hts _ hw) rfl hd rfl hc1 hN (by show N * 4 ≤ 536870912; omega) (by rw [hm1]; exact hmR) (by rw [hz1]; exact hzR) hP.1 fun H1 cN e1 z1 o1 hAr hNm => ?_
    rw [hm1, hz1]
    have hsz : β.1 + xM h = H.size := hP.1.symm
    refine k H1 locs ls (XP_push hP (by rw [z1, hsz]) (fun q hq => o1 q (by rw [hsz]; exact hq)) ?_) (XF_push hF (by omega) (fun q hq => o1 q (by rw [hsz]; exact hq))) hl
    have hk0 : xK (xnew h (.inr (0, N)) N) (xM h) = .inr (0, N) := if_pos rfl
    rw [xe_int hk0]
    have e3 : xS (xnew h (.inr (0, N)) N) (xM h) = fun _ => 0 := if_pos rfl
    rw [e3]
    have hcA : cN = cA 0 := Option.some.inj (hNm.symm.trans (hK.1.2 0 (cA 0, xaT 0) rfl).2)
    show H1[_]? = some (vp_cell _ _)
    rw [← hcA, e1]
    rfl
  · cases ee
def x_newA (t n : Nat) : XI := xiN fun L st h => match st with
  | .inl z :: st => if z < 0 ∨ 100000 < z.toNatClampNeg then none else some (n, L, .inr (some (some (xM h))) :: st, xnew h (.inr (t + 1, z.toNatClampNeg)) z.toNatClampNeg)
  | _ => none
theorem s_newA {xm : Nat → XY} {scr : Nat × (Nat → Int32)} {Y : XY} {pc : Nat} {t idx : Nat} {C : String} (hC : xaT (t + 1) = .object C) (ht : t < 2) (hw : Cond.classLink Y.1.cls idx C ∈ xtbl) (hd : decode Y.2.1 pc = .ok (.anewarray idx, 3)) : XSnd xm scr Y pc (x_newA t (pc + 3)) := by
  refine XSnd_N fun L st h pc1 L1 st1 h1 ee => ?_
  split at ee
  · split at ee
    · cases ee
    rename_i z st0 hc
    cases ee
    generalize hN : z.toNatClampNeg = N at hc
    refine ⟨Nat.le_add_right _ _, Nat.le_add_right _ _, fun p l e R s m args below meth c β D cA d m0 z0 Q X hm0 hz0 hmR hzR k H locs ls hP hF hl => ?_⟩
    obtain ⟨hx, hb, hml, hown, hts, hK, hnm, hbs, -⟩ := X
    have hm1 : xM h - m0 + 1 = xM (xnew h (.inr (t + 1, N)) N) - m0 := by show _ = xM h + 1 - m0; omega
    have hz1 : xZ h - z0 + N = xZ (xnew h (.inr (t + 1, N)) N) - z0 := by show _ = xZ h + N - z0; omega
    have hc1 : ¬ z < 0 := fun q => hc (Or.inl q)
    have hc2 : N ≤ 100000 := Nat.not_lt.mp fun q => hc (Or.inr q)
    have hov : (Cond.arrayOver (.object C)).before args s = true := by
      have h9 : Cond.arrayOver (xaT (t + 1)) ∈ xnest := by
        rcases (show t = 0 ∨ t = 1 by omega) with rfl | rfl
        · exact List.mem_of_getElem? (i := 4) rfl
        · exact List.mem_of_getElem? (i := 5) rfl
      have h8 := hK.2 _ h9
      rw [hC] at h8
      exact va_AO.use h8
    have htys : (xtys cA)[t + 1]? = some (cA (t + 1), .object C) := by
      rw [← hC]
      rcases (show t = 0 ∨ t = 1 by omega) with rfl | rfl <;> rfl
    refine W.anew hx hb hown (hts _ hw) hov rfl hd rfl hc1 (by rw [hN]; omega) (by rw [hm1]; exact hmR) (by rw [hN, hz1]; exact hzR) fun cN kA comp f1 f2 f3 f4 => ?_
    rw [hN, hm1, hz1]
    generalize hH1 : H.push ({ cls := cN, slots := Array.replicate N .null, vm := .none } : Cell) = H1
    have z1 : H1.size = H.size + 1 := by rw [← hH1, Array.size_push]
    have e1 : H1[H.size]? = some (arrV cN N (fun _ => .null)) := by rw [← hH1, Array.getElem?_push_size, ← arrV_new]
    have o1 : ∀ q : Nat, q < H.size → H1[q]? = H[q]? := fun q hq => by rw [← hH1, Array.getElem?_push, if_neg (Nat.ne_of_lt hq)]
    have hsz : H.size = β.1 + xM h := hP.1
    rw [hsz]
    refine k H1 locs ls (XP_push hP z1 o1 ?_) (XF_push hF (by omega) o1) hl
    have hk0 : xK (xnew h (.inr (t + 1, N)) N) (xM h) = .inr (t + 1, N) := if_pos rfl
    rw [xe_ref hk0]
    have e3 : xR (xnew h (.inr (t + 1, N)) N) (xM h) = fun _ => none := if_pos rfl
    rw [e3]
    have hra : s.vm.findClass ("[" ++ (FieldType.object C).toString) = some (cA (t + 1)) := by
      obtain ⟨_, _, _, _, _, h9⟩ := (hK.1.2 (t + 1) _ htys).2
      exact h9
    have hcA : cN = cA (t + 1) := Option.some.inj (f1.symm.trans hra)
    show H1[_]? = some (vp_cell _ _)
    rw [← hcA, ← hsz, e1, vp_cell_q]
    rfl
  · cases ee
end
section
/-! 06: arrays, calls -/
def x_len (n : Nat) : XI := xiN fun L st h => match st with
  | .inr (some (some i)) :: st => if i < xM h then match xK h i with
    | .inr (t, N) => if t < 4 then some (n, L, .inl (Int32.ofNat N) :: st, h) else none
    | _ => none
    else none
  | _ => none
theorem xtys_at (cA : Nat → ClassId) {t : Nat} (ht : t < 4) : (xtys cA)[t]? = some (cA t, xaT t) := by
  rcases (show t = 0 ∨ t = 1 ∨ t = 2 ∨ t = 3 by omega) with rfl | rfl | rfl | rfl <;> rfl
theorem xal_arr {t N : Nat} (ht : t < 4) : xal (.inr (t, N)) = true := by
  show Nat.blt t 4 = true
  simpa [Nat.blt_eq] using ht
theorem s_len {xm : Nat → XY} {scr : Nat × (Nat → Int32)} {Y : XY} {pc : Nat} (hd : decode Y.2.1 pc = .ok (.arraylength, 1)) : XSnd xm scr Y pc (x_len (pc + 1)) := by
  refine XSnd_P fun L st h pc1 L1 st1 h1 ee => ?_
  split at ee
  · split at ee
    · split at ee
      · split at ee
        · rename_i i st0 hc _ t N hk ht
          cases ee
          refine ⟨rfl, fun p l e R s m args below meth c β D cA d m0 z0 Q X hm0 hz0 hmR hzR k H locs ls hP hF hl => ?_⟩
          obtain ⟨hx, hb, hml, hown, hts, hK, hnm, hbs, -⟩ := X
          rcases t with _ | t
          · exact va_alen hx hb hK.1 (XP_one hP hc (by rw [hk]; rfl) (xe_int hk)) 0 0 rfl (xtys_at cA ht) rfl hd (k H locs ls hP hF hl)
          · exact va_alen hx hb hK.1 (XP_one hP hc (by rw [hk]; exact xal_arr ht) (xe_ref hk)) 0 (t + 1) rfl (xtys_at cA ht) rfl hd (k H locs ls hP hF hl)
        · cases ee
      · cases ee
    · cases ee
  · cases ee
def x_iald (n : Nat) : XI := xiN fun L st h => match st with
  | .inl j :: .inr (some (some i)) :: st => if i < xM h then match xK h i with
    | .inr (0, N) => if j < 0 ∨ N ≤ j.toNatClampNeg then none else some (n, L, .inl (xS h i j.toNatClampNeg) :: st, h)
    | _ => none
    else none
  | _ => none
theorem s_iald {xm : Nat → XY} {scr : Nat × (Nat → Int32)} {Y : XY} {pc : Nat} (hd : decode Y.2.1 pc = .ok (.iaload, 1)) : XSnd xm scr Y pc (x_iald (pc + 1)) := by
  refine XSnd_P fun L st h pc1 L1 st1 h1 ee => ?_
  split at ee
  · split at ee
    · split at ee
      · split at ee
        · cases ee
        · rename_i j i st0 hc _ N hk hin
          cases ee
          refine ⟨rfl, fun p l e R s m args below meth c β D cA d m0 z0 Q X hm0 hz0 hmR hzR k H locs ls hP hF hl => ?_⟩
          obtain ⟨hx, hb, hml, hown, hts, hK, hnm, hbs, -⟩ := X
          exact va_iald hx hb hK.1 (XP_one hP hc (by rw [hk]; rfl) (xe_int hk)) 0 0 rfl (xtys_at cA (by decide)) hin hd (k H locs ls hP hF hl)
      · cases ee
    · cases ee
  · cases ee
def x_iast (n : Nat) : XI := xiN fun L st h => match st with
  | .inl x :: .inl j :: .inr (some (some i)) :: st => if i < xM h then match xK h i with
    | .inr (0, N) => if j < 0 ∨ N ≤ j.toNatClampNeg then none else some (n, L, st, xsetS h i (upd (xS h i) j.toNatClampNeg x))
    | _ => none
    else none
  | _ => none
theorem s_iast {xm : Nat → XY} {scr : Nat × (Nat → Int32)} {Y : XY} {pc : Nat} (hd : decode Y.2.1 pc = .ok (.iastore, 1)) : XSnd xm scr Y pc (x_iast (pc + 1)) := by
  refine XSnd_N fun L st h pc1 L1 st1 h1 ee => ?_
  split at ee
  · split at ee
    · split at ee
      · split at ee
        · cases ee
        · rename_i x j i st0 hc _ N hk hin
          cases ee
          refine ⟨Nat.le_refl _, Nat.le_refl _, fun p l e R s m args below meth c β D cA d m0 z0 Q X hm0 hz0 hmR hzR k H locs ls hP hF hl => ?_⟩
          obtain ⟨hx, hb, hml, hown, hts, hK, hnm, hbs, -⟩ := X
          have hat := hP.2 i hc (by rw [hk]; rfl)
          rw [xe_int hk] at hat
          refine W.iast (x := x) hx hb hat ((hK.1.2 0 _ (xtys_at cA (by decide))).1 N (fun j => .int (xS h i j))) (fun q => by cases q) (by show ¬ (j < 0 ∨ (arrV _ _ _).slots.size ≤ _); rw [arrV_size]; exact hin) rfl rfl hd fun H1 e z oq => ?_
          refine k H1 _ ls (XP_upd hP rfl z oq xsetS_off ?_) (XF_put hF oq) hl
          have hk2 : xK (xsetS h i (upd (xS h i) j.toNatClampNeg x)) i = .inr (0, N) := hk
          rw [xe_int hk2]
          have e2 : xS (xsetS h i (upd (xS h i) j.toNatClampNeg x)) i = upd (xS h i) j.toNatClampNeg x := if_pos rfl
          rw [e2]
          show H1[β.1 + i]? = some (vp_cell _ _)
          rw [e]
          show some ((arrV _ _ _).setSlot _ _) = _
          rw [vp_cell_i, arrV_store]
          congr 2
          funext q
          by_cases hq : q = j.toNatClampNeg
          · subst hq
            simp [updV, upd]
          · simp [updV, upd, hq]
      · cases ee
    · cases ee
  · cases ee
def x_aald (n : Nat) : XI := xiN fun L st h => match st with
  | .inl j :: .inr (some (some i)) :: st => if i < xM h then match xK h i with
    | .inr (t + 1, N) => if t < 3 then if j < 0 ∨ N ≤ j.toNatClampNeg then none else match xR h i j.toNatClampNeg with
      | some a => some (n, L, .inr (some (some a)) :: st, h)
      | none => none
      else none
    | _ => none
    else none
  | _ => none
theorem xaT_ref {t : Nat} : (xaT (t + 1)).isReference = true := by
  rcases t with _ | _ | t <;> rfl
theorem s_aald {xm : Nat → XY} {scr : Nat × (Nat → Int32)} {Y : XY} {pc : Nat} (hd : decode Y.2.1 pc = .ok (.aaload, 1)) : XSnd xm scr Y pc (x_aald (pc + 1)) := by
  refine XSnd_P fun L st h pc1 L1 st1 h1 ee => ?_
  split at ee
  · split at ee
    · split at ee
      · split at ee
        · split at ee
          · cases ee
          · split at ee
            · rename_i j i st0 hc _ t N hk ht hin _ a ha
              cases ee
              refine ⟨rfl, fun p l e R s m args below meth c β D cA d m0 z0 Q X hm0 hz0 hmR hzR k H locs ls hP hF hl => ?_⟩
              obtain ⟨hx, hb, hml, hown, hts, hK, hnm, hbs, -⟩ := X
              have hat := hP.2 i hc (by rw [hk]; exact xal_arr (by omega))
              rw [xe_ref hk] at hat
              have hlt : j.toNatClampNeg < N := Nat.not_le.mp fun q => hin (Or.inr q)
              refine W.aald (v := .ref (β.1 + a)) (ty := xaT (t + 1)) hx hb hat ((hK.1.2 (t + 1) _ (xtys_at cA (by omega))).1 N (fun j => va_rf ((xR h i j).map (fun q => β.1 + q)))) xaT_ref (fun q => by cases q) (by show ¬ (j < 0 ∨ (arrV _ _ _).slots.size ≤ _); rw [arrV_size]; exact hin) ?_ rfl rfl hd (k H locs ls hP hF hl)
              show (arrV _ _ _).slots[_]? = _
              rw [arrV_read _ _ hlt]
              show some (va_rf (Option.map _ (xR h i _))) = _
              rw [ha]
              rfl
            · cases ee
        · cases ee
      · cases ee
    · cases ee
  · cases ee
def x_aast (t ci n : Nat) : XI := xiN fun L st h => match st with
  | .inr (some (some a)) :: .inl j :: .inr (some (some i)) :: st => if i < xM h ∧ a < xM h ∧ xK h a = .inl ci then match xK h i with
    | .inr (t', N) => if t' = t + 1 then if j < 0 ∨ N ≤ j.toNatClampNeg then none else some (n, L, st, xsetR h i (xup (xR h i) j.toNatClampNeg (some a))) else none
    | _ => none
    else none
  | _ => none
theorem s_aast {xm : Nat → XY} {scr : Nat × (Nat → Int32)} {Y : XY} {pc : Nat} {t ci : Nat} {C : String} {T : u_T} (hC : XCl ci C T) (hT : xaT (t + 1) = .object C) (ht : t < 2) (hd : decode Y.2.1 pc = .ok (.aastore, 1)) : XSnd xm scr Y pc (x_aast t ci (pc + 1)) := by
  refine XSnd_N fun L st h pc1 L1 st1 h1 ee => ?_
  split at ee
  · split at ee
    · split at ee
      · split at ee
        · split at ee
          · cases ee
          · rename_i a j i st0 hc _ t1 N hk ht1 hin
            cases ee
            subst ht1
            refine ⟨Nat.le_refl _, Nat.le_refl _, fun p l e R s m args below meth c β D cA d m0 z0 Q X hm0 hz0 hmR hzR k H locs ls hP hF hl => ?_⟩
            obtain ⟨hx, hb, hml, hown, hts, hK, hnm, hbs, -⟩ := X
            have hat := hP.2 i hc.1 (by rw [hk]; exact xal_arr (by omega))
            rw [xe_ref hk] at hat
            have hva := hP.2 a hc.2.1 (by rw [hc.2.2]; rfl)
            rw [xe_obj hc.2.2] at hva
            have hlt : j.toNatClampNeg < N := Nat.not_le.mp fun q => hin (Or.inr q)
            have h0 : ¬ j < 0 := fun q => hin (Or.inl q)
            obtain ⟨r', hr', cellV, g1, g2, g3, -⟩ := hva
            have hcls := (hK.1.1 ci _ hC.1).2
            have htys : (xtys cA)[t + 1]? = some (cA (t + 1), .object C) := by rw [← hT]; exact xtys_at cA (by omega)
            obtain ⟨kA, comp, k1, k2, k3, -⟩ := (hK.1.2 (t + 1) _ htys).2
            have hcomp : comp = D.1 ci := Option.some.inj (k3.symm.trans hcls.1)
            subst hcomp
            obtain ⟨kC, hkC, -⟩ := hcls.2
            refine W.aast hx hb hat (fun q h => by cases h) (fun h => by cases h) k1 k2 rfl hkC ⟨h0, by show _ < (arrV _ _ _).slots.size; rw [arrV_size]; exact hlt⟩ g1 (fun q h => by rw [g3] at h; cases h) (by rw [g2]; exact hkC) (by rw [g2]; exact va_assign hcls) rfl rfl hd fun H1 e z oq => ?_
            refine k H1 _ ls (XP_upd hP rfl z oq xsetR_off ?_) (XF_put hF oq) hl
            have hk2 : xK (xsetR h i (xup (xR h i) j.toNatClampNeg (some a))) i = .inr (t + 1, N) := hk
            rw [xe_ref hk2]
            have e2 : xR (xsetR h i (xup (xR h i) j.toNatClampNeg (some a))) i = xup (xR h i) j.toNatClampNeg (some a) := if_pos rfl
            rw [e2]
            show H1[β.1 + i]? = some (vp_cell _ _)
            rw [e]
            show some ((arrV _ _ _).setSlot _ _) = _
            rw [vp_cell_q, arrV_store]
            congr 2
            funext q
            by_cases hq : q = j.toNatClampNeg
            · subst hq
              simp [updV, xup, va_rf]
            · simp [updV, xup, hq]
        · cases ee
      · cases ee
    · cases ee
  · cases ee
theorem x_copyK {p : Program} {l : Launch} {e : Env} {R : Room} {s : State} {m : MethodId} {args : Array Value} {below : List Frame} {meth : Method} {c : Code} {H : Heap} {locs : List Loc} {cells slots : Nat} {Q : State → Prop} {cc : ByteArray} {pc : Nat} {ls : Array Slot} {rest : List Value} {a a0 : Nat} (hexec : p.tables.exec = Jvm.exec) (hb : c.code = cc) (hml : c.maxLocals = ls.size) {own : String} {index : Nat} (hown : s.vm.findClass own = some m.cls) (hlink : (Cond.methodLink own index arraycopyName).before args s = true) (hnat : (Cond.native arraycopyName).before args s = true) (hstat : (Cond.static arraycopyName).before args s = true) (hini : (Cond.initialized "java/lang/System").before args s = true)
    {c0 : ClassId} {n0 n1 : Nat} {f g : Nat → Int32} (hc0 : H[a0]? = some (vp_cell c0 (n0, .inl f))) (hc1 : H[a]? = some (vp_cell c0 (n1, .inl g))) (hA : ArrOfT s c0 .int)
    {sp dp n : Int32} (h1 : ¬ sp < 0) (h2 : ¬ dp < 0) (h3 : ¬ n < 0) (h4 : sp.toNatClampNeg + n.toNatClampNeg ≤ n0) (h5 : dp.toNatClampNeg + n.toNatClampNeg ≤ n1)
    (hframes : 1 ≤ R.frames) (hlocals : (rest.map fun v => v.category).sum + (nativeFrameWords "java/lang/System" "arraycopy" 5 + 11) ≤ R.locals) (hdg : decode cc pc = .ok (.invokestatic index, 3))
    (kk : ∀ (H1 : Heap) (locs1 : List Loc), H1[a]? = some (vp_cell c0 (n1, .inl (va_cpy f g sp.toNatClampNeg dp.toNatClampNeg n.toNatClampNeg))) → H1.size = H.size → (∀ q : Nat, q ≠ a → H1[q]? = H[q]?) → (∀ q ∈ locs1, q ∈ locs ∨ q.base = a) → W p l e R s m args below meth c H1 locs1 cells slots Q (F0 m (pc + 3) ls rest)) : W p l e R s m args below meth c H locs cells slots Q (F0 m pc ls (.int n :: .int dp :: .ref a :: .int sp :: .ref a0 :: rest)) := by
  have nn : ∀ z : Int32, ¬ z < 0 → z.toInt = (z.toNatClampNeg : Int) := by
    intro z hz
    have hz0 : (0 : Int) ≤ z.toInt := by
      have := Int32.not_lt.mp hz
      simpa using Int32.le_iff_toInt_le.mp this
    show z.toInt = ((z.toInt.toNat : Nat) : Int)
    omega
  intro T hT X
  obtain ⟨-, k0, hk0, cm0, hkk0⟩ := hA n0 (fun j => .int (f j))
  obtain ⟨-, k1, hk1, cm1, hkk1⟩ := hA n1 (fun j => .int (g j))
  obtain ⟨vm', X', step⟩ := X.arraycopy hexec hown hlink hnat hstat hini (src := a0) (dst := a) (cs := vp_cell c0 (n0, .inl f)) (cd := vp_cell c0 (n1, .inl g)) (srcPos := sp) (destPos := dp) (n := n) (by rw [hT]; exact hc0) (by rw [hT]; exact hc1)
    (fun _ h => by cases h) (fun _ h => by cases h) (fun h => by cases h) (fun h => by cases h) hk0 hk1 hkk0 hkk1 (by simp [refKind]) h1 h2 h3
    (by rw [nn sp h1, nn n h3]; show ¬ _ > ((arrV c0 n0 (fun j => .int (f j))).slots.size : Int); rw [arrV_size]; omega)
    (by rw [nn dp h2, nn n h3]; show ¬ _ > ((arrV c0 n1 (fun j => .int (g j))).slots.size : Int); rw [arrV_size]; omega)
    (fun vm₁ _ i hi => by
      have e : (vp_cell c0 (n0, .inl f)).slots.getD (sp.toNatClampNeg + i) .null = .int (f (sp.toNatClampNeg + i)) := by
        show (arrV c0 n0 (fun j => .int (f j))).slots.getD _ _ = _
        rw [Array.getD_eq_getD_getElem?, arrV_read _ _ (by omega)]
        rfl
      refine ⟨?_, ?_⟩
      · rw [e]
        rfl
      · rw [e]
        exact trivial)
    (g := F0 m pc ls (.int n :: .int dp :: .ref a :: .int sp :: .ref a0 :: rest)) rfl (by rw [hml]) (rest := rest) rfl (by rw [hb]; exact hdg) hframes (by show 2 * 0 + _ + _ ≤ _; omega)
  have e1 : copied (vp_cell c0 (n0, .inl f)) (vp_cell c0 (n1, .inl g)) sp dp n = vp_cell c0 (n1, .inl (va_cpy f g sp.toNatClampNeg dp.toNatClampNeg n.toNatClampNeg)) := va_copied (fun z => .int z) c0 c0 f g h4
  rw [e1] at X' step
  have hl : a < H.size := (Array.getElem?_eq_some_iff.mp hc1).1
  have hheap : ((T.setVm vm').setCell a (vp_cell c0 (n1, .inl (va_cpy f g sp.toNatClampNeg dp.toNatClampNeg n.toNatClampNeg)))).heap = H.setIfInBounds a (vp_cell c0 (n1, .inl (va_cpy f g sp.toNatClampNeg dp.toNatClampNeg n.toNatClampNeg))) := by rw [← hT]; rfl
  obtain ⟨t, a1, b1⟩ := kk _ _ (show (H.setIfInBounds a _)[a]? = some _ by simp [Array.getElem?_setIfInBounds, hl]) (by simp) (fun q hq => by simp [Array.getElem?_setIfInBounds, Ne.symm hq]) (fun q hq => by
    rcases List.mem_append.mp hq with h | h
    · exact Or.inl h
    · obtain ⟨z, -, hz⟩ := List.mem_map.mp h
      rw [← hz]
      exact Or.inr rfl) _ hheap X'
  exact ⟨t, step t a1, b1⟩
def x_copy (n : Nat) : XI := xiN fun L st h => match st with
  | .inl len :: .inl dp :: .inr (some (some b)) :: .inl sp :: .inr (some (some a)) :: st => if a < xM h ∧ b < xM h ∧ st.length ≤ 8 then match xK h a, xK h b with
    | .inr (0, N), .inr (0, M) => if sp < 0 ∨ dp < 0 ∨ len < 0 ∨ N < sp.toNatClampNeg + len.toNatClampNeg ∨ M < dp.toNatClampNeg + len.toNatClampNeg then none
      else some (n, L, st, xsetS h b (va_cpy (xS h a) (xS h b) sp.toNatClampNeg dp.toNatClampNeg len.toNatClampNeg))
    | _, _ => none
    else none
  | _ => none
theorem s_copy {xm : Nat → XY} {scr : Nat × (Nat → Int32)} {Y : XY} {pc : Nat} {idx : Nat} (hw : Cond.methodLink Y.1.cls idx arraycopyName ∈ xtbl) (hw1 : Cond.native arraycopyName ∈ xtbl) (hw2 : Cond.static arraycopyName ∈ xtbl) (hw3 : Cond.initialized "java/lang/System" ∈ xtbl) (hd : decode Y.2.1 pc = .ok (.invokestatic idx, 3)) : XSnd xm scr Y pc (x_copy (pc + 3)) := by
  refine XSnd_N fun L st h pc1 L1 st1 h1 ee => ?_
  split at ee
  · split at ee
    · split at ee
      · split at ee
        · cases ee
        · rename_i len dp b sp a st0 hc _ _ N M hka hkb hin
          cases ee
          refine ⟨Nat.le_refl _, Nat.le_refl _, fun p l e R s m args below meth c β D cA d m0 z0 Q X hm0 hz0 hmR hzR k H locs ls hP hF hl => ?_⟩
          obtain ⟨hx, hb, hml, hown, hts, hK, hnm, hbs, hfr, hlo, -⟩ := X
          have hat := hP.2 a hc.1 (by rw [hka]; rfl)
          rw [xe_int hka] at hat
          have hbt := hP.2 b hc.2.1 (by rw [hkb]; rfl)
          rw [xe_int hkb] at hbt
          have hin1 : ¬ sp < 0 := fun q => hin (Or.inl q)
          have hin2 : ¬ dp < 0 := fun q => hin (Or.inr (Or.inl q))
          have hin3 : ¬ len < 0 := fun q => hin (Or.inr (Or.inr (Or.inl q)))
          have hin4 : sp.toNatClampNeg + len.toNatClampNeg ≤ N := Nat.not_lt.mp fun q => hin (Or.inr (Or.inr (Or.inr (Or.inl q))))
          have hin5 : dp.toNatClampNeg + len.toNatClampNeg ≤ M := Nat.not_lt.mp fun q => hin (Or.inr (Or.inr (Or.inr (Or.inr q))))
          have hnw : nativeFrameWords "java/lang/System" "arraycopy" 5 = 7 := by decide +kernel
          refine x_copyK hx hb (hml.trans hl.1.symm) hown (hts _ hw) (hts _ hw1) (hts _ hw2) (hts _ hw3) hat hbt (hK.1.2 0 _ (xtys_at cA (by decide))).1 hin1 hin2 hin3 hin4 hin5 (by omega) (by rw [hnw]; exact Nat.le_trans (Nat.add_le_add_right (Nat.le_of_eq (xst_sum β st1)) _) (by omega)) hd fun H1 locs1 e z oq hlc => ?_
          refine k H1 _ ls (XP_upd hP rfl z oq xsetS_off ?_) ⟨fun q hq => (oq q (by omega)).trans (hF.1 q hq), fun q hq => ?_⟩ hl
          · have hk2 : xK (xsetS h b (va_cpy (xS h a) (xS h b) sp.toNatClampNeg dp.toNatClampNeg len.toNatClampNeg)) b = .inr (0, M) := hkb
            rw [xe_int hk2]
            have e2 : xS (xsetS h b (va_cpy (xS h a) (xS h b) sp.toNatClampNeg dp.toNatClampNeg len.toNatClampNeg)) b = va_cpy (xS h a) (xS h b) sp.toNatClampNeg dp.toNatClampNeg len.toNatClampNeg := if_pos rfl
            rw [e2]
            exact e
          · rcases hlc q hq with g | g
            · exact hF.2 q g
            · rw [g]
              exact Nat.le_add_right _ _
      · cases ee
    · cases ee
  · cases ee
def x_obj (n : Nat) : XI := xiN fun L st h => match st with
  | .inr (some (some _)) :: st => if st.length ≤ 8 then some (n, L, st, h) else none
  | _ => none
theorem s_obj {xm : Nat → XY} {scr : Nat × (Nat → Int32)} {Y : XY} {pc : Nat} {idx : Nat} (hw : Cond.methodLink Y.1.cls idx objectInit ∈ xtbl) (hw1 : Cond.instanceMethod objectInit ∈ xtbl) (hw2 : Cond.code objectInit ⟨#[0xb1]⟩ 1 none ∈ xtbl) (hd : decode Y.2.1 pc = .ok (.invokespecial idx, 3)) : XSnd xm scr Y pc (x_obj (pc + 3)) := by
  refine XSnd_P fun L st h pc1 L1 st1 h1 ee => ?_
  split at ee
  · split at ee
    · rename_i i st0 hc
      cases ee
      refine ⟨rfl, fun p l e R s m args below meth c β D cA d m0 z0 Q X hm0 hz0 hmR hzR k H locs ls hP hF hl => ?_⟩
      obtain ⟨hx, hb, hml, hown, hts, hK, hnm, hbs, hfr, hlo, -⟩ := X
      refine W.objInit (a := β.1 + i) (rest := xst β st1) hx hb hown (hts _ hw) (hts _ hw1) (hts _ hw2) rfl (by rw [hml]; exact hl.1) rfl hd (by omega) (by show 2 * 0 + _ + _ ≤ _; rw [xst_sum β st1]; omega) (k H locs ls hP hF hl)
    · cases ee
  · cases ee
def x_sld (scr : Nat × (Nat → Int32)) (n : Nat) : XI := xiN fun L st h => match st with
  | .inl j :: .inr (some none) :: st => if j < 0 ∨ scr.1 ≤ j.toNatClampNeg then none else some (n, L, .inl (scr.2 j.toNatClampNeg) :: st, h)
  | _ => none
theorem s_sld {xm : Nat → XY} {scr : Nat × (Nat → Int32)} {Y : XY} {pc : Nat} (hY : Y.1.name = "law") (hd : decode Y.2.1 pc = .ok (.iaload, 1)) : XSnd xm scr Y pc (x_sld scr (pc + 1)) := by
  refine XSnd_P fun L st h pc1 L1 st1 h1 ee => ?_
  split at ee
  · split at ee
    · cases ee
    · rename_i j st0 hin
      cases ee
      refine ⟨rfl, fun p l e R s m args below meth c β D cA d m0 z0 Q X hm0 hz0 hmR hzR k H locs ls hP hF hl => ?_⟩
      obtain ⟨hx, hb, hml, hown, hts, hK, hnm, hbs, hfr, hlo, hX⟩ := X
      obtain ⟨hX1, hX2⟩ := hX hY
      obtain ⟨sc, g1, g2, g3, g4, g5⟩ := hX1
      have hlt : j.toNatClampNeg < scr.1 := Nat.not_le.mp fun q => hin (Or.inr q)
      exact W.iald (v := .int (scr.2 j.toNatClampNeg)) (a := β.2) hx hb (by rw [hF.1 β.2 hX2]; exact g1) g2 g3 (by rw [g4]; exact hin) (g5 _ hlt) rfl rfl hd (k H locs ls hP hF hl)
  · cases ee
def x_slen (scr : Nat × (Nat → Int32)) (n : Nat) : XI := xiN fun L st h => match st with
  | .inr (some none) :: st => some (n, L, .inl (Int32.ofNat scr.1) :: st, h)
  | _ => none
theorem s_slen {xm : Nat → XY} {scr : Nat × (Nat → Int32)} {Y : XY} {pc : Nat} (hY : Y.1.name = "law") (hd : decode Y.2.1 pc = .ok (.arraylength, 1)) : XSnd xm scr Y pc (x_slen scr (pc + 1)) := by
  refine XSnd_P fun L st h pc1 L1 st1 h1 ee => ?_
  split at ee
  · cases ee
    refine ⟨rfl, fun p l e R s m args below meth c β D cA d m0 z0 Q X hm0 hz0 hmR hzR k H locs ls hP hF hl => ?_⟩
    obtain ⟨hx, hb, hml, hown, hts, hK, hnm, hbs, hfr, hlo, hX⟩ := X
    obtain ⟨hX1, hX2⟩ := hX hY
    obtain ⟨sc, g1, g2, g3, g4, g5⟩ := hX1
    exact W.alen (n := Int32.ofNat scr.1) (a := β.2) hx hb (by rw [hF.1 β.2 hX2]; exact g1) g2 (by rw [g4] <;> rfl) rfl rfl hd (k H locs ls hP hF hl)
  · cases ee
end
section
/-! 07: an array of arrays; calls; a run of the abstract machine is a run of the machine -/
def xnewI (h : XH) (K : Nat) : Nat → XH
  | 0 => h
  | j + 1 => xnew (xnewI h K j) (.inr (0, K)) K
theorem xnewI_M (h : XH) (K : Nat) : ∀ j, xM (xnewI h K j) = xM h + j
  | 0 => rfl
  | j + 1 => by
    show xM (xnewI h K j) + 1 = _
    rw [xnewI_M h K j]
    omega
theorem xnewI_Z (h : XH) (K : Nat) : ∀ j, xZ (xnewI h K j) = xZ h + j * K
  | 0 => by simp [xnewI]
  | j + 1 => by
    show xZ (xnewI h K j) + K = _
    rw [xnewI_Z h K j, Nat.add_mul]
    omega
theorem xnewI_lt (h : XH) (K : Nat) {i : Nat} (hi : i < xM h) : ∀ j, xK (xnewI h K j) i = xK h i ∧ xR (xnewI h K j) i = xR h i ∧ xS (xnewI h K j) i = xS h i
  | 0 => ⟨rfl, rfl, rfl⟩
  | j + 1 => by
    obtain ⟨h1, h2, h3⟩ := xnewI_lt h K hi j
    have hne : i ≠ xM (xnewI h K j) := by rw [xnewI_M]; omega
    exact ⟨(if_neg hne).trans h1, (if_neg hne).trans h2, (if_neg hne).trans h3⟩
theorem xnewI_in (h : XH) (K : Nat) {i : Nat} : ∀ j, i < j → xK (xnewI h K j) (xM h + i) = .inr (0, K) ∧ xS (xnewI h K j) (xM h + i) = fun _ => 0
  | j + 1, hi => by
    by_cases e : i = j
    · subst e
      have e2 : xM h + i = xM (xnewI h K i) := (xnewI_M h K i).symm
      exact ⟨if_pos e2, if_pos e2⟩
    · obtain ⟨h1, h2⟩ := xnewI_in h K (i := i) j (by omega)
      have hne : xM h + i ≠ xM (xnewI h K j) := by rw [xnewI_M]; omega
      exact ⟨(if_neg hne).trans h1, (if_neg hne).trans h2⟩
def xmnaH (h : XH) (N K : Nat) : XH := xnewI (xsetR (xnew h (.inr (3, N)) N) (xM h) (fun j => if j < N then some (xM h + 1 + j) else none)) K N
theorem xmnaH_M (h : XH) (N K : Nat) : xM (xmnaH h N K) = xM h + 1 + N := by
  unfold xmnaH
  rw [xnewI_M]
  rfl
theorem xmnaH_Z (h : XH) (N K : Nat) : xZ (xmnaH h N K) = xZ h + N + N * K := by
  unfold xmnaH
  rw [xnewI_Z]
  rfl
def x_mna (n : Nat) : XI := xiN fun L st h => match st with
  | .inl k :: .inl z :: st => if z < 0 ∨ k < 0 ∨ 1000 < z.toNatClampNeg ∨ 1000 < k.toNatClampNeg then none else some (n, L, .inr (some (some (xM h))) :: st, xmnaH h z.toNatClampNeg k.toNatClampNeg)
  | _ => none
set_option maxHeartbeats 1000000 in
theorem s_mna {xm : Nat → XY} {scr : Nat × (Nat → Int32)} {Y : XY} {pc : Nat} {idx : Nat} (hw : Cond.classLink Y.1.cls idx ("[" ++ (FieldType.array .int).toString) ∈ xtbl) (hw1 : Cond.arrayClass .int ∈ xtbl) (hd : decode Y.2.1 pc = .ok (.multianewarray idx 2, 4)) : XSnd xm scr Y pc (x_mna (pc + 4)) := by
  refine XSnd_N fun L st h pc1 L1 st1 h1 ee => ?_
  split at ee
  · split at ee
    · cases ee
    rename_i kz z st0 hc
    cases ee
    have hc1 : ¬ z < 0 := fun q => hc (Or.inl q)
    have hc2 : ¬ kz < 0 := fun q => hc (Or.inr (Or.inl q))
    have hc3 : z.toNatClampNeg ≤ 1000 := Nat.not_lt.mp fun q => hc (Or.inr (Or.inr (Or.inl q)))
    have hc4 : kz.toNatClampNeg ≤ 1000 := Nat.not_lt.mp fun q => hc (Or.inr (Or.inr (Or.inr q)))
    refine ⟨by rw [xmnaH_M]; omega, by rw [xmnaH_Z]; omega, fun p l e R s m args below meth c β D cA d m0 z0 Q X hm0 hz0 hmR hzR k H locs ls hP hF hl => ?_⟩
    obtain ⟨hx, hb, hml, hown, hts, hK, hnm, hbs, -⟩ := X
    rw [xmnaH_M] at hmR
    rw [xmnaH_Z] at hzR
    generalize hN : z.toNatClampNeg = N at *
    generalize hKz : kz.toNatClampNeg = K at *
    have hov : (Cond.arrayOver (.array .int)).before args s = true := hK.2 _ (List.mem_of_getElem? (i := 6) rfl)
    intro T hT Xs
    obtain ⟨vm₁, cB, comp, -, fA, fC, hO, -, X', step⟩ := Xs.multianewarray2F hx hown (hts _ hw) hov (hts _ hw1) (g := F0 m pc ls (.int kz :: .int z :: xst β st0)) rfl (by rw [hb]; exact hd) rfl hc1 hc2 (by rw [hN]; omega) (by rw [hKz]; show K * 4 ≤ _; omega) (by rw [hKz]; omega) rfl rfl (by rw [hN]; omega) (by rw [hN, hKz]; omega)
    rw [hN, hKz] at X' step
    have ec : cA 0 = comp := Option.some.inj ((hK.1.2 0 (cA 0, xaT 0) rfl).2.symm.trans fC)
    have eB : cA 3 = cB := Option.some.inj ((hK.1.2 3 (cA 3, xaT 3) rfl).2.symm.trans fA)
    subst ec
    subst eB
    generalize hFF : Jvm.Free.Multi.fill (T.setVm vm₁) (cA 3) (cA 0) N K (defaultValue .int) N = F at X' step
    have hTh : (T.setVm vm₁).heap = H := hT
    obtain ⟨f1, f2, -, -⟩ := Jvm.Free.Multi.fill_facts (T.setVm vm₁) (cA 3) (cA 0) N K (defaultValue .int) N
    rw [hFF, hTh] at f1 f2
    have hold : ∀ x : Nat, x < H.size → F.heap[x]? = H[x]? := fun x hx => by
      have := Jvm.Free.Multi.fill_old (T.setVm vm₁) (cA 3) (cA 0) N K (defaultValue .int) (a := x) (by rw [hTh]; exact hx) N
      rw [hFF, hTh] at this
      exact this
    have hrow : ∀ j : Nat, j < N → F.heap[H.size + 1 + j]? = some (vp_cell (cA 0) (K, .inl (fun _ => 0))) := fun j hj => by
      have := Jvm.Free.Multi.fill_inner (T.setVm vm₁) (cA 3) (cA 0) N K (defaultValue .int) N j hj
      rw [hFF, hTh] at this
      rw [this]
      congr 1
      exact arrV_new ..
    have hout : Jvm.Free.Multi.outerC (cA 3) N H.size N = vp_cell (cA 3) (N, .inr (.inr (.inr (.inr (fun i => if i < N then some (H.size + 1 + i) else none))))) := by
      rw [vp_cell_q]
      exact vr_outer (cA 3) N H.size N
    rw [hout] at f2
    have hsz : H.size = β.1 + xM h := hP.1
    have hPn : XP β D cA (xmnaH h N K) F.heap := by
      refine ⟨?_, fun i hi ha => ?_⟩
      · rw [xmnaH_M, f1, hsz]
        omega
      · rw [xmnaH_M] at hi
        by_cases h1 : i < xM h
        · have hne : i ≠ xM h := by omega
          obtain ⟨g1, g2, g3⟩ := xnewI_lt (xsetR (xnew h (.inr (3, N)) N) (xM h) (fun j => if j < N then some (xM h + 1 + j) else none)) K (i := i) (by show i < xM h + 1; omega) N
          have k1 : xK (xmnaH h N K) i = xK h i := g1.trans (if_neg hne)
          have k2 : xR (xmnaH h N K) i = xR h i := g2.trans ((if_neg hne).trans (if_neg hne))
          have k3 : xS (xmnaH h N K) i = xS h i := g3.trans (if_neg hne)
          rw [xe_eq k1 k2 k3]
          exact (hP.2 i h1 (by rw [← k1]; exact ha)).kept (hold _ (by show β.1 + i < H.size; omega))
        · by_cases h2 : i = xM h
          · subst h2
            obtain ⟨g1, g2, g3⟩ := xnewI_lt (xsetR (xnew h (.inr (3, N)) N) (xM h) (fun j => if j < N then some (xM h + 1 + j) else none)) K (i := xM h) (by show xM h < xM h + 1; omega) N
            have k1 : xK (xmnaH h N K) (xM h) = .inr (2 + 1, N) := g1.trans (if_pos rfl)
            have k2 : xR (xmnaH h N K) (xM h) = fun j => if j < N then some (xM h + 1 + j) else none := g2.trans (if_pos rfl)
            rw [xe_ref k1, k2]
            show F.heap[β.1 + xM h]? = some (vp_cell _ _)
            rw [← hsz, f2]
            have e8 : (fun i => if i < N then some (H.size + 1 + i) else none) = fun j => Option.map (fun q => β.1 + q) (if j < N then some (xM h + 1 + j) else none) := by
              funext j
              by_cases hj : j < N
              · simp only [hj, if_true, Option.map_some]
                congr 1
                omega
              · simp [hj]
            rw [e8]
          · obtain ⟨j, rfl⟩ : ∃ j, i = xM h + 1 + j := ⟨i - (xM h + 1), by omega⟩
            obtain ⟨g1, g2⟩ := xnewI_in (xsetR (xnew h (.inr (3, N)) N) (xM h) (fun j => if j < N then some (xM h + 1 + j) else none)) K (i := j) N (by omega)
            have k1 : xK (xmnaH h N K) (xM h + 1 + j) = .inr (0, K) := g1
            have k3 : xS (xmnaH h N K) (xM h + 1 + j) = fun _ => 0 := g2
            rw [xe_int k1, k3]
            have := hrow j (by omega)
            rw [hsz] at this
            show F.heap[β.1 + (xM h + 1 + j)]? = _
            rw [← this]
            congr 1
            omega
    have ecl : xM h - m0 + 1 + N = xM (xmnaH h N K) - m0 := by rw [xmnaH_M]; omega
    have esl : xZ h - z0 + N + N * K = xZ (xmnaH h N K) - z0 := by rw [xmnaH_Z]; omega
    rw [ecl, esl] at X'
    obtain ⟨t, a1, b1⟩ := k F.heap locs ls hPn (XF_push hF (by omega) hold) hl F rfl X'
    refine ⟨t, step t ?_, b1⟩
    have e9 : T.heap.size = β.1 + xM h := by rw [hT]; exact hsz
    rw [e9]
    exact a1
  · cases ee
theorem xblind {β : XA} {D : va_G} {cA : Nat → ClassId} {h : XH} {av : List Value} : FrameBlind (va_Pc av (XPre β D cA h)) := fun a U g mk q => ⟨q.1, q.2.1, XKn.moved (u := U) (U := U.calling g mk a) (State.WarmedH.refl U) q.2.2⟩
theorem xws_good {Y : XY} {args : Array Value} {s : State} (hts : ∀ w ∈ xtbl, w.before args s = true) (hc : Cond.code Y.1 Y.2.1 Y.2.2.1 Y.2.2.2 ∈ xtbl) : ∀ w ∈ XWs Y, ∀ (a' : Array Value) (U : State), s.WarmedH U.vm → w.before a' U = true := by
  intro w hw a' U hW
  have hw' : w ∈ xtbl := by
    rcases List.mem_cons.mp hw with rfl | h
    · exact hc
    · exact h
  exact word_at hW (good_of_word (List.all_eq_true.mp xtbl_good w hw')) (hts w hw')
/-- behind a call -/
theorem x_after {p : Program} {l : Launch} {e : Env} {R : Room} {s : State} {m : MethodId} {args : Array Value} {below : List Frame} {meth : Method} {c : Code} {Y : XY} {β : XA} {D : va_G} {cA : Nat → ClassId} {m0 z0 : Nat} {Q : State → Prop} {r : Option XV} {h h2 : XH} {pc pc' : Nat} {L : XL} {st st' : List XV} {H : Heap} {locs : List Loc} {ls : Array Slot} {a : Array Value}
    (hr : va_Run p l e R s m args below meth c H locs (xM h - m0) (xZ h - z0) (xM h2 - xM h) (xZ h2 - xZ h) (F0 m pc ls (xst β st)) (xst β st') (XQ β D cA r h2 a) (fun q => β.1 ≤ q)) (hpc : pc' = pc + 3) (hm0 : m0 ≤ xM h) (hz0 : z0 ≤ xZ h) (hm : xM h ≤ xM h2) (hz : xZ h ≤ xZ h2) (hF : XF β s H locs) (hl : lv_has ls Y.2.2.1 (xls β L))
    (k : XWk p l e R s m args below meth c Y β D cA m0 z0 Q pc' L (r.toList ++ st') h2) : W p l e R s m args below meth c H locs (xM h - m0) (xZ h - z0) Q (F0 m pc ls (xst β st)) := by
  subst hpc
  intro T hT X
  obtain ⟨v, st₀, t, T', L2, h0, X', hL, e1, e2, ⟨hv, hP2, hfr⟩, st9⟩ := hr T hT X
  have hv2 : v = r.map (xv β) := by
    injection hv
  have ecl : xM h - m0 + (xM h2 - xM h) = xM h2 - m0 := by omega
  have esl : xZ h - z0 + (xZ h2 - xZ h) = xZ h2 - z0 := by omega
  rw [ecl, esl] at X'
  obtain ⟨t2, a1, b1⟩ := k T'.heap (locs ++ L2) ls (by rw [e1]; exact hP2) ⟨fun q hq => by rw [e1, hfr q hq, h0]; exact hF.1 q hq, fun q hq => by
    rcases List.mem_append.mp hq with g | g
    · exact hF.2 q g
    · exact hL q g⟩ hl T' rfl X'
  refine ⟨t2, st9 t2 ?_, b1⟩
  have e5 : v.toList ++ xst β st' = xst β (r.toList ++ st') := by
    rw [hv2]
    cases r <;> rfl
  show Steps p.tables e below (T'.setTop { F0 m pc ls (xst β st) with pc := pc + 3, stack := v.toList ++ xst β st' }) t2
  rw [e5]
  exact a1
theorem xrev (β : XA) (st : List XV) (k : Nat) : xst β st = (xst β (st.take k).reverse).reverse ++ xst β (st.drop k) := by
  unfold xst
  rw [← List.map_reverse, List.reverse_reverse, ← List.map_append, List.take_append_drop]
theorem xas_len (β : XA) {st : List XV} {k : Nat} (hk : k ≤ st.length) : (xst β (st.take k).reverse).length = k := by
  unfold xst
  rw [List.length_map, List.length_reverse, List.length_take]
  omega
def x_inv (mid ci k n : Nat) : XI := fun _ st h => match st.drop k with
  | .inr (some (some i)) :: rest => if k ≤ st.length ∧ rest.length ≤ 8 ∧ i < xM h ∧ xK h i = .inl ci then .inr (.inl (mid, .inr (some (some i)) :: (st.take k).reverse, n, rest)) else xbad
  | _ => xbad
def x_invS (mid k n : Nat) : XI := fun _ st _ => if k ≤ st.length ∧ (st.drop k).length ≤ 8 then .inr (.inl (mid, (st.take k).reverse, n, st.drop k)) else xbad
/-- what a callee is: its record, and what the tables say of it -/
def XCal (xm : Nat → XY) (mid k nargs : Nat) : Prop := nargs ≤ (xm mid).2.2.1 ∧ (xm mid).2.2.1 ≤ 100 ∧ plainName (xm mid).1.cls = true ∧ (xm mid).1.name ≠ "law" ∧ Cond.code (xm mid).1 (xm mid).2.1 (xm mid).2.2.1 (xm mid).2.2.2 ∈ xtbl ∧ Cond.initialized (xm mid).1.cls ∈ xtbl ∧ ((xm mid).1.cls ≠ "java/lang/invoke/MethodHandle" ∧ (xm mid).1.cls ≠ "java/lang/invoke/VarHandle") ∧ (parseMethodDescriptor (xm mid).1.desc).map (fun d => d.parameters.length) = some k
theorem xcal_len {xm : Nat → XY} {mid k nargs : Nat} (hc : XCal xm mid k nargs) : ∀ sig, parseMethodDescriptor (xm mid).1.desc = some sig → k = sig.parameters.length := fun sig h => by
  have h2 := hc.2.2.2.2.2.2.2
  rw [h] at h2
  exact (Option.some.inj h2).symm
theorem XSnd_C {xm : Nat → XY} {scr : Nat × (Nat → Int32)} {Y : XY} {pc : Nat} {sem : XI} (h1 : ∀ L st h o, sem L st h = o → (∃ q, o = .inr (.inl q)) ∨ o = xbad) (h2 : ∀ L st h mid as pc' st', sem L st h = .inr (.inl (mid, as, pc', st')) → XCx xm scr Y pc L st h mid as pc' st') : XSnd xm scr Y pc sem := by
  intro L st h
  refine ⟨fun _ _ _ _ e => ?_, h2 L st h, fun _ e => ?_⟩
  · rcases h1 L st h _ e with ⟨q, hq⟩ | hq <;> cases hq
  · rcases h1 L st h _ e with ⟨q, hq⟩ | hq <;> cases hq
theorem x_inv_kind {mid ci k n : Nat} : ∀ L st h o, x_inv mid ci k n L st h = o → (∃ q, o = .inr (.inl q)) ∨ o = xbad := by
  intro L st h o e
  unfold x_inv at e
  split at e
  · split at e
    · exact Or.inl ⟨_, e.symm⟩
    · exact Or.inr e.symm
  · exact Or.inr e.symm
theorem x_invS_kind {mid k n : Nat} : ∀ L st h o, x_invS mid k n L st h = o → (∃ q, o = .inr (.inl q)) ∨ o = xbad := by
  intro L st h o e
  unfold x_invS at e
  split at e
  · exact Or.inl ⟨_, e.symm⟩
  · exact Or.inr e.symm
theorem x_recv {D : va_G} {cA : Nat → ClassId} {β : XA} {h : XH} {H : Heap} {s : State} {i ci : Nat} {C : String} {T : u_T} (hC : XCl ci C T) (hP : XP β D cA h H) (hK : XKn D cA s) (hi : i < xM h) (hk : xK h i = .inl ci) : ∃ cell : Cell, H[β.1 + i]? = some cell ∧ cell.vm.isStatics = false ∧ s.vm.findClass C = some cell.cls := by
  have hat := hP.2 i hi (by rw [hk]; rfl)
  rw [xe_obj hk] at hat
  obtain ⟨r, h1, cell, q1, q2, q3, q4⟩ := hat
  have hr : r = (C, T, xnf ci) := Option.some.inj (h1.symm.trans hC.1)
  subst hr
  exact ⟨cell, q1, by rw [q3]; rfl, by rw [q2]; exact (hK.1.1 ci _ hC.1).2.1⟩
theorem s_inv {xm : Nat → XY} {scr : Nat × (Nat → Int32)} {Y : XY} {pc : Nat} {mid ci k idx : Nat} {C : String} {T : u_T} (hC : XCl ci C T) (hc : XCal xm mid k (k + 1)) (hw : Cond.methodLink Y.1.cls idx (xm mid).1 ∈ xtbl) (hw1 : Cond.instanceMethod (xm mid).1 ∈ xtbl) (hw2 : Cond.selects C (xm mid).1 (xm mid).1 ∈ xtbl) (hd : decode Y.2.1 pc = .ok (.invokevirtual idx, 3)) : XSnd xm scr Y pc (x_inv mid ci k (pc + 3)) := by
  refine XSnd_C x_inv_kind fun L st h mid1 as pc1 st1 ee => ?_
  unfold x_inv at ee
  split at ee
  · split at ee
    · rename_i i rest hdr hi
      cases ee
      refine ⟨by show (st.take k).reverse.length + 1 ≤ _; rw [List.length_reverse, List.length_take]; have := hc.1; omega, hc.2.2.1, hc.2.2.2.1, fun p l e R s m args below meth c β D cA d m0 z0 Q r h2 X hm0 hz0 hmm hzz hmR hzR hM kk H locs ls hP hF hl => ?_⟩
      obtain ⟨hx, hb, hml, hown, hts, hK, hnm, hbs, hfr, hlo, -⟩ := X
      have hpre : ∀ U : State, U.heap = H → s.WarmedH U.vm → va_Pc (xst β (.inr (some (some i)) :: (st.take k).reverse)) (XPre β D cA h) (Value.ref (β.1 + i) :: xst β (st.take k).reverse).toArray U := fun U hU hW => ⟨rfl, by rw [hU]; exact hP, hK.moved hW⟩
      refine x_after (va_runV (C := C) (As := xst β (st.take k).reverse) (rest := xst β st1) (b := β.1 + i) (nL := Y.2.2.1) (Ts := xtbl) (own := Y.1.cls) (n := k) ⟨hx, hb, hml, hown, hts⟩ hM ⟨⟨rfl, rfl, hfr, by show 8 + ((xm mid).2.2.1 + 11) + 128 * (d + 1) ≤ _; have := hc.2.1; omega, xws_good hts hc.2.2.2.2.1, List.mem_cons_self, hts _ hc.2.2.2.2.1, hts _ hc.2.2.2.2.2.1, hc.2.2.2.2.2.2.1, xcal_len hc, hts _ hw⟩, hts _ hw1, hts _ hw2⟩ ⟨xblind, x_recv hC hP hK hi.2.2.1 hi.2.2.2, hpre⟩ rfl (xas_len β hi.1) hl.1 ?_ ?_ hd ⟨by omega, by omega⟩) rfl hm0 hz0 hmm hzz hF hl kk
      · show xst β st = _
        rw [xrev β st k, hdr]
        rfl
      · show 2 * 0 + _ ≤ 8
        rw [xst_sum]
        omega
    · cases ee
  · cases ee
theorem s_init {xm : Nat → XY} {scr : Nat × (Nat → Int32)} {Y : XY} {pc : Nat} {mid ci k idx : Nat} {C : String} {T : u_T} (hC : XCl ci C T) (hc : XCal xm mid k (k + 1)) (hini : (xm mid).1.name = "<init>") (hret : (xm mid).2.2.2 = none) (hw : Cond.methodLink Y.1.cls idx (xm mid).1 ∈ xtbl) (hw1 : Cond.instanceMethod (xm mid).1 ∈ xtbl) (hd : decode Y.2.1 pc = .ok (.invokespecial idx, 3)) : XSnd xm scr Y pc (x_inv mid ci k (pc + 3)) := by
  refine XSnd_C x_inv_kind fun L st h mid1 as pc1 st1 ee => ?_
  unfold x_inv at ee
  split at ee
  · split at ee
    · rename_i i rest hdr hi
      cases ee
      refine ⟨by show (st.take k).reverse.length + 1 ≤ _; rw [List.length_reverse, List.length_take]; have := hc.1; omega, hc.2.2.1, hc.2.2.2.1, fun p l e R s m args below meth c β D cA d m0 z0 Q r h2 X hm0 hz0 hmm hzz hmR hzR hM kk H locs ls hP hF hl => ?_⟩
      obtain ⟨hx, hb, hml, hown, hts, hK, hnm, hbs, hfr, hlo, -⟩ := X
      have hpre : ∀ U : State, U.heap = H → s.WarmedH U.vm → va_Pc (xst β (.inr (some (some i)) :: (st.take k).reverse)) (XPre β D cA h) (Value.ref (β.1 + i) :: xst β (st.take k).reverse).toArray U := fun U hU hW => ⟨rfl, by rw [hU]; exact hP, hK.moved hW⟩
      refine x_after (va_runI (As := xst β (st.take k).reverse) (rest := xst β st1) (b := β.1 + i) (nL := Y.2.2.1) (Ts := xtbl) (own := Y.1.cls) (n := k) ⟨hx, hb, hml, hown, hts⟩ hM ⟨⟨rfl, rfl, hfr, by show 8 + ((xm mid).2.2.1 + 11) + 128 * (d + 1) ≤ _; have := hc.2.1; omega, xws_good hts hc.2.2.2.2.1, by rw [← hret]; exact List.mem_cons_self, by rw [← hret]; exact hts _ hc.2.2.2.2.1, hts _ hc.2.2.2.2.2.1, hc.2.2.2.2.2.2.1, xcal_len hc, hts _ hw⟩, hini, hts _ hw1⟩ ⟨xblind, hpre⟩ rfl (xas_len β hi.1) hl.1 ?_ ?_ hd ⟨by omega, by omega⟩) rfl hm0 hz0 hmm hzz hF hl kk
      · show xst β st = _
        rw [xrev β st k, hdr]
        rfl
      · show 2 * 0 + _ ≤ 8
        rw [xst_sum]
        omega
    · cases ee
  · cases ee
theorem s_initN {xm : Nat → XY} {scr : Nat × (Nat → Int32)} {Y : XY} {pc : Nat} {mid ci k idx : Nat} {C : String} {T : u_T} (hC : XCl ci C T) (hc : XCal xm mid k (k + 1)) (hini : (xm mid).1.name = "<init>") (hret : (xm mid).2.2.2 = none) (hw : Cond.methodLinkNest Y.1.cls idx (xm mid).1 RX7 ∈ xnest) (hw1 : Cond.instanceMethod (xm mid).1 ∈ xtbl) (hd : decode Y.2.1 pc = .ok (.invokespecial idx, 3)) : XSnd xm scr Y pc (x_inv mid ci k (pc + 3)) := by
  refine XSnd_C x_inv_kind fun L st h mid1 as pc1 st1 ee => ?_
  unfold x_inv at ee
  split at ee
  · split at ee
    · rename_i i rest hdr hi
      cases ee
      refine ⟨by show (st.take k).reverse.length + 1 ≤ _; rw [List.length_reverse, List.length_take]; have := hc.1; omega, hc.2.2.1, hc.2.2.2.1, fun p l e R s m args below meth c β D cA d m0 z0 Q r h2 X hm0 hz0 hmm hzz hmR hzR hM kk H locs ls hP hF hl => ?_⟩
      obtain ⟨hx, hb, hml, hown, hts, hK, hnm, hbs, hfr, hlo, -⟩ := X
      have hpre : ∀ U : State, U.heap = H → s.WarmedH U.vm → va_Pc (xst β (.inr (some (some i)) :: (st.take k).reverse)) (XPre β D cA h) (Value.ref (β.1 + i) :: xst β (st.take k).reverse).toArray U := fun U hU hW => ⟨rfl, by rw [hU]; exact hP, hK.moved hW⟩
      refine x_after (va_runIN (host := RX7) (As := xst β (st.take k).reverse) (rest := xst β st1) (b := β.1 + i) (nL := Y.2.2.1) (Ts := xtbl) (own := Y.1.cls) (n := k) ⟨hx, hb, hml, hown, hts⟩ hM ⟨⟨⟨rfl, rfl, hfr, by show 8 + ((xm mid).2.2.1 + 11) + 128 * (d + 1) ≤ _; have := hc.2.1; omega, xws_good hts hc.2.2.2.2.1, by rw [← hret]; exact List.mem_cons_self⟩, by rw [← hret]; exact hts _ hc.2.2.2.2.1, hts _ hc.2.2.2.2.2.1, hc.2.2.2.2.2.2.1, xcal_len hc, va_Nw.use rfl (hK.2 _ hw)⟩, hini, hts _ hw1⟩ ⟨xblind, hpre⟩ rfl (xas_len β hi.1) hl.1 ?_ ?_ hd ⟨by omega, by omega⟩) rfl hm0 hz0 hmm hzz hF hl kk
      · show xst β st = _
        rw [xrev β st k, hdr]
        rfl
      · show 2 * 0 + _ ≤ 8
        rw [xst_sum]
        omega
    · cases ee
  · cases ee
theorem s_invS {xm : Nat → XY} {scr : Nat × (Nat → Int32)} {Y : XY} {pc : Nat} {mid k idx : Nat} (hc : XCal xm mid k k) (hw : Cond.methodLink Y.1.cls idx (xm mid).1 ∈ xtbl) (hw1 : Cond.static (xm mid).1 ∈ xtbl) (hd : decode Y.2.1 pc = .ok (.invokestatic idx, 3)) : XSnd xm scr Y pc (x_invS mid k (pc + 3)) := by
  refine XSnd_C x_invS_kind fun L st h mid1 as pc1 st1 ee => ?_
  unfold x_invS at ee
  split at ee
  · rename_i hi
    cases ee
    refine ⟨by rw [List.length_reverse, List.length_take]; have := hc.1; omega, hc.2.2.1, hc.2.2.2.1, fun p l e R s m args below meth c β D cA d m0 z0 Q r h2 X hm0 hz0 hmm hzz hmR hzR hM kk H locs ls hP hF hl => ?_⟩
    obtain ⟨hx, hb, hml, hown, hts, hK, hnm, hbs, hfr, hlo, -⟩ := X
    refine x_after (va_runS (As := xst β (st.take k).reverse) (rest := xst β (st.drop k)) (nL := Y.2.2.1) (Ts := xtbl) (own := Y.1.cls) (n := k) ⟨hx, hb, hml, hown, hts⟩ hM ⟨⟨rfl, rfl, hfr, by show 8 + ((xm mid).2.2.1 + 11) + 128 * (d + 1) ≤ _; have := hc.2.1; omega, xws_good hts hc.2.2.2.2.1, List.mem_cons_self, hts _ hc.2.2.2.2.1, hts _ hc.2.2.2.2.2.1, hc.2.2.2.2.2.2.1, xcal_len hc, hts _ hw⟩, hts _ hw1⟩ ⟨xblind, fun U hU hW => ⟨rfl, by rw [hU]; exact hP, hK.moved hW⟩⟩ rfl (xas_len β hi.1) hl.1 (xrev β st k) ?_ hd ⟨by omega, by omega⟩) rfl hm0 hz0 hmm hzz hF hl kk
    show 2 * 0 + _ ≤ 8
    rw [xst_sum]
    omega
  · cases ee
def xargsAt : Nat → List XV → XL
  | _, [] => []
  | i, v :: vs => (i, v) :: xargsAt (i + 1) vs
def xargs (as : List XV) : XL := xargsAt 0 as
theorem xargs_lv (β : XA) : ∀ (as : List XV) (i : Nat), lv_args i (xst β as) = xls β (xargsAt i as)
  | [], _ => rfl
  | v :: as, i => by
    show (i, xv β v) :: lv_args (if (xv β v).category = 2 then i + 2 else i + 1) (xst β as) = _
    rw [if_neg (by rw [xv_cat]; decide), xargs_lv β as (i + 1)]
    rfl
theorem xsl_len (β : XA) : ∀ (as : List XV), (lg_sl (xst β as)).length = as.length
  | [] => rfl
  | v :: as => by
    show ((if (xv β v).category = 2 then [Slot.val (xv β v), .second] else [.val (xv β v)]) ++ lg_sl (xst β as)).length = _
    rw [if_neg (by rw [xv_cat]; decide), List.length_append, xsl_len β as]
    simp
    omega
/-- a run of the abstract machine -/
def xrun (code : Nat → Nat → XI) : Nat → Nat → Nat → Nat → XL → List XV → XH → Option (Option XV × XH) := fun f => Nat.rec (fun _ _ _ _ _ _ => none)
  (fun _ ih d mid pc L st h => match code mid pc L st h with
    | .inl (pc', L', st', h') => ih d mid pc' L' st' h'
    | .inr (.inl (mid', as, pc', st')) => match d with
      | 0 => none
      | d' + 1 => match ih d' mid' 0 (xargs as) [] h with
        | none => none
        | some (r, h2) => ih d mid pc' L (r.toList ++ st') h2
    | .inr (.inr none) => none
    | .inr (.inr (some r)) => some (r, h)) f
theorem xrun_S (code : Nat → Nat → XI) (f d mid pc : Nat) (L : XL) (st : List XV) (h : XH) : xrun code (f + 1) d mid pc L st h = match code mid pc L st h with
    | .inl (pc', L', st', h') => xrun code f d mid pc' L' st' h'
    | .inr (.inl (mid', as, pc', st')) => match d with
      | 0 => none
      | d' + 1 => match xrun code f d' mid' 0 (xargs as) [] h with
        | none => none
        | some (r, h2) => xrun code f d mid pc' L (r.toList ++ st') h2
    | .inr (.inr none) => none
    | .inr (.inr (some r)) => some (r, h) := rfl
theorem xmet_of {l : Launch} {xm : Nat → XY} {scr : Nat × (Nat → Int32)} {mid d : Nat} {β : XA} {D : va_G} {cA : Nat → ClassId} {as : List XV} {h h' : XH} {r : Option XV} (hlen : as.length ≤ (xm mid).2.2.1) (hpl : plainName (xm mid).1.cls = true) (hlaw : (xm mid).1.name ≠ "law")
    (hw : ∀ (p : Program) (e : Env) (R : Room) (s : State) (m : MethodId) (args : Array Value) (below : List Frame) (meth : Method) (c : Code) (m0 z0 : Nat) (Q : State → Prop), XC scr p R s m args meth c (xm mid) β D cA d → m0 ≤ xM h → z0 ≤ xZ h → xM h' - m0 ≤ R.cells → xZ h' - z0 ≤ R.slots →
      (∀ (pc : Nat) (L : XL) (st : List XV), XRx (xm mid) pc st r → XWk p l e R s m args below meth c (xm mid) β D cA m0 z0 Q pc L st h') → XWk p l e R s m args below meth c (xm mid) β D cA m0 z0 Q 0 (xargs as) [] h) : XMet l (xm mid) d β D cA as h r h' := by
  refine Met.ofW (cc := (xm mid).2.1) (maxL := (xm mid).2.2.1) (ret := (xm mid).2.2.2) hpl rfl ?_
  intro p e s m args below meth c s₁ B hml hv
  obtain ⟨rfl, hP, hK⟩ := hv
  have hts0 := atoms_spec (ws := XWs (xm mid)) B.pre
  have hts : ∀ w ∈ xtbl, w.before (xst β as).toArray s = true := fun w hw => hts0 w (List.mem_cons_of_mem _ hw)
  have hown : s.vm.findClass (xm mid).1.cls = some m.cls := findClass_of_methodNamed B.named
  have hnm : meth.name = (xm mid).1.name := (name_of_methodNamed B.named B.method).1
  have hlocks := B.notSynchronized
  have hX : XC scr p (headSpec (XWs (xm mid)) (XRM d (xM h' - xM h) (xZ h' - xZ h))).room s m (xst β as).toArray meth c (xm mid) β D cA d :=
    ⟨B.exec, B.bytes, hml, hown, hts, hK, fun q => hnm.trans q, by rw [hP.1]; exact Nat.le_add_right _ _, Nat.le_refl _, Nat.le_refl _, fun q => absurd q hlaw⟩
  have hl := lv_entry (xst β as) (n := (xm mid).2.2.1) (by rw [xsl_len]; exact hlen)
  rw [xargs_lv] at hl
  rw [lg_entry_eq]
  have key := hw p e _ s m _ below meth c (xM h) (xZ h) (MQ below (XQ β D cA r h') (xst β as).toArray s (xM h' - xM h) (xZ h' - xZ h) (fun q => β.1 ≤ q)) hX (Nat.le_refl _) (Nat.le_refl _) (Nat.le_refl _) (Nat.le_refl _) ?_ s.heap [] _ hP ⟨fun _ _ => rfl, fun _ h => by cases h⟩ hl
  · rw [Nat.sub_self, Nat.sub_self] at key
    exact key
  · intro pc L st hr H locs ls hP' hF' hl'
    rcases hr with ⟨rfl, rfl, hd, hret⟩ | ⟨v, ty, rfl, rfl, hd, hret, hn⟩
    · exact W.vret B.exec B.bytes (B.returns.trans hret) (fun t ht hW => ⟨rfl, by rw [ht]; exact hP', fun q hq => by rw [ht]; exact hF'.1 q hq⟩) hF'.2 hd
    · exact W.zret B.exec B.bytes (B.returns.trans hret) hn (fun t ht hW => ⟨rfl, by rw [ht]; exact hP', fun q hq => by rw [ht]; exact hF'.1 q hq⟩) hF'.2 hd
theorem xsound {xm : Nat → XY} {scr : Nat × (Nat → Int32)} {code : Nat → Nat → XI} (hcode : ∀ mid pc, XSnd xm scr (xm mid) pc (code mid pc)) (l : Launch) : ∀ (f d mid pc : Nat) (L : XL) (st : List XV) (h : XH) (r : Option XV) (h' : XH), xrun code f d mid pc L st h = some (r, h') →
    xM h ≤ xM h' ∧ xZ h ≤ xZ h' ∧ ∀ (p : Program) (e : Env) (R : Room) (s : State) (m : MethodId) (args : Array Value) (below : List Frame) (meth : Method) (c : Code) (β : XA) (D : va_G) (cA : Nat → ClassId) (m0 z0 : Nat) (Q : State → Prop), XC scr p R s m args meth c (xm mid) β D cA d → m0 ≤ xM h → z0 ≤ xZ h → xM h' - m0 ≤ R.cells → xZ h' - z0 ≤ R.slots →
      (∀ (pc : Nat) (L : XL) (st : List XV), XRx (xm mid) pc st r → XWk p l e R s m args below meth c (xm mid) β D cA m0 z0 Q pc L st h') → XWk p l e R s m args below meth c (xm mid) β D cA m0 z0 Q pc L st h
  | 0, _, _, _, _, _, _, _, _, e => by cases e
  | f + 1, d, mid, pc, L, st, h, r, h', e => by
    rw [xrun_S] at e
    obtain ⟨hN, hCl, hRt⟩ := hcode mid pc L st h
    split at e
    · rename_i pc1 L1 st1 h1 hs
      obtain ⟨a1, a2, a3⟩ := hN _ _ _ _ hs
      obtain ⟨b1, b2, b3⟩ := xsound hcode l f _ _ _ _ _ _ _ _ e
      refine ⟨Nat.le_trans a1 b1, Nat.le_trans a2 b2, fun p e R s m args below meth c β D cA m0 z0 Q X hm0 hz0 hmR hzR K => ?_⟩
      exact a3 p l e R s m args below meth c β D cA d m0 z0 Q X hm0 hz0 (by omega) (by omega) (b3 p e R s m args below meth c β D cA m0 z0 Q X (by omega) (by omega) hmR hzR K)
    · rename_i mid1 as pc1 st1 hs
      obtain ⟨c1, c2, c3, c4⟩ := hCl _ _ _ _ hs
      split at e
      · cases e
      · rename_i d1
        split at e
        · cases e
        · rename_i r1 h1 hcall
          obtain ⟨a1, a2, a3⟩ := xsound hcode l f _ _ _ _ _ _ _ _ hcall
          obtain ⟨b1, b2, b3⟩ := xsound hcode l f _ _ _ _ _ _ _ _ e
          refine ⟨Nat.le_trans a1 b1, Nat.le_trans a2 b2, fun p e R s m args below meth c β D cA m0 z0 Q X hm0 hz0 hmR hzR K => ?_⟩
          exact c4 p l e R s m args below meth c β D cA d1 m0 z0 Q r1 h1 X hm0 hz0 a1 a2 (by omega) (by omega) (xmet_of c1 c2 c3 fun p e R s m args below meth c m0 z0 Q X q1 q2 q3 q4 K => a3 p e R s m args below meth c β D cA m0 z0 Q X q1 q2 q3 q4 K) (b3 p e R s m args below meth c β D cA m0 z0 Q X (by omega) (by omega) hmR hzR K)
    · cases e
    · rename_i r1 hs
      cases e
      have hr := hRt _ hs
      exact ⟨Nat.le_refl _, Nat.le_refl _, fun p e R s m args below meth c β D cA m0 z0 Q X hm0 hz0 hmR hzR K => K pc L st hr⟩
end
section
/-! 08: the methods by numbers; the tables' words that they need -/
def Y0 : XY := (yX0_begin, cX0_begin, 3, none)
def Y1 : XY := (yX0_copyFrom, cX0_copyFrom, 2, none)
def Y2 : XY := (yX0_init, cX0_init, 1, none)
def Y3 : XY := (yX0_keepOwnOnly, cX0_keepOwnOnly, 1, none)
def Y4 : XY := (yX1_init, cX1_init, 1, none)
def Y5 : XY := (yX2_add, cX2_add, 2, (some .boolean))
def Y6 : XY := (yX2_at, cX2_at, 2, (some .int))
def Y7 : XY := (yX2_change, cX2_change, 3, none)
def Y8 : XY := (yX2_copyFrom, cX2_copyFrom, 2, none)
def Y9 : XY := (yX2_countFrom, cX2_countFrom, 4, (some .int))
def Y10 : XY := (yX2_fillWithZeros, cX2_fillWithZeros, 3, none)
def Y11 : XY := (yX2_has, cX2_has, 3, (some .boolean))
def Y12 : XY := (yX2_init, cX2_init, 2, none)
def Y13 : XY := (yX2_remove, cX2_remove, 4, none)
def Y14 : XY := (yX2_removeBelow, cX2_removeBelow, 4, none)
def Y15 : XY := (yX3_add, cX3_add, 3, (some .boolean))
def Y16 : XY := (yX3_addDroppingOldest, cX3_addDroppingOldest, 3, none)
def Y17 : XY := (yX3_copyFrom, cX3_copyFrom, 2, none)
def Y18 : XY := (yX3_firstAt, cX3_firstAt, 2, (some .int))
def Y19 : XY := (yX3_init, cX3_init, 2, none)
def Y20 : XY := (yX3_putAhead, cX3_putAhead, 3, (some .int))
def Y21 : XY := (yX3_removeFirst, cX3_removeFirst, 1, none)
def Y22 : XY := (yX3_secondAt, cX3_secondAt, 2, (some .int))
def Y23 : XY := (yX4_faultOfForm, cX4_faultOfForm, 2, (some .int))
def Y24 : XY := (yX4_init, cX4_init, 1, none)
def Y25 : XY := (yX4_isDigitNext, cX4_isDigitNext, 1, (some .boolean))
def Y26 : XY := (yX4_isNext, cX4_isNext, 2, (some .boolean))
def Y27 : XY := (yX4_isRead, cX4_isRead, 1, (some .boolean))
def Y28 : XY := (yX4_readLine, cX4_readLine, 3, (some .boolean))
def Y29 : XY := (yX4_readNumber, cX4_readNumber, 4, (some .boolean))
def Y30 : XY := (yX5_copyFrom, cX5_copyFrom, 2, none)
def Y31 : XY := (yX5_countOf, cX5_countOf, 4, (some .int))
def Y32 : XY := (yX5_dueAt, cX5_dueAt, 2, (some .int))
def Y33 : XY := (yX5_init, cX5_init, 1, none)
def Y34 : XY := (yX5_move, cX5_move, 3, none)
def Y35 : XY := (yX5_numberAt, cX5_numberAt, 2, (some .int))
def Y36 : XY := (yX5_ownerAt, cX5_ownerAt, 2, (some .int))
def Y37 : XY := (yX5_removeFirst, cX5_removeFirst, 2, none)
def Y38 : XY := (yX5_removeOf, cX5_removeOf, 4, none)
def Y39 : XY := (yX5_set, cX5_set, 5, none)
def Y40 : XY := (yX6_addActor, cX6_addActor, 8, (some .int))
def Y41 : XY := (yX6_childBits, cX6_childBits, 4, (some .int))
def Y42 : XY := (yX6_copyFrom, cX6_copyFrom, 3, none)
def Y43 : XY := (yX6_deal, cX6_deal, 6, (some .int))
def Y44 : XY := (yX6_dealEarlier, cX6_dealEarlier, 6, (some .int))
def Y45 : XY := (yX6_dealLater, cX6_dealLater, 5, (some .int))
def Y46 : XY := (yX6_fail, cX6_fail, 5, none)
def Y47 : XY := (yX6_fireTimer, cX6_fireTimer, 3, (some .boolean))
def Y48 : XY := (yX6_greatestLiveChild, cX6_greatestLiveChild, 3, (some .int))
def Y49 : XY := (yX6_halt, cX6_halt, 8, (some .int))
def Y50 : XY := (yX6_hasStep, cX6_hasStep, 1, (some .boolean))
def Y51 : XY := (yX6_howItStands, cX6_howItStands, 1, (some .int))
def Y52 : XY := (yX6_init, cX6_init, 2, none)
def Y53 : XY := (yX6_isActor, cX6_isActor, 2, (some .boolean))
def Y54 : XY := (yX6_isLive, cX6_isLive, 2, (some .boolean))
def Y55 : XY := (yX6_isLiveChild, cX6_isLiveChild, 3, (some .boolean))
def Y56 : XY := (yX6_isOverBudgetAbove, cX6_isOverBudgetAbove, 3, (some .boolean))
def Y57 : XY := (yX6_isRestartedWith, cX6_isRestartedWith, 4, (some .boolean))
def Y58 : XY := (yX6_liveBits, cX6_liveBits, 3, (some .int))
def Y59 : XY := (yX6_mailed, cX6_mailed, 3, (some .int))
def Y60 : XY := (yX6_makeSteps, cX6_makeSteps, 3, (some .int))
def Y61 : XY := (yX6_nextDealer, cX6_nextDealer, 3, (some .int))
def Y62 : XY := (yX6_restart, cX6_restart, 3, none)
def Y63 : XY := (yX6_send, cX6_send, 5, (some .boolean))
def Y64 : XY := (yX6_sendDown, cX6_sendDown, 6, none)
def Y65 : XY := (yX6_step, cX6_step, 6, (some .boolean))
def Y66 : XY := (yX6_unstash, cX6_unstash, 2, none)
def Y67 : XY := (yX6_watch, cX6_watch, 4, none)
def Y68 : XY := (yX7_actor, cX7_actor, 4, (some .int))
def Y69 : XY := (yX7_back, cX7_back, 2, (some .int))
def Y70 : XY := (yX7_brings, cX7_brings, 3, (some .int))
def Y71 : XY := (yX7_cause, cX7_cause, 5, (some .int))
def Y72 : XY := (yX7_count, cX7_count, 2, (some .int))
def Y73 : XY := (yX7_counted, cX7_counted, 2, (some .int))
def Y74 : XY := (yX7_doLineButSteps, cX7_doLineButSteps, 4, (some .int))
def Y75 : XY := (yX7_drawn, cX7_drawn, 5, (some .int))
def Y76 : XY := (yX7_dry, cX7_dry, 5, (some .int))
def Y77 : XY := (yX7_ended, cX7_ended, 1, (some .int))
def Y78 : XY := (yX7_feed, cX7_feed, 2, (some .int))
def Y79 : XY := (yX7_first, cX7_first, 2, (some .int))
def Y80 : XY := (yX7_firstOtherwise, cX7_firstOtherwise, 7, (some .int))
def Y81 : XY := (yX7_hold, cX7_hold, 3, (some .int))
def Y82 : XY := (yX7_image, cX7_image, 1, (some .int))
def Y83 : XY := (yX7_init, cX7_init, 2, none)
def Y84 : XY := (yX7_isHandle, cX7_isHandle, 1, (some .boolean))
def Y85 : XY := (yX7_isNumber, cX7_isNumber, 1, (some .boolean))
def Y86 : XY := (yX7_isSteps, cX7_isSteps, 1, (some .boolean))
def Y87 : XY := (yX7_itemOf, cX7_itemOf, 2, (some .int))
def Y88 : XY := (yX7_log, cX7_log, 3, (some .int))
def Y89 : XY := (yX7_message, cX7_message, 5, (some .int))
def Y90 : XY := (yX7_of, cX7_of, 4, (some .int))
def Y91 : XY := (yX7_order, cX7_order, 4, (some .int))
def Y92 : XY := (yX7_put, cX7_put, 6, (some .int))
def Y93 : XY := (yX7_quiet, cX7_quiet, 2, (some .int))
def Y94 : XY := (yX7_reach, cX7_reach, 6, (some .int))
def Y95 : XY := (yX7_row, cX7_row, 3, (some .int))
def Y96 : XY := (yX7_run, cX7_run, 2, (some .int))
def Y97 : XY := (yX7_script, cX7_script, 4, (some .int))
def Y98 : XY := (yX7_seed, cX7_seed, 3, (some .int))
def Y99 : XY := (yX7_sender, cX7_sender, 5, (some .int))
def Y100 : XY := (yX7_stack, cX7_stack, 3, (some .int))
def Y101 : XY := (yX7_stop, cX7_stop, 2, (some .int))
def Y102 : XY := (yX7_tell, cX7_tell, 4, (some .int))
def Y103 : XY := (yX7_tells, cX7_tells, 6, (some .int))
def Y104 : XY := (yX7_timer, cX7_timer, 4, (some .int))
def Y105 : XY := (yX7_watcher, cX7_watcher, 3, (some .int))
def Y106 : XY := (yX7_would, cX7_would, 5, (some .int))
def Y107 : XY := (yX8_actor, cX8_actor, 7, (some .int))
def Y108 : XY := (yX8_at, cX8_at, 3, (some .int))
def Y109 : XY := (yX8_back, cX8_back, 2, (some .int))
def Y110 : XY := (yX8_bits, cX8_bits, 3, (some .int))
def Y111 : XY := (yX8_brings, cX8_brings, 5, (some .int))
def Y112 : XY := (yX8_canBe, cX8_canBe, 4, (some .int))
def Y113 : XY := (yX8_cause, cX8_cause, 3, (some .int))
def Y114 : XY := (yX8_childrenOf, cX8_childrenOf, 4, (some .int))
def Y115 : XY := (yX8_comesBack, cX8_comesBack, 6, none)
def Y116 : XY := (yX8_count, cX8_count, 4, (some .int))
def Y117 : XY := (yX8_counted, cX8_counted, 2, (some .int))
def Y118 : XY := (yX8_deals, cX8_deals, 5, none)
def Y119 : XY := (yX8_delays, cX8_delays, 4, none)
def Y120 : XY := (yX8_does, cX8_does, 4, (some .boolean))
def Y121 : XY := (yX8_doing, cX8_doing, 2, (some .int))
def Y122 : XY := (yX8_drawn, cX8_drawn, 5, (some .int))
def Y123 : XY := (yX8_dry, cX8_dry, 5, (some .int))
def Y124 : XY := (yX8_ended, cX8_ended, 1, (some .int))
def Y125 : XY := (yX8_fails, cX8_fails, 9, none)
def Y126 : XY := (yX8_feed, cX8_feed, 2, (some .int))
def Y127 : XY := (yX8_first, cX8_first, 2, (some .int))
def Y128 : XY := (yX8_firstTimer, cX8_firstTimer, 3, (some .int))
def Y129 : XY := (yX8_forgets, cX8_forgets, 5, none)
def Y130 : XY := (yX8_hasStep, cX8_hasStep, 1, (some .boolean))
def Y131 : XY := (yX8_hold, cX8_hold, 3, (some .int))
def Y132 : XY := (yX8_holds, cX8_holds, 5, none)
def Y133 : XY := (yX8_image, cX8_image, 1, (some .int))
def Y134 : XY := (yX8_in, cX8_in, 3, (some .boolean))
def Y135 : XY := (yX8_init, cX8_init, 1, none)
def Y136 : XY := (yX8_isActor, cX8_isActor, 2, (some .boolean))
def Y137 : XY := (yX8_isEnd, cX8_isEnd, 3, (some .boolean))
def Y138 : XY := (yX8_isForm, cX8_isForm, 1, (some .boolean))
def Y139 : XY := (yX8_isHandle, cX8_isHandle, 2, (some .boolean))
def Y140 : XY := (yX8_isLive, cX8_isLive, 2, (some .boolean))
def Y141 : XY := (yX8_isLiveChild, cX8_isLiveChild, 3, (some .boolean))
def Y142 : XY := (yX8_isNext, cX8_isNext, 3, (some .boolean))
def Y143 : XY := (yX8_isNumber, cX8_isNumber, 1, (some .boolean))
def Y144 : XY := (yX8_isOverBudget, cX8_isOverBudget, 3, (some .boolean))
def Y145 : XY := (yX8_isRule, cX8_isRule, 1, (some .boolean))
def Y146 : XY := (yX8_line, cX8_line, 4, (some .int))
def Y147 : XY := (yX8_liveOnes, cX8_liveOnes, 3, (some .int))
def Y148 : XY := (yX8_log, cX8_log, 2, (some .int))
def Y149 : XY := (yX8_logs, cX8_logs, 4, none)
def Y150 : XY := (yX8_message, cX8_message, 6, (some .int))
def Y151 : XY := (yX8_messageAt, cX8_messageAt, 4, (some .int))
def Y152 : XY := (yX8_must, cX8_must, 3, (some .int))
def Y153 : XY := (yX8_nextActor, cX8_nextActor, 3, (some .int))
def Y154 : XY := (yX8_noted, cX8_noted, 7, (some .int))
def Y155 : XY := (yX8_number, cX8_number, 4, (some .int))
def Y156 : XY := (yX8_of, cX8_of, 3, (some .int))
def Y157 : XY := (yX8_order, cX8_order, 4, (some .int))
def Y158 : XY := (yX8_ordered, cX8_ordered, 5, (some .int))
def Y159 : XY := (yX8_pass, cX8_pass, 5, none)
def Y160 : XY := (yX8_put, cX8_put, 5, (some .int))
def Y161 : XY := (yX8_quiet, cX8_quiet, 3, (some .int))
def Y162 : XY := (yX8_reach, cX8_reach, 6, (some .int))
def Y163 : XY := (yX8_restarts, cX8_restarts, 2, none)
def Y164 : XY := (yX8_row, cX8_row, 4, (some .int))
def Y165 : XY := (yX8_run, cX8_run, 3, (some .int))
def Y166 : XY := (yX8_runs, cX8_runs, 3, (some .int))
def Y167 : XY := (yX8_script, cX8_script, 3, (some .int))
def Y168 : XY := (yX8_seed, cX8_seed, 3, (some .int))
def Y169 : XY := (yX8_sees, cX8_sees, 3, (some .boolean))
def Y170 : XY := (yX8_sender, cX8_sender, 5, (some .int))
def Y171 : XY := (yX8_sends, cX8_sends, 5, (some .boolean))
def Y172 : XY := (yX8_sets, cX8_sets, 4, none)
def Y173 : XY := (yX8_stack, cX8_stack, 3, (some .int))
def Y174 : XY := (yX8_step, cX8_step, 6, none)
def Y175 : XY := (yX8_stop, cX8_stop, 3, (some .int))
def Y176 : XY := (yX8_stops, cX8_stops, 4, none)
def Y177 : XY := (yX8_stopsChildren, cX8_stopsChildren, 3, none)
def Y178 : XY := (yX8_switches, cX8_switches, 4, none)
def Y179 : XY := (yX8_take, cX8_take, 3, none)
def Y180 : XY := (yX8_tell, cX8_tell, 4, (some .int))
def Y181 : XY := (yX8_tells, cX8_tells, 5, (some .int))
def Y182 : XY := (yX8_timer, cX8_timer, 8, (some .int))
def Y183 : XY := (yX8_timersOf, cX8_timersOf, 4, (some .int))
def Y184 : XY := (yX8_toldAs, cX8_toldAs, 1, (some .int))
def Y185 : XY := (yX8_unwatches, cX8_unwatches, 6, none)
def Y186 : XY := (yX8_watcher, cX8_watcher, 3, (some .int))
def Y187 : XY := (yX8_watches, cX8_watches, 6, none)
def Y188 : XY := (yX8_would, cX8_would, 5, (some .int))
def Y189 : XY := (yJ6_bitCount_0f7a4, cJ6_bitCount_0f7a4, 1, (some .int))
def Y190 : XY := (yL_law, cL_law, 4, (some .boolean))
def xm (mid : Nat) : XY := if mid < 95 then if mid < 47 then if mid < 23 then if mid < 11 then if mid < 5 then if mid < 2 then if mid < 1 then Y0 else Y1 else if mid < 3 then Y2 else if mid < 4 then Y3 else Y4 else if mid < 8 then if mid < 6 then Y5 else if mid < 7 then Y6 else Y7 else if mid < 9 then Y8 else if mid < 10 then Y9 else Y10 else if mid < 17 then if mid < 14 then if mid < 12 then Y11 else if mid < 13 then Y12 else Y13 else if mid < 15 then Y14 else if mid < 16 then Y15 else Y16 else if mid < 20 then if mid < 18 then Y17 else if mid < 19 then Y18 else Y19 else if mid < 21 then Y20 else if mid < 22 then Y21 else Y22 else if mid < 35 then if mid < 29 then if mid < 26 then if mid < 24 then Y23 else if mid < 25 then Y24 else Y25 else if mid < 27 then Y26 else if mid < 28 then Y27 else Y28 else if mid < 32 then if mid < 30 then Y29 else if mid < 31 then Y30 else Y31 else if mid < 33 then Y32 else if mid < 34 then Y33 else Y34 else if mid < 41 then if mid < 38 then if mid < 36 then Y35 else if mid < 37 then Y36 else Y37 else if mid < 39 then Y38 else if mid < 40 then Y39 else Y40 else if mid < 44 then if mid < 42 then Y41 else if mid < 43 then Y42 else Y43 else if mid < 45 then Y44 else if mid < 46 then Y45 else Y46 else if mid < 71 then if mid < 59 then if mid < 53 then if mid < 50 then if mid < 48 then Y47 else if mid < 49 then Y48 else Y49 else if mid < 51 then Y50 else if mid < 52 then Y51 else Y52 else if mid < 56 then if mid < 54 then Y53 else if mid < 55 then Y54 else Y55 else if mid < 57 then Y56 else if mid < 58 then Y57 else Y58 else if mid < 65 then if mid < 62 then if mid < 60 then Y59 else if mid < 61 then Y60 else Y61 else if mid < 63 then Y62 else if mid < 64 then Y63 else Y64 else if mid < 68 then if mid < 66 then Y65 else if mid < 67 then Y66 else Y67 else if mid < 69 then Y68 else if mid < 70 then Y69 else Y70 else if mid < 83 then if mid < 77 then if mid < 74 then if mid < 72 then Y71 else if mid < 73 then Y72 else Y73 else if mid < 75 then Y74 else if mid < 76 then Y75 else Y76 else if mid < 80 then if mid < 78 then Y77 else if mid < 79 then Y78 else Y79 else if mid < 81 then Y80 else if mid < 82 then Y81 else Y82 else if mid < 89 then if mid < 86 then if mid < 84 then Y83 else if mid < 85 then Y84 else Y85 else if mid < 87 then Y86 else if mid < 88 then Y87 else Y88 else if mid < 92 then if mid < 90 then Y89 else if mid < 91 then Y90 else Y91 else if mid < 93 then Y92 else if mid < 94 then Y93 else Y94 else if mid < 143 then if mid < 119 then if mid < 107 then if mid < 101 then if mid < 98 then if mid < 96 then Y95 else if mid < 97 then Y96 else Y97 else if mid < 99 then Y98 else if mid < 100 then Y99 else Y100 else if mid < 104 then if mid < 102 then Y101 else if mid < 103 then Y102 else Y103 else if mid < 105 then Y104 else if mid < 106 then Y105 else Y106 else if mid < 113 then if mid < 110 then if mid < 108 then Y107 else if mid < 109 then Y108 else Y109 else if mid < 111 then Y110 else if mid < 112 then Y111 else Y112 else if mid < 116 then if mid < 114 then Y113 else if mid < 115 then Y114 else Y115 else if mid < 117 then Y116 else if mid < 118 then Y117 else Y118 else if mid < 131 then if mid < 125 then if mid < 122 then if mid < 120 then Y119 else if mid < 121 then Y120 else Y121 else if mid < 123 then Y122 else if mid < 124 then Y123 else Y124 else if mid < 128 then if mid < 126 then Y125 else if mid < 127 then Y126 else Y127 else if mid < 129 then Y128 else if mid < 130 then Y129 else Y130 else if mid < 137 then if mid < 134 then if mid < 132 then Y131 else if mid < 133 then Y132 else Y133 else if mid < 135 then Y134 else if mid < 136 then Y135 else Y136 else if mid < 140 then if mid < 138 then Y137 else if mid < 139 then Y138 else Y139 else if mid < 141 then Y140 else if mid < 142 then Y141 else Y142 else if mid < 167 then if mid < 155 then if mid < 149 then if mid < 146 then if mid < 144 then Y143 else if mid < 145 then Y144 else Y145 else if mid < 147 then Y146 else if mid < 148 then Y147 else Y148 else if mid < 152 then if mid < 150 then Y149 else if mid < 151 then Y150 else Y151 else if mid < 153 then Y152 else if mid < 154 then Y153 else Y154 else if mid < 161 then if mid < 158 then if mid < 156 then Y155 else if mid < 157 then Y156 else Y157 else if mid < 159 then Y158 else if mid < 160 then Y159 else Y160 else if mid < 164 then if mid < 162 then Y161 else if mid < 163 then Y162 else Y163 else if mid < 165 then Y164 else if mid < 166 then Y165 else Y166 else if mid < 179 then if mid < 173 then if mid < 170 then if mid < 168 then Y167 else if mid < 169 then Y168 else Y169 else if mid < 171 then Y170 else if mid < 172 then Y171 else Y172 else if mid < 176 then if mid < 174 then Y173 else if mid < 175 then Y174 else Y175 else if mid < 177 then Y176 else if mid < 178 then Y177 else Y178 else if mid < 185 then if mid < 182 then if mid < 180 then Y179 else if mid < 181 then Y180 else Y181 else if mid < 183 then Y182 else if mid < 184 then Y183 else Y184 else if mid < 188 then if mid < 186 then Y185 else if mid < 187 then Y186 else Y187 else if mid < 189 then Y188 else if mid < 190 then Y189 else Y190
theorem xmem {w : Cond} (h : w ∈ tables_1) (g : xgd w = true) : w ∈ xtbl := List.mem_append_right _ (List.mem_filter.mpr ⟨h, g⟩)
def xlk : List (Nat × XI) → Nat → XI
  | [], _ => fun _ _ _ => xbad
  | (k, i) :: l, pc => if pc = k then i else xlk l pc
theorem xlk_ok {xm : Nat → XY} {scr : Nat × (Nat → Int32)} {Y : XY} : ∀ {l : List (Nat × XI)}, (∀ q ∈ l, XSnd xm scr Y q.1 q.2) → ∀ pc, XSnd xm scr Y pc (xlk l pc)
  | [], _, _ => XSnd_bad
  | (k, i) :: l, h, pc => by
    unfold xlk
    split
    · rename_i e
      subst e
      exact h _ List.mem_cons_self
    · exact xlk_ok (fun q hq => h q (List.mem_cons_of_mem _ hq)) pc
theorem xcons {xm : Nat → XY} {scr : Nat × (Nat → Int32)} {Y : XY} {pc : Nat} {i : XI} {l : List (Nat × XI)} (h1 : XSnd xm scr Y pc i) (h2 : ∀ q ∈ l, XSnd xm scr Y q.1 q.2) : ∀ q ∈ (pc, i) :: l, XSnd xm scr Y q.1 q.2 := List.forall_mem_cons.mpr ⟨h1, h2⟩
theorem xnil {xm : Nat → XY} {scr : Nat × (Nat → Int32)} {Y : XY} : ∀ q ∈ ([] : List (Nat × XI)), XSnd xm scr Y q.1 q.2 := fun _ h => absurd h List.not_mem_nil
theorem xite {xm : Nat → XY} {scr : Nat × (Nat → Int32)} {Y : XY} {pc : Nat} {p : Prop} [Decidable p] {a b : XI} (h1 : XSnd xm scr Y pc a) (h2 : XSnd xm scr Y pc b) : XSnd xm scr Y pc (if p then a else b) := by
  split
  · exact h1
  · exact h2
def x_mmax (n : Nat) : XI := xiN fun L st h => match st with
  | .inl y :: .inl x :: st => if st.length ≤ 8 then some (n, L, .inl (if x < y then y else x) :: st, h) else none
  | _ => none
def x_mmin (n : Nat) : XI := xiN fun L st h => match st with
  | .inl y :: .inl x :: st => if st.length ≤ 8 then some (n, L, .inl (if y < x then y else x) :: st, h) else none
  | _ => none
theorem s_mmax {xm : Nat → XY} {scr : Nat × (Nat → Int32)} {Y : XY} {pc : Nat} {idx : Nat} (hw : Cond.methodLink Y.1.cls idx Lib.Math.max.name ∈ xtbl) (hw1 : Cond.static Lib.Math.max.name ∈ xtbl) (hw2 : Cond.initialized "java/lang/Math" ∈ xtbl) (hw3 : Cond.code Lib.Math.max.name Lib.Math.max.code 2 (some .int) ∈ xtbl) (hd : decode Y.2.1 pc = .ok (.invokestatic idx, 3)) : XSnd xm scr Y pc (x_mmax (pc + 3)) := by
  refine XSnd_P fun L st h pc1 L1 st1 h1 ee => ?_
  split at ee
  · split at ee
    · rename_i y x st0 hc
      cases ee
      refine ⟨rfl, fun p l e R s m args below meth c β D cA d m0 z0 Q X hm0 hz0 hmR hzR k H locs ls hP hF hl => ?_⟩
      obtain ⟨hx, hb, hml, hown, hts, hK, hnm, hbs, hfr, hlo, -⟩ := X
      exact va_mmax (rest := xst β st0) hx hb (hml.trans hl.1.symm) hown (hts _ hw) (hts _ hw1) (hts _ hw2) (hts _ hw3) (by omega) (by rw [xst_sum β st0]; omega) hmR hzR hd (k H locs ls hP hF hl)
    · cases ee
  · cases ee
theorem s_mmin {xm : Nat → XY} {scr : Nat × (Nat → Int32)} {Y : XY} {pc : Nat} {idx : Nat} (hw : Cond.methodLink Y.1.cls idx Lib.Math.min.name ∈ xtbl) (hw1 : Cond.static Lib.Math.min.name ∈ xtbl) (hw2 : Cond.initialized "java/lang/Math" ∈ xtbl) (hw3 : Cond.code Lib.Math.min.name Lib.Math.min.code 2 (some .int) ∈ xtbl) (hd : decode Y.2.1 pc = .ok (.invokestatic idx, 3)) : XSnd xm scr Y pc (x_mmin (pc + 3)) := by
  refine XSnd_P fun L st h pc1 L1 st1 h1 ee => ?_
  split at ee
  · split at ee
    · rename_i y x st0 hc
      cases ee
      refine ⟨rfl, fun p l e R s m args below meth c β D cA d m0 z0 Q X hm0 hz0 hmR hzR k H locs ls hP hF hl => ?_⟩
      obtain ⟨hx, hb, hml, hown, hts, hK, hnm, hbs, hfr, hlo, -⟩ := X
      exact va_mmin (rest := xst β st0) hx hb (hml.trans hl.1.symm) hown (hts _ hw) (hts _ hw1) (hts _ hw2) (hts _ hw3) (by omega) (by rw [xst_sum β st0]; omega) hmR hzR hd (k H locs ls hP hF hl)
    · cases ee
  · cases ee
set_option maxRecDepth 100000 in
theorem xw_0 : Cond.fieldLink "ActorTrees$Actor" 36 "ActorTrees$Actor" "parent" "I" ∈ xtbl := xmem (List.mem_of_getElem? (i := 94) rfl) rfl
set_option maxRecDepth 100000 in
theorem xw_1 : Cond.fieldLink "ActorTrees$Actor" 40 "ActorTrees$Actor" "own" "I" ∈ xtbl := xmem (List.mem_of_getElem? (i := 97) rfl) rfl
set_option maxRecDepth 100000 in
theorem xw_2 : Cond.fieldLink "ActorTrees$Actor" 43 "ActorTrees$Actor" "count" "I" ∈ xtbl := xmem (List.mem_of_getElem? (i := 108) rfl) rfl
set_option maxRecDepth 100000 in
theorem xw_3 : Cond.fieldLink "ActorTrees$Actor" 46 "ActorTrees$Actor" "live" "Z" ∈ xtbl := xmem (List.mem_of_getElem? (i := 111) rfl) rfl
set_option maxRecDepth 100000 in
theorem xw_4 : Cond.fieldLink "ActorTrees$Actor" 23 "ActorTrees$Actor" "mailbox" "LActorTrees$Pairs;" ∈ xtbl := xmem (List.mem_of_getElem? (i := 117) rfl) rfl
set_option maxRecDepth 100000 in
theorem xw_5 : Cond.fieldLink "ActorTrees$Actor" 50 "ActorTrees$Pairs" "size" "I" ∈ xtbl := xmem (List.mem_of_getElem? (i := 59) rfl) rfl
set_option maxRecDepth 100000 in
theorem xw_6 : Cond.fieldLink "ActorTrees$Actor" 27 "ActorTrees$Actor" "stash" "LActorTrees$Pairs;" ∈ xtbl := xmem (List.mem_of_getElem? (i := 120) rfl) rfl
set_option maxRecDepth 100000 in
theorem xw_7 : Cond.fieldLink "ActorTrees$Actor" 30 "ActorTrees$Actor" "watchers" "LActorTrees$Numbers;" ∈ xtbl := xmem (List.mem_of_getElem? (i := 123) rfl) rfl
set_option maxRecDepth 100000 in
theorem xw_8 : Cond.fieldLink "ActorTrees$Actor" 53 "ActorTrees$Numbers" "size" "I" ∈ xtbl := xmem (List.mem_of_getElem? (i := 83) rfl) rfl
set_option maxRecDepth 100000 in
theorem xw_9 : Cond.code yX0_keepOwnOnly prog_2_method_3_code 1 (Option.none) ∈ xtbl := xmem (List.mem_of_getElem? (i := 296) rfl) rfl
set_option maxRecDepth 100000 in
theorem xw_10 : Cond.initialized "ActorTrees$Actor" ∈ xtbl := xmem (List.mem_of_getElem? (i := 5) rfl) rfl
set_option maxRecDepth 100000 in
theorem xw_11 : Cond.methodLink "ActorTrees$Actor" 54 yX0_keepOwnOnly ∈ xtbl := xmem (List.mem_of_getElem? (i := 293) rfl) rfl
set_option maxRecDepth 100000 in
theorem xw_12 : Cond.instanceMethod yX0_keepOwnOnly ∈ xtbl := xmem (List.mem_of_getElem? (i := 294) rfl) rfl
set_option maxRecDepth 100000 in
theorem xw_13 : Cond.selects "ActorTrees$Actor" yX0_keepOwnOnly yX0_keepOwnOnly ∈ xtbl := xmem (List.mem_of_getElem? (i := 295) rfl) rfl
set_option maxRecDepth 100000 in
theorem xw_14 : Cond.fieldLink "ActorTrees$Actor" 61 "ActorTrees$Actor" "strategy" "I" ∈ xtbl := xmem (List.mem_of_getElem? (i := 99) rfl) rfl
set_option maxRecDepth 100000 in
theorem xw_15 : Cond.fieldLink "ActorTrees$Actor" 64 "ActorTrees$Actor" "budget" "I" ∈ xtbl := xmem (List.mem_of_getElem? (i := 102) rfl) rfl
set_option maxRecDepth 100000 in
theorem xw_16 : Cond.fieldLink "ActorTrees$Actor" 67 "ActorTrees$Actor" "window" "I" ∈ xtbl := xmem (List.mem_of_getElem? (i := 105) rfl) rfl
set_option maxRecDepth 100000 in
theorem xw_17 : Cond.fieldLink "ActorTrees$Actor" 14 "ActorTrees$Actor" "stack" "LActorTrees$Numbers;" ∈ xtbl := xmem (List.mem_of_getElem? (i := 114) rfl) rfl
set_option maxRecDepth 100000 in
theorem xw_18 : Cond.code yX2_copyFrom prog_4_method_10_code 2 (Option.none) ∈ xtbl := xmem (List.mem_of_getElem? (i := 558) rfl) rfl
set_option maxRecDepth 100000 in
theorem xw_19 : Cond.initialized "ActorTrees$Numbers" ∈ xtbl := xmem (List.mem_of_getElem? (i := 6) rfl) rfl
set_option maxRecDepth 100000 in
theorem xw_20 : Cond.methodLink "ActorTrees$Actor" 70 yX2_copyFrom ∈ xtbl := xmem (List.mem_of_getElem? (i := 555) rfl) rfl
set_option maxRecDepth 100000 in
theorem xw_21 : Cond.instanceMethod yX2_copyFrom ∈ xtbl := xmem (List.mem_of_getElem? (i := 556) rfl) rfl
set_option maxRecDepth 100000 in
theorem xw_22 : Cond.selects "ActorTrees$Numbers" yX2_copyFrom yX2_copyFrom ∈ xtbl := xmem (List.mem_of_getElem? (i := 557) rfl) rfl
set_option maxRecDepth 100000 in
theorem xw_23 : Cond.code yX3_copyFrom prog_5_method_8_code 2 (Option.none) ∈ xtbl := xmem (List.mem_of_getElem? (i := 567) rfl) rfl
set_option maxRecDepth 100000 in
theorem xw_24 : Cond.initialized "ActorTrees$Pairs" ∈ xtbl := xmem (List.mem_of_getElem? (i := 4) rfl) rfl
set_option maxRecDepth 100000 in
theorem xw_25 : Cond.methodLink "ActorTrees$Actor" 74 yX3_copyFrom ∈ xtbl := xmem (List.mem_of_getElem? (i := 564) rfl) rfl
set_option maxRecDepth 100000 in
theorem xw_26 : Cond.instanceMethod yX3_copyFrom ∈ xtbl := xmem (List.mem_of_getElem? (i := 565) rfl) rfl
set_option maxRecDepth 100000 in
theorem xw_27 : Cond.selects "ActorTrees$Pairs" yX3_copyFrom yX3_copyFrom ∈ xtbl := xmem (List.mem_of_getElem? (i := 566) rfl) rfl
set_option maxRecDepth 100000 in
theorem xw_28 : Cond.fieldLink "ActorTrees$Actor" 33 "ActorTrees$Actor" "notes" "LActorTrees$Numbers;" ∈ xtbl := xmem (List.mem_of_getElem? (i := 126) rfl) rfl
set_option maxRecDepth 100000 in
theorem xw_29 : Cond.methodLink "ActorTrees$Actor" 3 objectInit ∈ xtbl := xmem (List.mem_of_getElem? (i := 74) rfl) rfl
set_option maxRecDepth 100000 in
theorem xw_30 : Cond.instanceMethod objectInit ∈ xtbl := xmem (List.mem_of_getElem? (i := 19) rfl) rfl
set_option maxRecDepth 100000 in
theorem xw_31 : Cond.code objectInit object_method_1_code 1 (Option.none) ∈ xtbl := xmem (List.mem_of_getElem? (i := 20) rfl) rfl
set_option maxRecDepth 100000 in
theorem xw_32 : Cond.classLink "ActorTrees$Actor" 9 "ActorTrees$Numbers" ∈ xtbl := xmem (List.mem_of_getElem? (i := 75) rfl) rfl
set_option maxRecDepth 100000 in
theorem xw_33 : Cond.instantiable "ActorTrees$Numbers" 2 ∈ xtbl := xmem (List.mem_of_getElem? (i := 76) rfl) rfl
set_option maxRecDepth 100000 in
theorem xw_34 : Cond.code yX2_init prog_4_method_1_code 2 (Option.none) ∈ xtbl := xmem (List.mem_of_getElem? (i := 79) rfl) rfl
set_option maxRecDepth 100000 in
theorem xw_35 : Cond.methodLink "ActorTrees$Actor" 11 yX2_init ∈ xtbl := xmem (List.mem_of_getElem? (i := 77) rfl) rfl
set_option maxRecDepth 100000 in
theorem xw_36 : Cond.instanceMethod yX2_init ∈ xtbl := xmem (List.mem_of_getElem? (i := 78) rfl) rfl
set_option maxRecDepth 100000 in
theorem xw_37 : Cond.classLink "ActorTrees$Actor" 20 "ActorTrees$Pairs" ∈ xtbl := xmem (List.mem_of_getElem? (i := 92) rfl) rfl
set_option maxRecDepth 100000 in
theorem xw_38 : Cond.instantiable "ActorTrees$Pairs" 3 ∈ xtbl := xmem (List.mem_of_getElem? (i := 52) rfl) rfl
set_option maxRecDepth 100000 in
theorem xw_39 : Cond.code yX3_init prog_5_method_1_code 2 (Option.none) ∈ xtbl := xmem (List.mem_of_getElem? (i := 55) rfl) rfl
set_option maxRecDepth 100000 in
theorem xw_40 : Cond.methodLink "ActorTrees$Actor" 22 yX3_init ∈ xtbl := xmem (List.mem_of_getElem? (i := 93) rfl) rfl
set_option maxRecDepth 100000 in
theorem xw_41 : Cond.instanceMethod yX3_init ∈ xtbl := xmem (List.mem_of_getElem? (i := 54) rfl) rfl
set_option maxRecDepth 100000 in
theorem xw_42 : Cond.code yX2_add prog_4_method_4_code 2 (Option.some FieldType.boolean) ∈ xtbl := xmem (List.mem_of_getElem? (i := 300) rfl) rfl
set_option maxRecDepth 100000 in
theorem xw_43 : Cond.methodLink "ActorTrees$Actor" 57 yX2_add ∈ xtbl := xmem (List.mem_of_getElem? (i := 297) rfl) rfl
set_option maxRecDepth 100000 in
theorem xw_44 : Cond.instanceMethod yX2_add ∈ xtbl := xmem (List.mem_of_getElem? (i := 298) rfl) rfl
set_option maxRecDepth 100000 in
theorem xw_45 : Cond.selects "ActorTrees$Numbers" yX2_add yX2_add ∈ xtbl := xmem (List.mem_of_getElem? (i := 299) rfl) rfl
set_option maxRecDepth 100000 in
theorem xw_46 : Cond.methodLink "ActorTrees$Handle" 3 objectInit ∈ xtbl := xmem (List.mem_of_getElem? (i := 237) rfl) rfl
set_option maxRecDepth 100000 in
theorem xw_47 : Cond.classLink "ActorTrees$Handle" 9 "ActorTrees$Numbers" ∈ xtbl := xmem (List.mem_of_getElem? (i := 238) rfl) rfl
set_option maxRecDepth 100000 in
theorem xw_48 : Cond.methodLink "ActorTrees$Handle" 11 yX2_init ∈ xtbl := xmem (List.mem_of_getElem? (i := 239) rfl) rfl
set_option maxRecDepth 100000 in
theorem xw_49 : Cond.fieldLink "ActorTrees$Handle" 14 "ActorTrees$Handle" "items" "LActorTrees$Numbers;" ∈ xtbl := xmem (List.mem_of_getElem? (i := 240) rfl) rfl
set_option maxRecDepth 100000 in
theorem xw_50 : Cond.fieldLink "ActorTrees$Numbers" 13 "ActorTrees$Numbers" "size" "I" ∈ xtbl := xmem (List.mem_of_getElem? (i := 84) rfl) rfl
set_option maxRecDepth 100000 in
theorem xw_51 : Cond.fieldLink "ActorTrees$Numbers" 7 "ActorTrees$Numbers" "items" "[I" ∈ xtbl := xmem (List.mem_of_getElem? (i := 81) rfl) rfl
set_option maxRecDepth 100000 in
theorem xw_52 : Cond.methodLink "ActorTrees$Numbers" 17 yJ9_min_7cf53 ∈ xtbl := xmem (List.mem_of_getElem? (i := 559) rfl) rfl
set_option maxRecDepth 100000 in
theorem xw_53 : Cond.static yJ9_min_7cf53 ∈ xtbl := xmem (List.mem_of_getElem? (i := 509) rfl) rfl
set_option maxRecDepth 100000 in
theorem xw_54 : Cond.initialized "java/lang/Math" ∈ xtbl := xmem (List.mem_of_getElem? (i := 11) rfl) rfl
set_option maxRecDepth 100000 in
theorem xw_55 : Cond.code yJ9_min_7cf53 prog_12_method_69_code 2 (Option.some FieldType.int) ∈ xtbl := xmem (List.mem_of_getElem? (i := 510) rfl) rfl
set_option maxRecDepth 100000 in
theorem xw_56 : Cond.methodLink "ActorTrees$Numbers" 23 yJ9_max_7cf53 ∈ xtbl := xmem (List.mem_of_getElem? (i := 560) rfl) rfl
set_option maxRecDepth 100000 in
theorem xw_57 : Cond.static yJ9_max_7cf53 ∈ xtbl := xmem (List.mem_of_getElem? (i := 561) rfl) rfl
set_option maxRecDepth 100000 in
theorem xw_58 : Cond.code yJ9_max_7cf53 prog_12_method_65_code 2 (Option.some FieldType.int) ∈ xtbl := xmem (List.mem_of_getElem? (i := 562) rfl) rfl
set_option maxRecDepth 100000 in
theorem xw_59 : Cond.methodLink "ActorTrees$Numbers" 26 arraycopyName ∈ xtbl := xmem (List.mem_of_getElem? (i := 563) rfl) rfl
set_option maxRecDepth 100000 in
theorem xw_60 : Cond.native arraycopyName ∈ xtbl := xmem (List.mem_of_getElem? (i := 463) rfl) rfl
set_option maxRecDepth 100000 in
theorem xw_61 : Cond.static arraycopyName ∈ xtbl := xmem (List.mem_of_getElem? (i := 462) rfl) rfl
set_option maxRecDepth 100000 in
theorem xw_62 : Cond.initialized "java/lang/System" ∈ xtbl := xmem (List.mem_of_getElem? (i := 10) rfl) rfl
set_option maxRecDepth 100000 in
theorem xw_63 : Cond.methodLink "ActorTrees$Numbers" 1 objectInit ∈ xtbl := xmem (List.mem_of_getElem? (i := 80) rfl) rfl
set_option maxRecDepth 100000 in
theorem xw_64 : Cond.arrayClass .int ∈ xtbl := xmem (List.mem_of_getElem? (i := 50) rfl) rfl
set_option maxRecDepth 100000 in
theorem xw_65 : Cond.fieldLink "ActorTrees$Pairs" 18 "ActorTrees$Pairs" "size" "I" ∈ xtbl := xmem (List.mem_of_getElem? (i := 61) rfl) rfl
set_option maxRecDepth 100000 in
theorem xw_66 : Cond.fieldLink "ActorTrees$Pairs" 9 "ActorTrees$Pairs" "firsts" "[I" ∈ xtbl := xmem (List.mem_of_getElem? (i := 57) rfl) rfl
set_option maxRecDepth 100000 in
theorem xw_67 : Cond.fieldLink "ActorTrees$Pairs" 15 "ActorTrees$Pairs" "seconds" "[I" ∈ xtbl := xmem (List.mem_of_getElem? (i := 58) rfl) rfl
set_option maxRecDepth 100000 in
theorem xw_68 : Cond.code yX3_removeFirst prog_5_method_6_code 1 (Option.none) ∈ xtbl := xmem (List.mem_of_getElem? (i := 460) rfl) rfl
set_option maxRecDepth 100000 in
theorem xw_69 : Cond.methodLink "ActorTrees$Pairs" 22 yX3_removeFirst ∈ xtbl := xmem (List.mem_of_getElem? (i := 468) rfl) rfl
set_option maxRecDepth 100000 in
theorem xw_70 : Cond.instanceMethod yX3_removeFirst ∈ xtbl := xmem (List.mem_of_getElem? (i := 458) rfl) rfl
set_option maxRecDepth 100000 in
theorem xw_71 : Cond.selects "ActorTrees$Pairs" yX3_removeFirst yX3_removeFirst ∈ xtbl := xmem (List.mem_of_getElem? (i := 459) rfl) rfl
set_option maxRecDepth 100000 in
theorem xw_72 : Cond.code yX3_add prog_5_method_4_code 3 (Option.some FieldType.boolean) ∈ xtbl := xmem (List.mem_of_getElem? (i := 316) rfl) rfl
set_option maxRecDepth 100000 in
theorem xw_73 : Cond.methodLink "ActorTrees$Pairs" 25 yX3_add ∈ xtbl := xmem (List.mem_of_getElem? (i := 469) rfl) rfl
set_option maxRecDepth 100000 in
theorem xw_74 : Cond.instanceMethod yX3_add ∈ xtbl := xmem (List.mem_of_getElem? (i := 314) rfl) rfl
set_option maxRecDepth 100000 in
theorem xw_75 : Cond.selects "ActorTrees$Pairs" yX3_add yX3_add ∈ xtbl := xmem (List.mem_of_getElem? (i := 315) rfl) rfl
set_option maxRecDepth 100000 in
theorem xw_76 : Cond.methodLink "ActorTrees$Pairs" 35 yJ9_min_7cf53 ∈ xtbl := xmem (List.mem_of_getElem? (i := 508) rfl) rfl
set_option maxRecDepth 100000 in
theorem xw_77 : Cond.methodLink "ActorTrees$Pairs" 41 yJ9_max_7cf53 ∈ xtbl := xmem (List.mem_of_getElem? (i := 568) rfl) rfl
set_option maxRecDepth 100000 in
theorem xw_78 : Cond.methodLink "ActorTrees$Pairs" 29 arraycopyName ∈ xtbl := xmem (List.mem_of_getElem? (i := 461) rfl) rfl
set_option maxRecDepth 100000 in
theorem xw_79 : Cond.methodLink "ActorTrees$Pairs" 3 objectInit ∈ xtbl := xmem (List.mem_of_getElem? (i := 56) rfl) rfl
set_option maxRecDepth 100000 in
theorem xw_80 : Cond.fieldLink "ActorTrees$Tape" 23 "ActorTrees$Tape" "place" "I" ∈ xtbl := xmem (List.mem_of_getElem? (i := 220) rfl) rfl
set_option maxRecDepth 100000 in
theorem xw_81 : Cond.code yX4_readLine prog_6_method_4_code 3 (Option.some FieldType.boolean) ∈ xtbl := xmem (List.mem_of_getElem? (i := 621) rfl) rfl
set_option maxRecDepth 100000 in
theorem xw_82 : Cond.initialized "ActorTrees$Tape" ∈ xtbl := xmem (List.mem_of_getElem? (i := 7) rfl) rfl
set_option maxRecDepth 100000 in
theorem xw_83 : Cond.methodLink "ActorTrees$Tape" 30 yX4_readLine ∈ xtbl := xmem (List.mem_of_getElem? (i := 618) rfl) rfl
set_option maxRecDepth 100000 in
theorem xw_84 : Cond.instanceMethod yX4_readLine ∈ xtbl := xmem (List.mem_of_getElem? (i := 619) rfl) rfl
set_option maxRecDepth 100000 in
theorem xw_85 : Cond.selects "ActorTrees$Tape" yX4_readLine yX4_readLine ∈ xtbl := xmem (List.mem_of_getElem? (i := 620) rfl) rfl
set_option maxRecDepth 100000 in
theorem xw_86 : Cond.code yX4_isRead prog_6_method_2_code 1 (Option.some FieldType.boolean) ∈ xtbl := xmem (List.mem_of_getElem? (i := 625) rfl) rfl
set_option maxRecDepth 100000 in
theorem xw_87 : Cond.methodLink "ActorTrees$Tape" 34 yX4_isRead ∈ xtbl := xmem (List.mem_of_getElem? (i := 622) rfl) rfl
set_option maxRecDepth 100000 in
theorem xw_88 : Cond.instanceMethod yX4_isRead ∈ xtbl := xmem (List.mem_of_getElem? (i := 623) rfl) rfl
set_option maxRecDepth 100000 in
theorem xw_89 : Cond.selects "ActorTrees$Tape" yX4_isRead yX4_isRead ∈ xtbl := xmem (List.mem_of_getElem? (i := 624) rfl) rfl
set_option maxRecDepth 100000 in
theorem xw_90 : Cond.fieldLink "ActorTrees$Tape" 14 "ActorTrees$Tape" "bytes" "LActorTrees$Numbers;" ∈ xtbl := xmem (List.mem_of_getElem? (i := 214) rfl) rfl
set_option maxRecDepth 100000 in
theorem xw_91 : Cond.code yX2_at prog_4_method_2_code 2 (Option.some FieldType.int) ∈ xtbl := xmem (List.mem_of_getElem? (i := 324) rfl) rfl
set_option maxRecDepth 100000 in
theorem xw_92 : Cond.methodLink "ActorTrees$Tape" 37 yX2_at ∈ xtbl := xmem (List.mem_of_getElem? (i := 626) rfl) rfl
set_option maxRecDepth 100000 in
theorem xw_93 : Cond.instanceMethod yX2_at ∈ xtbl := xmem (List.mem_of_getElem? (i := 322) rfl) rfl
set_option maxRecDepth 100000 in
theorem xw_94 : Cond.selects "ActorTrees$Numbers" yX2_at yX2_at ∈ xtbl := xmem (List.mem_of_getElem? (i := 323) rfl) rfl
set_option maxRecDepth 100000 in
theorem xw_95 : Cond.methodLink "ActorTrees$Tape" 3 objectInit ∈ xtbl := xmem (List.mem_of_getElem? (i := 211) rfl) rfl
set_option maxRecDepth 100000 in
theorem xw_96 : Cond.classLink "ActorTrees$Tape" 9 "ActorTrees$Numbers" ∈ xtbl := xmem (List.mem_of_getElem? (i := 212) rfl) rfl
set_option maxRecDepth 100000 in
theorem xw_97 : Cond.methodLink "ActorTrees$Tape" 11 yX2_init ∈ xtbl := xmem (List.mem_of_getElem? (i := 213) rfl) rfl
set_option maxRecDepth 100000 in
theorem xw_98 : Cond.fieldLink "ActorTrees$Tape" 20 "ActorTrees$Tape" "numbers" "LActorTrees$Numbers;" ∈ xtbl := xmem (List.mem_of_getElem? (i := 216) rfl) rfl
set_option maxRecDepth 100000 in
theorem xw_99 : Cond.fieldLink "ActorTrees$Tape" 27 "ActorTrees$Numbers" "size" "I" ∈ xtbl := xmem (List.mem_of_getElem? (i := 82) rfl) rfl
set_option maxRecDepth 100000 in
theorem xw_100 : Cond.fieldLink "ActorTrees$Tape" 41 "ActorTrees$Tape" "kind" "I" ∈ xtbl := xmem (List.mem_of_getElem? (i := 218) rfl) rfl
set_option maxRecDepth 100000 in
theorem xw_101 : Cond.code yX4_readNumber prog_6_method_5_code 4 (Option.some FieldType.boolean) ∈ xtbl := xmem (List.mem_of_getElem? (i := 630) rfl) rfl
set_option maxRecDepth 100000 in
theorem xw_102 : Cond.methodLink "ActorTrees$Tape" 44 yX4_readNumber ∈ xtbl := xmem (List.mem_of_getElem? (i := 627) rfl) rfl
set_option maxRecDepth 100000 in
theorem xw_103 : Cond.instanceMethod yX4_readNumber ∈ xtbl := xmem (List.mem_of_getElem? (i := 629) rfl) rfl
theorem xw_104 : Cond.selects "ActorTrees$Tape" yX4_readNumber yX4_readNumber ∈ xtbl := List.mem_append_left _ (List.mem_of_getElem? (i := 13) rfl)
set_option maxRecDepth 100000 in
theorem xw_105 : Cond.code yX4_isNext prog_6_method_6_code 2 (Option.some FieldType.boolean) ∈ xtbl := xmem (List.mem_of_getElem? (i := 634) rfl) rfl
set_option maxRecDepth 100000 in
theorem xw_106 : Cond.methodLink "ActorTrees$Tape" 48 yX4_isNext ∈ xtbl := xmem (List.mem_of_getElem? (i := 631) rfl) rfl
set_option maxRecDepth 100000 in
theorem xw_107 : Cond.instanceMethod yX4_isNext ∈ xtbl := xmem (List.mem_of_getElem? (i := 633) rfl) rfl
theorem xw_108 : Cond.selects "ActorTrees$Tape" yX4_isNext yX4_isNext ∈ xtbl := List.mem_append_left _ (List.mem_of_getElem? (i := 14) rfl)
set_option maxRecDepth 100000 in
theorem xw_109 : Cond.code yX4_isDigitNext prog_6_method_7_code 1 (Option.some FieldType.boolean) ∈ xtbl := xmem (List.mem_of_getElem? (i := 638) rfl) rfl
set_option maxRecDepth 100000 in
theorem xw_110 : Cond.methodLink "ActorTrees$Tape" 52 yX4_isDigitNext ∈ xtbl := xmem (List.mem_of_getElem? (i := 635) rfl) rfl
set_option maxRecDepth 100000 in
theorem xw_111 : Cond.instanceMethod yX4_isDigitNext ∈ xtbl := xmem (List.mem_of_getElem? (i := 637) rfl) rfl
theorem xw_112 : Cond.selects "ActorTrees$Tape" yX4_isDigitNext yX4_isDigitNext ∈ xtbl := List.mem_append_left _ (List.mem_of_getElem? (i := 15) rfl)
set_option maxRecDepth 100000 in
theorem xw_113 : Cond.methodLink "ActorTrees$Tape" 55 yX2_add ∈ xtbl := xmem (List.mem_of_getElem? (i := 639) rfl) rfl
set_option maxRecDepth 100000 in
theorem xw_114 : Cond.fieldLink "ActorTrees$Timers" 21 "ActorTrees$Timers" "size" "I" ∈ xtbl := xmem (List.mem_of_getElem? (i := 38) rfl) rfl
set_option maxRecDepth 100000 in
theorem xw_115 : Cond.methodLink "ActorTrees$Timers" 29 yJ9_min_7cf53 ∈ xtbl := xmem (List.mem_of_getElem? (i := 573) rfl) rfl
set_option maxRecDepth 100000 in
theorem xw_116 : Cond.methodLink "ActorTrees$Timers" 35 yJ9_max_7cf53 ∈ xtbl := xmem (List.mem_of_getElem? (i := 574) rfl) rfl
set_option maxRecDepth 100000 in
theorem xw_117 : Cond.fieldLink "ActorTrees$Timers" 9 "ActorTrees$Timers" "owners" "[I" ∈ xtbl := xmem (List.mem_of_getElem? (i := 35) rfl) rfl
set_option maxRecDepth 100000 in
theorem xw_118 : Cond.methodLink "ActorTrees$Timers" 38 arraycopyName ∈ xtbl := xmem (List.mem_of_getElem? (i := 575) rfl) rfl
set_option maxRecDepth 100000 in
theorem xw_119 : Cond.fieldLink "ActorTrees$Timers" 15 "ActorTrees$Timers" "dues" "[I" ∈ xtbl := xmem (List.mem_of_getElem? (i := 36) rfl) rfl
set_option maxRecDepth 100000 in
theorem xw_120 : Cond.fieldLink "ActorTrees$Timers" 18 "ActorTrees$Timers" "numbers" "[I" ∈ xtbl := xmem (List.mem_of_getElem? (i := 37) rfl) rfl
set_option maxRecDepth 100000 in
theorem xw_121 : Cond.methodLink "ActorTrees$Timers" 3 objectInit ∈ xtbl := xmem (List.mem_of_getElem? (i := 34) rfl) rfl
set_option maxRecDepth 100000 in
theorem xw_122 : Cond.code yX5_move prog_7_method_9_code 3 (Option.none) ∈ xtbl := xmem (List.mem_of_getElem? (i := 410) rfl) rfl
set_option maxRecDepth 100000 in
theorem xw_123 : Cond.initialized "ActorTrees$Timers" ∈ xtbl := xmem (List.mem_of_getElem? (i := 3) rfl) rfl
set_option maxRecDepth 100000 in
theorem xw_124 : Cond.methodLink "ActorTrees$Timers" 25 yX5_move ∈ xtbl := xmem (List.mem_of_getElem? (i := 407) rfl) rfl
set_option maxRecDepth 100000 in
theorem xw_125 : Cond.instanceMethod yX5_move ∈ xtbl := xmem (List.mem_of_getElem? (i := 409) rfl) rfl
theorem xw_126 : Cond.selects "ActorTrees$Timers" yX5_move yX5_move ∈ xtbl := List.mem_append_left _ (List.mem_of_getElem? (i := 1) rfl)
set_option maxRecDepth 100000 in
theorem xw_127 : Cond.fieldLink "ActorTrees$World" 44 "ActorTrees$World" "came" "I" ∈ xtbl := xmem (List.mem_of_getElem? (i := 162) rfl) rfl
set_option maxRecDepth 100000 in
theorem xw_128 : Cond.code yX6_isActor prog_8_method_3_code 2 (Option.some FieldType.boolean) ∈ xtbl := xmem (List.mem_of_getElem? (i := 284) rfl) rfl
set_option maxRecDepth 100000 in
theorem xw_129 : Cond.initialized "ActorTrees$World" ∈ xtbl := xmem (List.mem_of_getElem? (i := 2) rfl) rfl
set_option maxRecDepth 100000 in
theorem xw_130 : Cond.methodLink "ActorTrees$World" 82 yX6_isActor ∈ xtbl := xmem (List.mem_of_getElem? (i := 281) rfl) rfl
set_option maxRecDepth 100000 in
theorem xw_131 : Cond.instanceMethod yX6_isActor ∈ xtbl := xmem (List.mem_of_getElem? (i := 282) rfl) rfl
set_option maxRecDepth 100000 in
theorem xw_132 : Cond.selects "ActorTrees$World" yX6_isActor yX6_isActor ∈ xtbl := xmem (List.mem_of_getElem? (i := 283) rfl) rfl
set_option maxRecDepth 100000 in
theorem xw_133 : Cond.code yX6_isLive prog_8_method_4_code 2 (Option.some FieldType.boolean) ∈ xtbl := xmem (List.mem_of_getElem? (i := 288) rfl) rfl
set_option maxRecDepth 100000 in
theorem xw_134 : Cond.methodLink "ActorTrees$World" 86 yX6_isLive ∈ xtbl := xmem (List.mem_of_getElem? (i := 285) rfl) rfl
set_option maxRecDepth 100000 in
theorem xw_135 : Cond.instanceMethod yX6_isLive ∈ xtbl := xmem (List.mem_of_getElem? (i := 286) rfl) rfl
set_option maxRecDepth 100000 in
theorem xw_136 : Cond.selects "ActorTrees$World" yX6_isLive yX6_isLive ∈ xtbl := xmem (List.mem_of_getElem? (i := 287) rfl) rfl
set_option maxRecDepth 100000 in
theorem xw_137 : Cond.fieldLink "ActorTrees$World" 11 "ActorTrees$World" "actors" "[LActorTrees$Actor;" ∈ xtbl := xmem (List.mem_of_getElem? (i := 154) rfl) rfl
set_option maxRecDepth 100000 in
theorem xw_138 : Cond.code yX0_begin prog_2_method_2_code 3 (Option.none) ∈ xtbl := xmem (List.mem_of_getElem? (i := 292) rfl) rfl
set_option maxRecDepth 100000 in
theorem xw_139 : Cond.methodLink "ActorTrees$World" 89 yX0_begin ∈ xtbl := xmem (List.mem_of_getElem? (i := 289) rfl) rfl
set_option maxRecDepth 100000 in
theorem xw_140 : Cond.instanceMethod yX0_begin ∈ xtbl := xmem (List.mem_of_getElem? (i := 290) rfl) rfl
set_option maxRecDepth 100000 in
theorem xw_141 : Cond.selects "ActorTrees$Actor" yX0_begin yX0_begin ∈ xtbl := xmem (List.mem_of_getElem? (i := 291) rfl) rfl
set_option maxRecDepth 100000 in
theorem xw_142 : Cond.fieldLink "ActorTrees$World" 93 "ActorTrees$Actor" "strategy" "I" ∈ xtbl := xmem (List.mem_of_getElem? (i := 101) rfl) rfl
set_option maxRecDepth 100000 in
theorem xw_143 : Cond.fieldLink "ActorTrees$World" 96 "ActorTrees$Actor" "budget" "I" ∈ xtbl := xmem (List.mem_of_getElem? (i := 104) rfl) rfl
set_option maxRecDepth 100000 in
theorem xw_144 : Cond.fieldLink "ActorTrees$World" 99 "ActorTrees$Actor" "window" "I" ∈ xtbl := xmem (List.mem_of_getElem? (i := 107) rfl) rfl
set_option maxRecDepth 100000 in
theorem xw_145 : Cond.fieldLink "ActorTrees$World" 73 "ActorTrees$Actor" "parent" "I" ∈ xtbl := xmem (List.mem_of_getElem? (i := 96) rfl) rfl
set_option maxRecDepth 100000 in
theorem xw_146 : Cond.code yX0_copyFrom prog_2_method_4_code 2 (Option.none) ∈ xtbl := xmem (List.mem_of_getElem? (i := 554) rfl) rfl
set_option maxRecDepth 100000 in
theorem xw_147 : Cond.methodLink "ActorTrees$World" 47 yX0_copyFrom ∈ xtbl := xmem (List.mem_of_getElem? (i := 551) rfl) rfl
set_option maxRecDepth 100000 in
theorem xw_148 : Cond.instanceMethod yX0_copyFrom ∈ xtbl := xmem (List.mem_of_getElem? (i := 552) rfl) rfl
set_option maxRecDepth 100000 in
theorem xw_149 : Cond.selects "ActorTrees$Actor" yX0_copyFrom yX0_copyFrom ∈ xtbl := xmem (List.mem_of_getElem? (i := 553) rfl) rfl
set_option maxRecDepth 100000 in
theorem xw_150 : Cond.fieldLink "ActorTrees$World" 20 "ActorTrees$World" "timers" "LActorTrees$Timers;" ∈ xtbl := xmem (List.mem_of_getElem? (i := 156) rfl) rfl
set_option maxRecDepth 100000 in
theorem xw_151 : Cond.code yX5_copyFrom prog_7_method_10_code 2 (Option.none) ∈ xtbl := xmem (List.mem_of_getElem? (i := 572) rfl) rfl
set_option maxRecDepth 100000 in
theorem xw_152 : Cond.methodLink "ActorTrees$World" 51 yX5_copyFrom ∈ xtbl := xmem (List.mem_of_getElem? (i := 569) rfl) rfl
set_option maxRecDepth 100000 in
theorem xw_153 : Cond.instanceMethod yX5_copyFrom ∈ xtbl := xmem (List.mem_of_getElem? (i := 570) rfl) rfl
set_option maxRecDepth 100000 in
theorem xw_154 : Cond.selects "ActorTrees$Timers" yX5_copyFrom yX5_copyFrom ∈ xtbl := xmem (List.mem_of_getElem? (i := 571) rfl) rfl
set_option maxRecDepth 100000 in
theorem xw_155 : Cond.fieldLink "ActorTrees$World" 29 "ActorTrees$World" "dealt" "LActorTrees$Pairs;" ∈ xtbl := xmem (List.mem_of_getElem? (i := 158) rfl) rfl
set_option maxRecDepth 100000 in
theorem xw_156 : Cond.methodLink "ActorTrees$World" 54 yX3_copyFrom ∈ xtbl := xmem (List.mem_of_getElem? (i := 576) rfl) rfl
set_option maxRecDepth 100000 in
theorem xw_157 : Cond.fieldLink "ActorTrees$World" 33 "ActorTrees$World" "causes" "LActorTrees$Pairs;" ∈ xtbl := xmem (List.mem_of_getElem? (i := 160) rfl) rfl
set_option maxRecDepth 100000 in
theorem xw_158 : Cond.fieldLink "ActorTrees$World" 36 "ActorTrees$World" "latest" "I" ∈ xtbl := xmem (List.mem_of_getElem? (i := 164) rfl) rfl
set_option maxRecDepth 100000 in
theorem xw_159 : Cond.fieldLink "ActorTrees$World" 57 "ActorTrees$World" "time" "I" ∈ xtbl := xmem (List.mem_of_getElem? (i := 165) rfl) rfl
set_option maxRecDepth 100000 in
theorem xw_160 : Cond.fieldLink "ActorTrees$World" 60 "ActorTrees$World" "clock" "I" ∈ xtbl := xmem (List.mem_of_getElem? (i := 167) rfl) rfl
set_option maxRecDepth 100000 in
theorem xw_161 : Cond.fieldLink "ActorTrees$World" 63 "ActorTrees$World" "deadLetters" "I" ∈ xtbl := xmem (List.mem_of_getElem? (i := 169) rfl) rfl
set_option maxRecDepth 100000 in
theorem xw_162 : Cond.fieldLink "ActorTrees$World" 40 "ActorTrees$World" "seed" "I" ∈ xtbl := xmem (List.mem_of_getElem? (i := 171) rfl) rfl
set_option maxRecDepth 100000 in
theorem xw_163 : Cond.fieldLink "ActorTrees$World" 66 "ActorTrees$World" "ended" "I" ∈ xtbl := xmem (List.mem_of_getElem? (i := 173) rfl) rfl
set_option maxRecDepth 100000 in
theorem xw_164 : Cond.fieldLink "ActorTrees$World" 158 "ActorTrees$Actor" "stack" "LActorTrees$Numbers;" ∈ xtbl := xmem (List.mem_of_getElem? (i := 116) rfl) rfl
set_option maxRecDepth 100000 in
theorem xw_165 : Cond.fieldLink "ActorTrees$World" 162 "ActorTrees$Numbers" "size" "I" ∈ xtbl := xmem (List.mem_of_getElem? (i := 86) rfl) rfl
set_option maxRecDepth 100000 in
theorem xw_166 : Cond.methodLink "ActorTrees$World" 165 yX2_at ∈ xtbl := xmem (List.mem_of_getElem? (i := 415) rfl) rfl
set_option maxRecDepth 100000 in
theorem xw_167 : Cond.code yX6_dealLater prog_8_method_19_code 5 (Option.some FieldType.int) ∈ xtbl := xmem (List.mem_of_getElem? (i := 477) rfl) rfl
set_option maxRecDepth 100000 in
theorem xw_168 : Cond.methodLink "ActorTrees$World" 168 yX6_dealLater ∈ xtbl := xmem (List.mem_of_getElem? (i := 474) rfl) rfl
set_option maxRecDepth 100000 in
theorem xw_169 : Cond.instanceMethod yX6_dealLater ∈ xtbl := xmem (List.mem_of_getElem? (i := 476) rfl) rfl
theorem xw_170 : Cond.selects "ActorTrees$World" yX6_dealLater yX6_dealLater ∈ xtbl := List.mem_append_left _ (List.mem_of_getElem? (i := 5) rfl)
set_option maxRecDepth 100000 in
theorem xw_171 : Cond.code yX6_dealEarlier prog_8_method_18_code 6 (Option.some FieldType.int) ∈ xtbl := xmem (List.mem_of_getElem? (i := 499) rfl) rfl
set_option maxRecDepth 100000 in
theorem xw_172 : Cond.methodLink "ActorTrees$World" 171 yX6_dealEarlier ∈ xtbl := xmem (List.mem_of_getElem? (i := 496) rfl) rfl
set_option maxRecDepth 100000 in
theorem xw_173 : Cond.instanceMethod yX6_dealEarlier ∈ xtbl := xmem (List.mem_of_getElem? (i := 498) rfl) rfl
theorem xw_174 : Cond.selects "ActorTrees$World" yX6_dealEarlier yX6_dealEarlier ∈ xtbl := List.mem_append_left _ (List.mem_of_getElem? (i := 8) rfl)
set_option maxRecDepth 100000 in
theorem xw_175 : Cond.fieldLink "ActorTrees$World" 175 "ActorTrees$Actor" "count" "I" ∈ xtbl := xmem (List.mem_of_getElem? (i := 110) rfl) rfl
set_option maxRecDepth 100000 in
theorem xw_176 : Cond.code yX6_sendDown prog_8_method_20_code 6 (Option.none) ∈ xtbl := xmem (List.mem_of_getElem? (i := 485) rfl) rfl
set_option maxRecDepth 100000 in
theorem xw_177 : Cond.methodLink "ActorTrees$World" 178 yX6_sendDown ∈ xtbl := xmem (List.mem_of_getElem? (i := 482) rfl) rfl
set_option maxRecDepth 100000 in
theorem xw_178 : Cond.instanceMethod yX6_sendDown ∈ xtbl := xmem (List.mem_of_getElem? (i := 484) rfl) rfl
theorem xw_179 : Cond.selects "ActorTrees$World" yX6_sendDown yX6_sendDown ∈ xtbl := List.mem_append_left _ (List.mem_of_getElem? (i := 6) rfl)
set_option maxRecDepth 100000 in
theorem xw_180 : Cond.code yX6_send prog_8_method_10_code 5 (Option.some FieldType.boolean) ∈ xtbl := xmem (List.mem_of_getElem? (i := 312) rfl) rfl
set_option maxRecDepth 100000 in
theorem xw_181 : Cond.methodLink "ActorTrees$World" 154 yX6_send ∈ xtbl := xmem (List.mem_of_getElem? (i := 416) rfl) rfl
set_option maxRecDepth 100000 in
theorem xw_182 : Cond.instanceMethod yX6_send ∈ xtbl := xmem (List.mem_of_getElem? (i := 310) rfl) rfl
set_option maxRecDepth 100000 in
theorem xw_183 : Cond.selects "ActorTrees$World" yX6_send yX6_send ∈ xtbl := xmem (List.mem_of_getElem? (i := 311) rfl) rfl
set_option maxRecDepth 100000 in
theorem xw_184 : Cond.fieldLink "ActorTrees$World" 182 "ActorTrees$Actor" "stash" "LActorTrees$Pairs;" ∈ xtbl := xmem (List.mem_of_getElem? (i := 122) rfl) rfl
set_option maxRecDepth 100000 in
theorem xw_185 : Cond.methodLink "ActorTrees$World" 102 yX3_add ∈ xtbl := xmem (List.mem_of_getElem? (i := 313) rfl) rfl
set_option maxRecDepth 100000 in
theorem xw_186 : Cond.code yX6_unstash prog_8_method_21_code 2 (Option.none) ∈ xtbl := xmem (List.mem_of_getElem? (i := 503) rfl) rfl
set_option maxRecDepth 100000 in
theorem xw_187 : Cond.methodLink "ActorTrees$World" 185 yX6_unstash ∈ xtbl := xmem (List.mem_of_getElem? (i := 500) rfl) rfl
set_option maxRecDepth 100000 in
theorem xw_188 : Cond.instanceMethod yX6_unstash ∈ xtbl := xmem (List.mem_of_getElem? (i := 502) rfl) rfl
theorem xw_189 : Cond.selects "ActorTrees$World" yX6_unstash yX6_unstash ∈ xtbl := List.mem_append_left _ (List.mem_of_getElem? (i := 9) rfl)
set_option maxRecDepth 100000 in
theorem xw_190 : Cond.methodLink "ActorTrees$World" 188 yX2_add ∈ xtbl := xmem (List.mem_of_getElem? (i := 494) rfl) rfl
set_option maxRecDepth 100000 in
theorem xw_191 : Cond.code yX5_set prog_7_method_6_code 5 (Option.none) ∈ xtbl := xmem (List.mem_of_getElem? (i := 481) rfl) rfl
set_option maxRecDepth 100000 in
theorem xw_192 : Cond.methodLink "ActorTrees$World" 190 yX5_set ∈ xtbl := xmem (List.mem_of_getElem? (i := 478) rfl) rfl
set_option maxRecDepth 100000 in
theorem xw_193 : Cond.instanceMethod yX5_set ∈ xtbl := xmem (List.mem_of_getElem? (i := 479) rfl) rfl
set_option maxRecDepth 100000 in
theorem xw_194 : Cond.selects "ActorTrees$Timers" yX5_set yX5_set ∈ xtbl := xmem (List.mem_of_getElem? (i := 480) rfl) rfl
set_option maxRecDepth 100000 in
theorem xw_195 : Cond.code yX6_watch prog_8_method_22_code 4 (Option.none) ∈ xtbl := xmem (List.mem_of_getElem? (i := 489) rfl) rfl
set_option maxRecDepth 100000 in
theorem xw_196 : Cond.methodLink "ActorTrees$World" 193 yX6_watch ∈ xtbl := xmem (List.mem_of_getElem? (i := 486) rfl) rfl
set_option maxRecDepth 100000 in
theorem xw_197 : Cond.instanceMethod yX6_watch ∈ xtbl := xmem (List.mem_of_getElem? (i := 488) rfl) rfl
theorem xw_198 : Cond.selects "ActorTrees$World" yX6_watch yX6_watch ∈ xtbl := List.mem_append_left _ (List.mem_of_getElem? (i := 7) rfl)
set_option maxRecDepth 100000 in
theorem xw_199 : Cond.code yX6_halt prog_8_method_27_code 8 (Option.some FieldType.int) ∈ xtbl := xmem (List.mem_of_getElem? (i := 393) rfl) rfl
set_option maxRecDepth 100000 in
theorem xw_200 : Cond.methodLink "ActorTrees$World" 196 yX6_halt ∈ xtbl := xmem (List.mem_of_getElem? (i := 495) rfl) rfl
set_option maxRecDepth 100000 in
theorem xw_201 : Cond.instanceMethod yX6_halt ∈ xtbl := xmem (List.mem_of_getElem? (i := 391) rfl) rfl
set_option maxRecDepth 100000 in
theorem xw_202 : Cond.selects "ActorTrees$World" yX6_halt yX6_halt ∈ xtbl := xmem (List.mem_of_getElem? (i := 392) rfl) rfl
set_option maxRecDepth 100000 in
theorem xw_203 : Cond.fieldLink "ActorTrees$World" 212 "ActorTrees$World" "hasFailed" "Z" ∈ xtbl := xmem (List.mem_of_getElem? (i := 176) rfl) rfl
set_option maxRecDepth 100000 in
theorem xw_204 : Cond.fieldLink "ActorTrees$World" 79 "ActorTrees$Pairs" "size" "I" ∈ xtbl := xmem (List.mem_of_getElem? (i := 62) rfl) rfl
set_option maxRecDepth 100000 in
theorem xw_205 : Cond.code yX6_isOverBudgetAbove prog_8_method_24_code 3 (Option.some FieldType.boolean) ∈ xtbl := xmem (List.mem_of_getElem? (i := 518) rfl) rfl
set_option maxRecDepth 100000 in
theorem xw_206 : Cond.methodLink "ActorTrees$World" 215 yX6_isOverBudgetAbove ∈ xtbl := xmem (List.mem_of_getElem? (i := 515) rfl) rfl
set_option maxRecDepth 100000 in
theorem xw_207 : Cond.instanceMethod yX6_isOverBudgetAbove ∈ xtbl := xmem (List.mem_of_getElem? (i := 517) rfl) rfl
theorem xw_208 : Cond.selects "ActorTrees$World" yX6_isOverBudgetAbove yX6_isOverBudgetAbove ∈ xtbl := List.mem_append_left _ (List.mem_of_getElem? (i := 10) rfl)
set_option maxRecDepth 100000 in
theorem xw_209 : Cond.code yX6_isRestartedWith prog_8_method_25_code 4 (Option.some FieldType.boolean) ∈ xtbl := xmem (List.mem_of_getElem? (i := 526) rfl) rfl
set_option maxRecDepth 100000 in
theorem xw_210 : Cond.methodLink "ActorTrees$World" 218 yX6_isRestartedWith ∈ xtbl := xmem (List.mem_of_getElem? (i := 523) rfl) rfl
set_option maxRecDepth 100000 in
theorem xw_211 : Cond.instanceMethod yX6_isRestartedWith ∈ xtbl := xmem (List.mem_of_getElem? (i := 525) rfl) rfl
theorem xw_212 : Cond.selects "ActorTrees$World" yX6_isRestartedWith yX6_isRestartedWith ∈ xtbl := List.mem_append_left _ (List.mem_of_getElem? (i := 11) rfl)
set_option maxRecDepth 100000 in
theorem xw_213 : Cond.code yX6_restart prog_8_method_26_code 3 (Option.none) ∈ xtbl := xmem (List.mem_of_getElem? (i := 530) rfl) rfl
set_option maxRecDepth 100000 in
theorem xw_214 : Cond.methodLink "ActorTrees$World" 221 yX6_restart ∈ xtbl := xmem (List.mem_of_getElem? (i := 527) rfl) rfl
set_option maxRecDepth 100000 in
theorem xw_215 : Cond.instanceMethod yX6_restart ∈ xtbl := xmem (List.mem_of_getElem? (i := 529) rfl) rfl
theorem xw_216 : Cond.selects "ActorTrees$World" yX6_restart yX6_restart ∈ xtbl := List.mem_append_left _ (List.mem_of_getElem? (i := 12) rfl)
set_option maxRecDepth 100000 in
theorem xw_217 : Cond.fieldLink "ActorTrees$World" 117 "ActorTrees$Timers" "size" "I" ∈ xtbl := xmem (List.mem_of_getElem? (i := 40) rfl) rfl
set_option maxRecDepth 100000 in
theorem xw_218 : Cond.code yX5_ownerAt prog_7_method_2_code 2 (Option.some FieldType.int) ∈ xtbl := xmem (List.mem_of_getElem? (i := 376) rfl) rfl
set_option maxRecDepth 100000 in
theorem xw_219 : Cond.methodLink "ActorTrees$World" 144 yX5_ownerAt ∈ xtbl := xmem (List.mem_of_getElem? (i := 448) rfl) rfl
set_option maxRecDepth 100000 in
theorem xw_220 : Cond.instanceMethod yX5_ownerAt ∈ xtbl := xmem (List.mem_of_getElem? (i := 374) rfl) rfl
set_option maxRecDepth 100000 in
theorem xw_221 : Cond.selects "ActorTrees$Timers" yX5_ownerAt yX5_ownerAt ∈ xtbl := xmem (List.mem_of_getElem? (i := 375) rfl) rfl
set_option maxRecDepth 100000 in
theorem xw_222 : Cond.code yX5_numberAt prog_7_method_4_code 2 (Option.some FieldType.int) ∈ xtbl := xmem (List.mem_of_getElem? (i := 384) rfl) rfl
set_option maxRecDepth 100000 in
theorem xw_223 : Cond.methodLink "ActorTrees$World" 147 yX5_numberAt ∈ xtbl := xmem (List.mem_of_getElem? (i := 449) rfl) rfl
set_option maxRecDepth 100000 in
theorem xw_224 : Cond.instanceMethod yX5_numberAt ∈ xtbl := xmem (List.mem_of_getElem? (i := 382) rfl) rfl
set_option maxRecDepth 100000 in
theorem xw_225 : Cond.selects "ActorTrees$Timers" yX5_numberAt yX5_numberAt ∈ xtbl := xmem (List.mem_of_getElem? (i := 383) rfl) rfl
set_option maxRecDepth 100000 in
theorem xw_226 : Cond.code yX5_dueAt prog_7_method_3_code 2 (Option.some FieldType.int) ∈ xtbl := xmem (List.mem_of_getElem? (i := 380) rfl) rfl
set_option maxRecDepth 100000 in
theorem xw_227 : Cond.methodLink "ActorTrees$World" 150 yX5_dueAt ∈ xtbl := xmem (List.mem_of_getElem? (i := 450) rfl) rfl
set_option maxRecDepth 100000 in
theorem xw_228 : Cond.instanceMethod yX5_dueAt ∈ xtbl := xmem (List.mem_of_getElem? (i := 378) rfl) rfl
set_option maxRecDepth 100000 in
theorem xw_229 : Cond.selects "ActorTrees$Timers" yX5_dueAt yX5_dueAt ∈ xtbl := xmem (List.mem_of_getElem? (i := 379) rfl) rfl
set_option maxRecDepth 100000 in
theorem xw_230 : Cond.code yX5_removeFirst prog_7_method_8_code 2 (Option.none) ∈ xtbl := xmem (List.mem_of_getElem? (i := 454) rfl) rfl
set_option maxRecDepth 100000 in
theorem xw_231 : Cond.methodLink "ActorTrees$World" 153 yX5_removeFirst ∈ xtbl := xmem (List.mem_of_getElem? (i := 451) rfl) rfl
set_option maxRecDepth 100000 in
theorem xw_232 : Cond.instanceMethod yX5_removeFirst ∈ xtbl := xmem (List.mem_of_getElem? (i := 452) rfl) rfl
set_option maxRecDepth 100000 in
theorem xw_233 : Cond.selects "ActorTrees$Timers" yX5_removeFirst yX5_removeFirst ∈ xtbl := xmem (List.mem_of_getElem? (i := 453) rfl) rfl
set_option maxRecDepth 100000 in
theorem xw_234 : Cond.code yX6_isLiveChild prog_8_method_5_code 3 (Option.some FieldType.boolean) ∈ xtbl := xmem (List.mem_of_getElem? (i := 401) rfl) rfl
set_option maxRecDepth 100000 in
theorem xw_235 : Cond.methodLink "ActorTrees$World" 199 yX6_isLiveChild ∈ xtbl := xmem (List.mem_of_getElem? (i := 398) rfl) rfl
set_option maxRecDepth 100000 in
theorem xw_236 : Cond.instanceMethod yX6_isLiveChild ∈ xtbl := xmem (List.mem_of_getElem? (i := 399) rfl) rfl
set_option maxRecDepth 100000 in
theorem xw_237 : Cond.selects "ActorTrees$World" yX6_isLiveChild yX6_isLiveChild ∈ xtbl := xmem (List.mem_of_getElem? (i := 400) rfl) rfl
set_option maxRecDepth 100000 in
theorem xw_238 : Cond.code yX6_greatestLiveChild prog_8_method_28_code 3 (Option.some FieldType.int) ∈ xtbl := xmem (List.mem_of_getElem? (i := 397) rfl) rfl
set_option maxRecDepth 100000 in
theorem xw_239 : Cond.methodLink "ActorTrees$World" 239 yX6_greatestLiveChild ∈ xtbl := xmem (List.mem_of_getElem? (i := 394) rfl) rfl
set_option maxRecDepth 100000 in
theorem xw_240 : Cond.instanceMethod yX6_greatestLiveChild ∈ xtbl := xmem (List.mem_of_getElem? (i := 396) rfl) rfl
theorem xw_241 : Cond.selects "ActorTrees$World" yX6_greatestLiveChild yX6_greatestLiveChild ∈ xtbl := List.mem_append_left _ (List.mem_of_getElem? (i := 0) rfl)
set_option maxRecDepth 100000 in
theorem xw_242 : Cond.fieldLink "ActorTrees$World" 69 "ActorTrees$Actor" "live" "Z" ∈ xtbl := xmem (List.mem_of_getElem? (i := 112) rfl) rfl
set_option maxRecDepth 100000 in
theorem xw_243 : Cond.fieldLink "ActorTrees$World" 76 "ActorTrees$Actor" "mailbox" "LActorTrees$Pairs;" ∈ xtbl := xmem (List.mem_of_getElem? (i := 119) rfl) rfl
set_option maxRecDepth 100000 in
theorem xw_244 : Cond.methodLink "ActorTrees$World" 233 yX0_keepOwnOnly ∈ xtbl := xmem (List.mem_of_getElem? (i := 402) rfl) rfl
set_option maxRecDepth 100000 in
theorem xw_245 : Cond.code yX5_removeOf prog_7_method_7_code 4 (Option.none) ∈ xtbl := xmem (List.mem_of_getElem? (i := 406) rfl) rfl
set_option maxRecDepth 100000 in
theorem xw_246 : Cond.methodLink "ActorTrees$World" 236 yX5_removeOf ∈ xtbl := xmem (List.mem_of_getElem? (i := 403) rfl) rfl
set_option maxRecDepth 100000 in
theorem xw_247 : Cond.instanceMethod yX5_removeOf ∈ xtbl := xmem (List.mem_of_getElem? (i := 404) rfl) rfl
set_option maxRecDepth 100000 in
theorem xw_248 : Cond.selects "ActorTrees$Timers" yX5_removeOf yX5_removeOf ∈ xtbl := xmem (List.mem_of_getElem? (i := 405) rfl) rfl
set_option maxRecDepth 100000 in
theorem xw_249 : Cond.fieldLink "ActorTrees$World" 206 "ActorTrees$Actor" "watchers" "LActorTrees$Numbers;" ∈ xtbl := xmem (List.mem_of_getElem? (i := 125) rfl) rfl
set_option maxRecDepth 100000 in
theorem xw_250 : Cond.code yX2_remove prog_4_method_6_code 4 (Option.none) ∈ xtbl := xmem (List.mem_of_getElem? (i := 414) rfl) rfl
set_option maxRecDepth 100000 in
theorem xw_251 : Cond.methodLink "ActorTrees$World" 242 yX2_remove ∈ xtbl := xmem (List.mem_of_getElem? (i := 411) rfl) rfl
set_option maxRecDepth 100000 in
theorem xw_252 : Cond.instanceMethod yX2_remove ∈ xtbl := xmem (List.mem_of_getElem? (i := 412) rfl) rfl
set_option maxRecDepth 100000 in
theorem xw_253 : Cond.selects "ActorTrees$Numbers" yX2_remove yX2_remove ∈ xtbl := xmem (List.mem_of_getElem? (i := 413) rfl) rfl
set_option maxRecDepth 100000 in
theorem xw_254 : Cond.code yX6_nextDealer prog_8_method_14_code 3 (Option.some FieldType.int) ∈ xtbl := xmem (List.mem_of_getElem? (i := 439) rfl) rfl
set_option maxRecDepth 100000 in
theorem xw_255 : Cond.methodLink "ActorTrees$World" 118 yX6_nextDealer ∈ xtbl := xmem (List.mem_of_getElem? (i := 436) rfl) rfl
set_option maxRecDepth 100000 in
theorem xw_256 : Cond.instanceMethod yX6_nextDealer ∈ xtbl := xmem (List.mem_of_getElem? (i := 438) rfl) rfl
theorem xw_257 : Cond.selects "ActorTrees$World" yX6_nextDealer yX6_nextDealer ∈ xtbl := List.mem_append_left _ (List.mem_of_getElem? (i := 3) rfl)
set_option maxRecDepth 100000 in
theorem xw_258 : Cond.code yX6_hasStep prog_8_method_13_code 1 (Option.some FieldType.boolean) ∈ xtbl := xmem (List.mem_of_getElem? (i := 435) rfl) rfl
set_option maxRecDepth 100000 in
theorem xw_259 : Cond.methodLink "ActorTrees$World" 114 yX6_hasStep ∈ xtbl := xmem (List.mem_of_getElem? (i := 432) rfl) rfl
set_option maxRecDepth 100000 in
theorem xw_260 : Cond.instanceMethod yX6_hasStep ∈ xtbl := xmem (List.mem_of_getElem? (i := 433) rfl) rfl
set_option maxRecDepth 100000 in
theorem xw_261 : Cond.selects "ActorTrees$World" yX6_hasStep yX6_hasStep ∈ xtbl := xmem (List.mem_of_getElem? (i := 434) rfl) rfl
set_option maxRecDepth 100000 in
theorem xw_262 : Cond.methodLink "ActorTrees$World" 3 objectInit ∈ xtbl := xmem (List.mem_of_getElem? (i := 26) rfl) rfl
set_option maxRecDepth 100000 in
theorem xw_263 : Cond.classLink "ActorTrees$World" 9 "ActorTrees$Actor" ∈ xtbl := xmem (List.mem_of_getElem? (i := 27) rfl) rfl
set_option maxRecDepth 100000 in
theorem xw_264 : Cond.classLink "ActorTrees$World" 17 "ActorTrees$Timers" ∈ xtbl := xmem (List.mem_of_getElem? (i := 29) rfl) rfl
set_option maxRecDepth 100000 in
theorem xw_265 : Cond.instantiable "ActorTrees$Timers" 4 ∈ xtbl := xmem (List.mem_of_getElem? (i := 30) rfl) rfl
set_option maxRecDepth 100000 in
theorem xw_266 : Cond.code yX5_init prog_7_method_1_code 1 (Option.none) ∈ xtbl := xmem (List.mem_of_getElem? (i := 33) rfl) rfl
set_option maxRecDepth 100000 in
theorem xw_267 : Cond.instanceMethod yX5_init ∈ xtbl := xmem (List.mem_of_getElem? (i := 32) rfl) rfl
set_option maxRecDepth 100000 in
theorem xw_268 : Cond.classLink "ActorTrees$World" 24 "ActorTrees$Pairs" ∈ xtbl := xmem (List.mem_of_getElem? (i := 51) rfl) rfl
set_option maxRecDepth 100000 in
theorem xw_269 : Cond.methodLink "ActorTrees$World" 26 yX3_init ∈ xtbl := xmem (List.mem_of_getElem? (i := 53) rfl) rfl
set_option maxRecDepth 100000 in
theorem xw_270 : Cond.instantiable "ActorTrees$Actor" 12 ∈ xtbl := xmem (List.mem_of_getElem? (i := 70) rfl) rfl
set_option maxRecDepth 100000 in
theorem xw_271 : Cond.code yX0_init prog_2_method_1_code 1 (Option.none) ∈ xtbl := xmem (List.mem_of_getElem? (i := 73) rfl) rfl
set_option maxRecDepth 100000 in
theorem xw_272 : Cond.instanceMethod yX0_init ∈ xtbl := xmem (List.mem_of_getElem? (i := 72) rfl) rfl
set_option maxRecDepth 100000 in
theorem xw_273 : Cond.fieldLink "ActorTrees$World" 224 "ActorTrees$Actor" "notes" "LActorTrees$Numbers;" ∈ xtbl := xmem (List.mem_of_getElem? (i := 128) rfl) rfl
set_option maxRecDepth 100000 in
theorem xw_274 : Cond.code yX2_removeBelow prog_4_method_7_code 4 (Option.none) ∈ xtbl := xmem (List.mem_of_getElem? (i := 522) rfl) rfl
set_option maxRecDepth 100000 in
theorem xw_275 : Cond.methodLink "ActorTrees$World" 227 yX2_removeBelow ∈ xtbl := xmem (List.mem_of_getElem? (i := 519) rfl) rfl
set_option maxRecDepth 100000 in
theorem xw_276 : Cond.instanceMethod yX2_removeBelow ∈ xtbl := xmem (List.mem_of_getElem? (i := 520) rfl) rfl
set_option maxRecDepth 100000 in
theorem xw_277 : Cond.selects "ActorTrees$Numbers" yX2_removeBelow yX2_removeBelow ∈ xtbl := xmem (List.mem_of_getElem? (i := 521) rfl) rfl
set_option maxRecDepth 100000 in
theorem xw_278 : Cond.code yX6_howItStands prog_8_method_12_code 1 (Option.some FieldType.int) ∈ xtbl := xmem (List.mem_of_getElem? (i := 431) rfl) rfl
set_option maxRecDepth 100000 in
theorem xw_279 : Cond.methodLink "ActorTrees$World" 106 yX6_howItStands ∈ xtbl := xmem (List.mem_of_getElem? (i := 428) rfl) rfl
set_option maxRecDepth 100000 in
theorem xw_280 : Cond.instanceMethod yX6_howItStands ∈ xtbl := xmem (List.mem_of_getElem? (i := 430) rfl) rfl
theorem xw_281 : Cond.selects "ActorTrees$World" yX6_howItStands yX6_howItStands ∈ xtbl := List.mem_append_left _ (List.mem_of_getElem? (i := 2) rfl)
set_option maxRecDepth 100000 in
theorem xw_282 : Cond.code yX6_step prog_8_method_15_code 6 (Option.some FieldType.boolean) ∈ xtbl := xmem (List.mem_of_getElem? (i := 443) rfl) rfl
set_option maxRecDepth 100000 in
theorem xw_283 : Cond.methodLink "ActorTrees$World" 110 yX6_step ∈ xtbl := xmem (List.mem_of_getElem? (i := 440) rfl) rfl
set_option maxRecDepth 100000 in
theorem xw_284 : Cond.instanceMethod yX6_step ∈ xtbl := xmem (List.mem_of_getElem? (i := 441) rfl) rfl
set_option maxRecDepth 100000 in
theorem xw_285 : Cond.selects "ActorTrees$World" yX6_step yX6_step ∈ xtbl := xmem (List.mem_of_getElem? (i := 442) rfl) rfl
set_option maxRecDepth 100000 in
theorem xw_286 : Cond.fieldLink "ActorTrees$World" 230 "ActorTrees$World" "restarted" "I" ∈ xtbl := xmem (List.mem_of_getElem? (i := 178) rfl) rfl
set_option maxRecDepth 100000 in
theorem xw_287 : Cond.code yX6_fireTimer prog_8_method_16_code 3 (Option.some FieldType.boolean) ∈ xtbl := xmem (List.mem_of_getElem? (i := 447) rfl) rfl
set_option maxRecDepth 100000 in
theorem xw_288 : Cond.methodLink "ActorTrees$World" 121 yX6_fireTimer ∈ xtbl := xmem (List.mem_of_getElem? (i := 444) rfl) rfl
set_option maxRecDepth 100000 in
theorem xw_289 : Cond.instanceMethod yX6_fireTimer ∈ xtbl := xmem (List.mem_of_getElem? (i := 446) rfl) rfl
theorem xw_290 : Cond.selects "ActorTrees$World" yX6_fireTimer yX6_fireTimer ∈ xtbl := List.mem_append_left _ (List.mem_of_getElem? (i := 4) rfl)
set_option maxRecDepth 100000 in
theorem xw_291 : Cond.code yX3_firstAt prog_5_method_2_code 2 (Option.some FieldType.int) ∈ xtbl := xmem (List.mem_of_getElem? (i := 357) rfl) rfl
set_option maxRecDepth 100000 in
theorem xw_292 : Cond.methodLink "ActorTrees$World" 124 yX3_firstAt ∈ xtbl := xmem (List.mem_of_getElem? (i := 455) rfl) rfl
set_option maxRecDepth 100000 in
theorem xw_293 : Cond.instanceMethod yX3_firstAt ∈ xtbl := xmem (List.mem_of_getElem? (i := 355) rfl) rfl
set_option maxRecDepth 100000 in
theorem xw_294 : Cond.selects "ActorTrees$Pairs" yX3_firstAt yX3_firstAt ∈ xtbl := xmem (List.mem_of_getElem? (i := 356) rfl) rfl
set_option maxRecDepth 100000 in
theorem xw_295 : Cond.code yX3_secondAt prog_5_method_3_code 2 (Option.some FieldType.int) ∈ xtbl := xmem (List.mem_of_getElem? (i := 349) rfl) rfl
set_option maxRecDepth 100000 in
theorem xw_296 : Cond.methodLink "ActorTrees$World" 128 yX3_secondAt ∈ xtbl := xmem (List.mem_of_getElem? (i := 456) rfl) rfl
set_option maxRecDepth 100000 in
theorem xw_297 : Cond.instanceMethod yX3_secondAt ∈ xtbl := xmem (List.mem_of_getElem? (i := 347) rfl) rfl
set_option maxRecDepth 100000 in
theorem xw_298 : Cond.selects "ActorTrees$Pairs" yX3_secondAt yX3_secondAt ∈ xtbl := xmem (List.mem_of_getElem? (i := 348) rfl) rfl
set_option maxRecDepth 100000 in
theorem xw_299 : Cond.methodLink "ActorTrees$World" 131 yX3_removeFirst ∈ xtbl := xmem (List.mem_of_getElem? (i := 457) rfl) rfl
set_option maxRecDepth 100000 in
theorem xw_300 : Cond.code yX3_addDroppingOldest prog_5_method_5_code 3 (Option.none) ∈ xtbl := xmem (List.mem_of_getElem? (i := 467) rfl) rfl
set_option maxRecDepth 100000 in
theorem xw_301 : Cond.methodLink "ActorTrees$World" 134 yX3_addDroppingOldest ∈ xtbl := xmem (List.mem_of_getElem? (i := 464) rfl) rfl
set_option maxRecDepth 100000 in
theorem xw_302 : Cond.instanceMethod yX3_addDroppingOldest ∈ xtbl := xmem (List.mem_of_getElem? (i := 465) rfl) rfl
set_option maxRecDepth 100000 in
theorem xw_303 : Cond.selects "ActorTrees$Pairs" yX3_addDroppingOldest yX3_addDroppingOldest ∈ xtbl := xmem (List.mem_of_getElem? (i := 466) rfl) rfl
set_option maxRecDepth 100000 in
theorem xw_304 : Cond.code yX6_deal prog_8_method_17_code 6 (Option.some FieldType.int) ∈ xtbl := xmem (List.mem_of_getElem? (i := 473) rfl) rfl
set_option maxRecDepth 100000 in
theorem xw_305 : Cond.methodLink "ActorTrees$World" 137 yX6_deal ∈ xtbl := xmem (List.mem_of_getElem? (i := 470) rfl) rfl
set_option maxRecDepth 100000 in
theorem xw_306 : Cond.instanceMethod yX6_deal ∈ xtbl := xmem (List.mem_of_getElem? (i := 471) rfl) rfl
set_option maxRecDepth 100000 in
theorem xw_307 : Cond.selects "ActorTrees$World" yX6_deal yX6_deal ∈ xtbl := xmem (List.mem_of_getElem? (i := 472) rfl) rfl
set_option maxRecDepth 100000 in
theorem xw_308 : Cond.code yX6_fail prog_8_method_23_code 5 (Option.none) ∈ xtbl := xmem (List.mem_of_getElem? (i := 514) rfl) rfl
set_option maxRecDepth 100000 in
theorem xw_309 : Cond.methodLink "ActorTrees$World" 141 yX6_fail ∈ xtbl := xmem (List.mem_of_getElem? (i := 511) rfl) rfl
set_option maxRecDepth 100000 in
theorem xw_310 : Cond.instanceMethod yX6_fail ∈ xtbl := xmem (List.mem_of_getElem? (i := 512) rfl) rfl
set_option maxRecDepth 100000 in
theorem xw_311 : Cond.selects "ActorTrees$World" yX6_fail yX6_fail ∈ xtbl := xmem (List.mem_of_getElem? (i := 513) rfl) rfl
set_option maxRecDepth 100000 in
theorem xw_312 : Cond.code yX3_putAhead prog_5_method_7_code 3 (Option.some FieldType.int) ∈ xtbl := xmem (List.mem_of_getElem? (i := 507) rfl) rfl
set_option maxRecDepth 100000 in
theorem xw_313 : Cond.methodLink "ActorTrees$World" 202 yX3_putAhead ∈ xtbl := xmem (List.mem_of_getElem? (i := 504) rfl) rfl
set_option maxRecDepth 100000 in
theorem xw_314 : Cond.instanceMethod yX3_putAhead ∈ xtbl := xmem (List.mem_of_getElem? (i := 505) rfl) rfl
set_option maxRecDepth 100000 in
theorem xw_315 : Cond.selects "ActorTrees$Pairs" yX3_putAhead yX3_putAhead ∈ xtbl := xmem (List.mem_of_getElem? (i := 506) rfl) rfl
set_option maxRecDepth 100000 in
theorem xw_316 : Cond.code yX2_has prog_4_method_5_code 3 (Option.some FieldType.boolean) ∈ xtbl := xmem (List.mem_of_getElem? (i := 493) rfl) rfl
set_option maxRecDepth 100000 in
theorem xw_317 : Cond.methodLink "ActorTrees$World" 209 yX2_has ∈ xtbl := xmem (List.mem_of_getElem? (i := 490) rfl) rfl
set_option maxRecDepth 100000 in
theorem xw_318 : Cond.instanceMethod yX2_has ∈ xtbl := xmem (List.mem_of_getElem? (i := 491) rfl) rfl
set_option maxRecDepth 100000 in
theorem xw_319 : Cond.selects "ActorTrees$Numbers" yX2_has yX2_has ∈ xtbl := xmem (List.mem_of_getElem? (i := 492) rfl) rfl
set_option maxRecDepth 100000 in
theorem xw_320 : Cond.fieldLink "ActorTrees" 10 "ActorTrees" "now" "LActorTrees$World;" ∈ xtbl := xmem (List.mem_of_getElem? (i := 251) rfl) rfl
set_option maxRecDepth 100000 in
theorem xw_321 : Cond.code yX6_addActor prog_8_method_9_code 8 (Option.some FieldType.int) ∈ xtbl := xmem (List.mem_of_getElem? (i := 280) rfl) rfl
set_option maxRecDepth 100000 in
theorem xw_322 : Cond.methodLink "ActorTrees" 39 yX6_addActor ∈ xtbl := xmem (List.mem_of_getElem? (i := 277) rfl) rfl
set_option maxRecDepth 100000 in
theorem xw_323 : Cond.instanceMethod yX6_addActor ∈ xtbl := xmem (List.mem_of_getElem? (i := 278) rfl) rfl
set_option maxRecDepth 100000 in
theorem xw_324 : Cond.selects "ActorTrees$World" yX6_addActor yX6_addActor ∈ xtbl := xmem (List.mem_of_getElem? (i := 279) rfl) rfl
set_option maxRecDepth 100000 in
theorem xw_325 : Cond.fieldLink "ActorTrees" 244 "ActorTrees" "hasImage" "Z" ∈ xtbl := xmem (List.mem_of_getElem? (i := 257) rfl) rfl
set_option maxRecDepth 100000 in
theorem xw_326 : Cond.fieldLink "ActorTrees" 19 "ActorTrees" "kept" "LActorTrees$World;" ∈ xtbl := xmem (List.mem_of_getElem? (i := 253) rfl) rfl
set_option maxRecDepth 100000 in
theorem xw_327 : Cond.code yX6_copyFrom prog_8_method_2_code 3 (Option.none) ∈ xtbl := xmem (List.mem_of_getElem? (i := 550) rfl) rfl
set_option maxRecDepth 100000 in
theorem xw_328 : Cond.methodLink "ActorTrees" 172 yX6_copyFrom ∈ xtbl := xmem (List.mem_of_getElem? (i := 547) rfl) rfl
set_option maxRecDepth 100000 in
theorem xw_329 : Cond.instanceMethod yX6_copyFrom ∈ xtbl := xmem (List.mem_of_getElem? (i := 548) rfl) rfl
set_option maxRecDepth 100000 in
theorem xw_330 : Cond.selects "ActorTrees$World" yX6_copyFrom yX6_copyFrom ∈ xtbl := xmem (List.mem_of_getElem? (i := 549) rfl) rfl
set_option maxRecDepth 100000 in
theorem xw_331 : Cond.fieldLink "ActorTrees" 34 "ActorTrees" "handles" "[LActorTrees$Handle;" ∈ xtbl := xmem (List.mem_of_getElem? (i := 256) rfl) rfl
set_option maxRecDepth 100000 in
theorem xw_332 : Cond.fieldLink "ActorTrees" 235 "ActorTrees$Handle" "sort" "I" ∈ xtbl := xmem (List.mem_of_getElem? (i := 242) rfl) rfl
set_option maxRecDepth 100000 in
theorem xw_333 : Cond.fieldLink "ActorTrees" 247 "ActorTrees$Handle" "actor" "I" ∈ xtbl := xmem (List.mem_of_getElem? (i := 243) rfl) rfl
set_option maxRecDepth 100000 in
theorem xw_334 : Cond.methodLink "ActorTrees" 43 yX6_isActor ∈ xtbl := xmem (List.mem_of_getElem? (i := 305) rfl) rfl
set_option maxRecDepth 100000 in
theorem xw_335 : Cond.fieldLink "ActorTrees" 225 "ActorTrees$World" "came" "I" ∈ xtbl := xmem (List.mem_of_getElem? (i := 163) rfl) rfl
set_option maxRecDepth 100000 in
theorem xw_336 : Cond.methodLink "ActorTrees" 151 yX6_isLive ∈ xtbl := xmem (List.mem_of_getElem? (i := 389) rfl) rfl
set_option maxRecDepth 100000 in
theorem xw_337 : Cond.constant "ActorTrees" 130 (-2000000000) ∈ xtbl := xmem (List.mem_of_getElem? (i := 341) rfl) rfl
set_option maxRecDepth 100000 in
theorem xw_338 : Cond.fieldLink "ActorTrees" 16 "ActorTrees" "thought" "LActorTrees$World;" ∈ xtbl := xmem (List.mem_of_getElem? (i := 252) rfl) rfl
set_option maxRecDepth 100000 in
theorem xw_339 : Cond.fieldLink "ActorTrees" 204 "ActorTrees$World" "restarted" "I" ∈ xtbl := xmem (List.mem_of_getElem? (i := 177) rfl) rfl
set_option maxRecDepth 100000 in
theorem xw_340 : Cond.methodLink "ActorTrees" 200 yX6_fail ∈ xtbl := xmem (List.mem_of_getElem? (i := 596) rfl) rfl
set_option maxRecDepth 100000 in
theorem xw_341 : Cond.code yX6_liveBits prog_8_method_7_code 3 (Option.some FieldType.int) ∈ xtbl := xmem (List.mem_of_getElem? (i := 580) rfl) rfl
set_option maxRecDepth 100000 in
theorem xw_342 : Cond.methodLink "ActorTrees" 176 yX6_liveBits ∈ xtbl := xmem (List.mem_of_getElem? (i := 577) rfl) rfl
set_option maxRecDepth 100000 in
theorem xw_343 : Cond.instanceMethod yX6_liveBits ∈ xtbl := xmem (List.mem_of_getElem? (i := 578) rfl) rfl
set_option maxRecDepth 100000 in
theorem xw_344 : Cond.selects "ActorTrees$World" yX6_liveBits yX6_liveBits ∈ xtbl := xmem (List.mem_of_getElem? (i := 579) rfl) rfl
set_option maxRecDepth 100000 in
theorem xw_345 : Cond.fieldLink "ActorTrees" 169 "ActorTrees$World" "causes" "LActorTrees$Pairs;" ∈ xtbl := xmem (List.mem_of_getElem? (i := 161) rfl) rfl
set_option maxRecDepth 100000 in
theorem xw_346 : Cond.fieldLink "ActorTrees" 64 "ActorTrees$Pairs" "size" "I" ∈ xtbl := xmem (List.mem_of_getElem? (i := 60) rfl) rfl
set_option maxRecDepth 100000 in
theorem xw_347 : Cond.methodLink "ActorTrees" 134 yX3_firstAt ∈ xtbl := xmem (List.mem_of_getElem? (i := 354) rfl) rfl
set_option maxRecDepth 100000 in
theorem xw_348 : Cond.methodLink "ActorTrees" 131 yX3_secondAt ∈ xtbl := xmem (List.mem_of_getElem? (i := 346) rfl) rfl
set_option maxRecDepth 100000 in
theorem xw_349 : Cond.code yJ6_bitCount_0f7a4 prog_11_method_49_code 1 (Option.some FieldType.int) ∈ xtbl := xmem (List.mem_of_getElem? (i := 701) rfl) rfl
set_option maxRecDepth 100000 in
theorem xw_350 : Cond.initialized "java/lang/Integer" ∈ xtbl := xmem (List.mem_of_getElem? (i := 12) rfl) rfl
set_option maxRecDepth 100000 in
theorem xw_351 : Cond.methodLink "ActorTrees" 258 yJ6_bitCount_0f7a4 ∈ xtbl := xmem (List.mem_of_getElem? (i := 699) rfl) rfl
set_option maxRecDepth 100000 in
theorem xw_352 : Cond.static yJ6_bitCount_0f7a4 ∈ xtbl := xmem (List.mem_of_getElem? (i := 700) rfl) rfl
set_option maxRecDepth 100000 in
theorem xw_353 : Cond.code yX6_mailed prog_8_method_8_code 3 (Option.some FieldType.int) ∈ xtbl := xmem (List.mem_of_getElem? (i := 712) rfl) rfl
set_option maxRecDepth 100000 in
theorem xw_354 : Cond.methodLink "ActorTrees" 263 yX6_mailed ∈ xtbl := xmem (List.mem_of_getElem? (i := 709) rfl) rfl
set_option maxRecDepth 100000 in
theorem xw_355 : Cond.instanceMethod yX6_mailed ∈ xtbl := xmem (List.mem_of_getElem? (i := 710) rfl) rfl
set_option maxRecDepth 100000 in
theorem xw_356 : Cond.selects "ActorTrees$World" yX6_mailed yX6_mailed ∈ xtbl := xmem (List.mem_of_getElem? (i := 711) rfl) rfl
set_option maxRecDepth 100000 in
theorem xw_357 : Cond.fieldLink "ActorTrees" 106 "ActorTrees$World" "timers" "LActorTrees$Timers;" ∈ xtbl := xmem (List.mem_of_getElem? (i := 157) rfl) rfl
set_option maxRecDepth 100000 in
theorem xw_358 : Cond.fieldLink "ActorTrees" 141 "ActorTrees$Timers" "size" "I" ∈ xtbl := xmem (List.mem_of_getElem? (i := 39) rfl) rfl
set_option maxRecDepth 100000 in
theorem xw_359 : Cond.fieldLink "ActorTrees" 180 "ActorTrees$World" "deadLetters" "I" ∈ xtbl := xmem (List.mem_of_getElem? (i := 170) rfl) rfl
set_option maxRecDepth 100000 in
theorem xw_360 : Cond.fieldLink "ActorTrees" 183 "ActorTrees$World" "clock" "I" ∈ xtbl := xmem (List.mem_of_getElem? (i := 168) rfl) rfl
set_option maxRecDepth 100000 in
theorem xw_361 : Cond.fieldLink "ActorTrees" 118 "ActorTrees$World" "time" "I" ∈ xtbl := xmem (List.mem_of_getElem? (i := 166) rfl) rfl
set_option maxRecDepth 100000 in
theorem xw_362 : Cond.fieldLink "ActorTrees" 166 "ActorTrees$World" "dealt" "LActorTrees$Pairs;" ∈ xtbl := xmem (List.mem_of_getElem? (i := 159) rfl) rfl
set_option maxRecDepth 100000 in
theorem xw_363 : Cond.fieldLink "ActorTrees" 28 "ActorTrees" "tape" "LActorTrees$Tape;" ∈ xtbl := xmem (List.mem_of_getElem? (i := 255) rfl) rfl
set_option maxRecDepth 100000 in
theorem xw_364 : Cond.fieldLink "ActorTrees" 207 "ActorTrees$Tape" "bytes" "LActorTrees$Numbers;" ∈ xtbl := xmem (List.mem_of_getElem? (i := 215) rfl) rfl
set_option maxRecDepth 100000 in
theorem xw_365 : Cond.fieldLink "ActorTrees" 93 "ActorTrees$Numbers" "size" "I" ∈ xtbl := xmem (List.mem_of_getElem? (i := 85) rfl) rfl
set_option maxRecDepth 100000 in
theorem xw_366 : Cond.fieldLink "ActorTrees" 54 "ActorTrees$World" "actors" "[LActorTrees$Actor;" ∈ xtbl := xmem (List.mem_of_getElem? (i := 155) rfl) rfl
set_option maxRecDepth 100000 in
theorem xw_367 : Cond.fieldLink "ActorTrees" 127 "ActorTrees$Actor" "count" "I" ∈ xtbl := xmem (List.mem_of_getElem? (i := 109) rfl) rfl
set_option maxRecDepth 100000 in
theorem xw_368 : Cond.methodLink "ActorTrees" 266 yX4_readLine ∈ xtbl := xmem (List.mem_of_getElem? (i := 645) rfl) rfl
set_option maxRecDepth 100000 in
theorem xw_369 : Cond.fieldLink "ActorTrees" 216 "ActorTrees$Tape" "place" "I" ∈ xtbl := xmem (List.mem_of_getElem? (i := 221) rfl) rfl
set_option maxRecDepth 100000 in
theorem xw_370 : Cond.fieldLink "ActorTrees" 269 "ActorTrees$Tape" "numbers" "LActorTrees$Numbers;" ∈ xtbl := xmem (List.mem_of_getElem? (i := 217) rfl) rfl
set_option maxRecDepth 100000 in
theorem xw_371 : Cond.methodLink "ActorTrees" 96 yX2_at ∈ xtbl := xmem (List.mem_of_getElem? (i := 321) rfl) rfl
set_option maxRecDepth 100000 in
theorem xw_372 : Cond.fieldLink "ActorTrees" 272 "ActorTrees$Tape" "kind" "I" ∈ xtbl := xmem (List.mem_of_getElem? (i := 219) rfl) rfl
set_option maxRecDepth 100000 in
theorem xw_373 : Cond.methodLink "ActorTrees" 50 yX6_send ∈ xtbl := xmem (List.mem_of_getElem? (i := 309) rfl) rfl
set_option maxRecDepth 100000 in
theorem xw_374 : Cond.fieldLink "ActorTrees" 228 "ActorTrees$World" "seed" "I" ∈ xtbl := xmem (List.mem_of_getElem? (i := 172) rfl) rfl
set_option maxRecDepth 100000 in
theorem xw_375 : Cond.constant "ActorTrees" 231 (1103515245) ∈ xtbl := xmem (List.mem_of_getElem? (i := 650) rfl) rfl
set_option maxRecDepth 100000 in
theorem xw_376 : Cond.code yX7_isSteps prog_1_method_35_code 1 (Option.some FieldType.boolean) ∈ xtbl := xmem (List.mem_of_getElem? (i := 423) rfl) rfl
set_option maxRecDepth 100000 in
theorem xw_377 : Cond.initialized "ActorTrees" ∈ xtbl := xmem (List.mem_of_getElem? (i := 1) rfl) rfl
set_option maxRecDepth 100000 in
theorem xw_378 : Cond.methodLink "ActorTrees" 157 yX7_isSteps ∈ xtbl := xmem (List.mem_of_getElem? (i := 421) rfl) rfl
set_option maxRecDepth 100000 in
theorem xw_379 : Cond.static yX7_isSteps ∈ xtbl := xmem (List.mem_of_getElem? (i := 422) rfl) rfl
set_option maxRecDepth 100000 in
theorem xw_380 : Cond.code yX6_makeSteps prog_8_method_11_code 3 (Option.some FieldType.int) ∈ xtbl := xmem (List.mem_of_getElem? (i := 427) rfl) rfl
set_option maxRecDepth 100000 in
theorem xw_381 : Cond.methodLink "ActorTrees" 160 yX6_makeSteps ∈ xtbl := xmem (List.mem_of_getElem? (i := 424) rfl) rfl
set_option maxRecDepth 100000 in
theorem xw_382 : Cond.instanceMethod yX6_makeSteps ∈ xtbl := xmem (List.mem_of_getElem? (i := 425) rfl) rfl
set_option maxRecDepth 100000 in
theorem xw_383 : Cond.selects "ActorTrees$World" yX6_makeSteps yX6_makeSteps ∈ xtbl := xmem (List.mem_of_getElem? (i := 426) rfl) rfl
set_option maxRecDepth 100000 in
theorem xw_384 : Cond.fieldLink "ActorTrees" 163 "ActorTrees$World" "ended" "I" ∈ xtbl := xmem (List.mem_of_getElem? (i := 174) rfl) rfl
set_option maxRecDepth 100000 in
theorem xw_385 : Cond.methodLink "ActorTrees" 210 yX2_add ∈ xtbl := xmem (List.mem_of_getElem? (i := 609) rfl) rfl
set_option maxRecDepth 100000 in
theorem xw_386 : Cond.fieldLink "ActorTrees" 186 "ActorTrees$World" "hasFailed" "Z" ∈ xtbl := xmem (List.mem_of_getElem? (i := 175) rfl) rfl
set_option maxRecDepth 100000 in
theorem xw_387 : Cond.methodLink "ActorTrees" 189 yX6_step ∈ xtbl := xmem (List.mem_of_getElem? (i := 585) rfl) rfl
set_option maxRecDepth 100000 in
theorem xw_388 : Cond.code yX7_isHandle prog_1_method_36_code 1 (Option.some FieldType.boolean) ∈ xtbl := xmem (List.mem_of_getElem? (i := 661) rfl) rfl
set_option maxRecDepth 100000 in
theorem xw_389 : Cond.methodLink "ActorTrees" 232 yX7_isHandle ∈ xtbl := xmem (List.mem_of_getElem? (i := 659) rfl) rfl
set_option maxRecDepth 100000 in
theorem xw_390 : Cond.static yX7_isHandle ∈ xtbl := xmem (List.mem_of_getElem? (i := 660) rfl) rfl
set_option maxRecDepth 100000 in
theorem xw_391 : Cond.methodLink "ActorTrees" 1 objectInit ∈ xtbl := xmem (List.mem_of_getElem? (i := 18) rfl) rfl
set_option maxRecDepth 100000 in
theorem xw_392 : Cond.classLink "ActorTrees" 7 "ActorTrees$World" ∈ xtbl := xmem (List.mem_of_getElem? (i := 21) rfl) rfl
set_option maxRecDepth 100000 in
theorem xw_393 : Cond.instantiable "ActorTrees$World" 13 ∈ xtbl := xmem (List.mem_of_getElem? (i := 22) rfl) rfl
set_option maxRecDepth 100000 in
theorem xw_394 : Cond.code yX6_init prog_8_method_1_code 2 (Option.none) ∈ xtbl := xmem (List.mem_of_getElem? (i := 25) rfl) rfl
set_option maxRecDepth 100000 in
theorem xw_395 : Cond.methodLink "ActorTrees" 9 yX6_init ∈ xtbl := xmem (List.mem_of_getElem? (i := 23) rfl) rfl
set_option maxRecDepth 100000 in
theorem xw_396 : Cond.instanceMethod yX6_init ∈ xtbl := xmem (List.mem_of_getElem? (i := 24) rfl) rfl
set_option maxRecDepth 100000 in
theorem xw_397 : Cond.fieldLink "ActorTrees" 22 "ActorTrees" "ahead" "LActorTrees$World;" ∈ xtbl := xmem (List.mem_of_getElem? (i := 254) rfl) rfl
set_option maxRecDepth 100000 in
theorem xw_398 : Cond.classLink "ActorTrees" 25 "ActorTrees$Tape" ∈ xtbl := xmem (List.mem_of_getElem? (i := 206) rfl) rfl
set_option maxRecDepth 100000 in
theorem xw_399 : Cond.instantiable "ActorTrees$Tape" 4 ∈ xtbl := xmem (List.mem_of_getElem? (i := 207) rfl) rfl
set_option maxRecDepth 100000 in
theorem xw_400 : Cond.code yX4_init prog_6_method_1_code 1 (Option.none) ∈ xtbl := xmem (List.mem_of_getElem? (i := 210) rfl) rfl
set_option maxRecDepth 100000 in
theorem xw_401 : Cond.instanceMethod yX4_init ∈ xtbl := xmem (List.mem_of_getElem? (i := 209) rfl) rfl
set_option maxRecDepth 100000 in
theorem xw_402 : Cond.classLink "ActorTrees" 32 "ActorTrees$Handle" ∈ xtbl := xmem (List.mem_of_getElem? (i := 231) rfl) rfl
set_option maxRecDepth 100000 in
theorem xw_403 : Cond.instantiable "ActorTrees$Handle" 3 ∈ xtbl := xmem (List.mem_of_getElem? (i := 233) rfl) rfl
set_option maxRecDepth 100000 in
theorem xw_404 : Cond.initialized "ActorTrees$Handle" ∈ xtbl := xmem (List.mem_of_getElem? (i := 8) rfl) rfl
set_option maxRecDepth 100000 in
theorem xw_405 : Cond.code yX1_init prog_3_method_1_code 1 (Option.none) ∈ xtbl := xmem (List.mem_of_getElem? (i := 236) rfl) rfl
set_option maxRecDepth 100000 in
theorem xw_406 : Cond.instanceMethod yX1_init ∈ xtbl := xmem (List.mem_of_getElem? (i := 235) rfl) rfl
set_option maxRecDepth 100000 in
theorem xw_407 : Cond.fieldLink "ActorTrees" 100 "ActorTrees$Actor" "stash" "LActorTrees$Pairs;" ∈ xtbl := xmem (List.mem_of_getElem? (i := 121) rfl) rfl
set_option maxRecDepth 100000 in
theorem xw_408 : Cond.fieldLink "ActorTrees" 58 "ActorTrees$Actor" "mailbox" "LActorTrees$Pairs;" ∈ xtbl := xmem (List.mem_of_getElem? (i := 118) rfl) rfl
set_option maxRecDepth 100000 in
theorem xw_409 : Cond.fieldLink "ActorTrees" 70 "ActorTrees$Actor" "parent" "I" ∈ xtbl := xmem (List.mem_of_getElem? (i := 95) rfl) rfl
set_option maxRecDepth 100000 in
theorem xw_410 : Cond.fieldLink "ActorTrees" 73 "ActorTrees$Actor" "own" "I" ∈ xtbl := xmem (List.mem_of_getElem? (i := 98) rfl) rfl
set_option maxRecDepth 100000 in
theorem xw_411 : Cond.fieldLink "ActorTrees" 76 "ActorTrees$Actor" "strategy" "I" ∈ xtbl := xmem (List.mem_of_getElem? (i := 100) rfl) rfl
set_option maxRecDepth 100000 in
theorem xw_412 : Cond.fieldLink "ActorTrees" 79 "ActorTrees$Actor" "budget" "I" ∈ xtbl := xmem (List.mem_of_getElem? (i := 103) rfl) rfl
set_option maxRecDepth 100000 in
theorem xw_413 : Cond.fieldLink "ActorTrees" 82 "ActorTrees$Actor" "window" "I" ∈ xtbl := xmem (List.mem_of_getElem? (i := 106) rfl) rfl
set_option maxRecDepth 100000 in
theorem xw_414 : Cond.fieldLink "ActorTrees" 85 "ActorTrees$Actor" "live" "Z" ∈ xtbl := xmem (List.mem_of_getElem? (i := 113) rfl) rfl
set_option maxRecDepth 100000 in
theorem xw_415 : Cond.fieldLink "ActorTrees" 89 "ActorTrees$Actor" "stack" "LActorTrees$Numbers;" ∈ xtbl := xmem (List.mem_of_getElem? (i := 115) rfl) rfl
set_option maxRecDepth 100000 in
theorem xw_416 : Cond.fieldLink "ActorTrees" 103 "ActorTrees$Actor" "watchers" "LActorTrees$Numbers;" ∈ xtbl := xmem (List.mem_of_getElem? (i := 124) rfl) rfl
set_option maxRecDepth 100000 in
theorem xw_417 : Cond.code yX5_countOf prog_7_method_5_code 4 (Option.some FieldType.int) ∈ xtbl := xmem (List.mem_of_getElem? (i := 328) rfl) rfl
set_option maxRecDepth 100000 in
theorem xw_418 : Cond.methodLink "ActorTrees" 110 yX5_countOf ∈ xtbl := xmem (List.mem_of_getElem? (i := 325) rfl) rfl
set_option maxRecDepth 100000 in
theorem xw_419 : Cond.instanceMethod yX5_countOf ∈ xtbl := xmem (List.mem_of_getElem? (i := 326) rfl) rfl
set_option maxRecDepth 100000 in
theorem xw_420 : Cond.selects "ActorTrees$Timers" yX5_countOf yX5_countOf ∈ xtbl := xmem (List.mem_of_getElem? (i := 327) rfl) rfl
set_option maxRecDepth 100000 in
theorem xw_421 : Cond.fieldLink "ActorTrees" 115 "ActorTrees$Actor" "notes" "LActorTrees$Numbers;" ∈ xtbl := xmem (List.mem_of_getElem? (i := 127) rfl) rfl
set_option maxRecDepth 100000 in
theorem xw_422 : Cond.code yX2_countFrom prog_4_method_8_code 4 (Option.some FieldType.int) ∈ xtbl := xmem (List.mem_of_getElem? (i := 332) rfl) rfl
set_option maxRecDepth 100000 in
theorem xw_423 : Cond.methodLink "ActorTrees" 121 yX2_countFrom ∈ xtbl := xmem (List.mem_of_getElem? (i := 329) rfl) rfl
set_option maxRecDepth 100000 in
theorem xw_424 : Cond.instanceMethod yX2_countFrom ∈ xtbl := xmem (List.mem_of_getElem? (i := 330) rfl) rfl
set_option maxRecDepth 100000 in
theorem xw_425 : Cond.selects "ActorTrees$Numbers" yX2_countFrom yX2_countFrom ∈ xtbl := xmem (List.mem_of_getElem? (i := 331) rfl) rfl
set_option maxRecDepth 100000 in
theorem xw_426 : Cond.code yX6_childBits prog_8_method_6_code 4 (Option.some FieldType.int) ∈ xtbl := xmem (List.mem_of_getElem? (i := 336) rfl) rfl
set_option maxRecDepth 100000 in
theorem xw_427 : Cond.methodLink "ActorTrees" 124 yX6_childBits ∈ xtbl := xmem (List.mem_of_getElem? (i := 333) rfl) rfl
set_option maxRecDepth 100000 in
theorem xw_428 : Cond.instanceMethod yX6_childBits ∈ xtbl := xmem (List.mem_of_getElem? (i := 334) rfl) rfl
set_option maxRecDepth 100000 in
theorem xw_429 : Cond.selects "ActorTrees$World" yX6_childBits yX6_childBits ∈ xtbl := xmem (List.mem_of_getElem? (i := 335) rfl) rfl
set_option maxRecDepth 100000 in
theorem xw_430 : Cond.fieldLink "ActorTrees" 238 "ActorTrees$Handle" "items" "LActorTrees$Numbers;" ∈ xtbl := xmem (List.mem_of_getElem? (i := 241) rfl) rfl
set_option maxRecDepth 100000 in
theorem xw_431 : Cond.code yX7_firstOtherwise prog_1_method_39_code 7 (Option.some FieldType.int) ∈ xtbl := xmem (List.mem_of_getElem? (i := 665) rfl) rfl
set_option maxRecDepth 100000 in
theorem xw_432 : Cond.methodLink "ActorTrees" 241 yX7_firstOtherwise ∈ xtbl := xmem (List.mem_of_getElem? (i := 662) rfl) rfl
set_option maxRecDepth 100000 in
theorem xw_433 : Cond.instanceMethod yX7_firstOtherwise ∈ xtbl := xmem (List.mem_of_getElem? (i := 664) rfl) rfl
theorem xw_434 : Cond.selects "ActorTrees" yX7_firstOtherwise yX7_firstOtherwise ∈ xtbl := List.mem_append_left _ (List.mem_of_getElem? (i := 17) rfl)
set_option maxRecDepth 100000 in
theorem xw_435 : Cond.code yX2_change prog_4_method_3_code 3 (Option.none) ∈ xtbl := xmem (List.mem_of_getElem? (i := 693) rfl) rfl
set_option maxRecDepth 100000 in
theorem xw_436 : Cond.methodLink "ActorTrees" 254 yX2_change ∈ xtbl := xmem (List.mem_of_getElem? (i := 690) rfl) rfl
set_option maxRecDepth 100000 in
theorem xw_437 : Cond.instanceMethod yX2_change ∈ xtbl := xmem (List.mem_of_getElem? (i := 691) rfl) rfl
set_option maxRecDepth 100000 in
theorem xw_438 : Cond.selects "ActorTrees$Numbers" yX2_change yX2_change ∈ xtbl := xmem (List.mem_of_getElem? (i := 692) rfl) rfl
set_option maxRecDepth 100000 in
theorem xw_439 : Cond.methodLink "ActorTrees" 193 yX6_hasStep ∈ xtbl := xmem (List.mem_of_getElem? (i := 590) rfl) rfl
set_option maxRecDepth 100000 in
theorem xw_440 : Cond.code yX2_fillWithZeros prog_4_method_9_code 3 (Option.none) ∈ xtbl := xmem (List.mem_of_getElem? (i := 685) rfl) rfl
set_option maxRecDepth 100000 in
theorem xw_441 : Cond.methodLink "ActorTrees" 250 yX2_fillWithZeros ∈ xtbl := xmem (List.mem_of_getElem? (i := 682) rfl) rfl
set_option maxRecDepth 100000 in
theorem xw_442 : Cond.instanceMethod yX2_fillWithZeros ∈ xtbl := xmem (List.mem_of_getElem? (i := 683) rfl) rfl
set_option maxRecDepth 100000 in
theorem xw_443 : Cond.selects "ActorTrees$Numbers" yX2_fillWithZeros yX2_fillWithZeros ∈ xtbl := xmem (List.mem_of_getElem? (i := 684) rfl) rfl
set_option maxRecDepth 100000 in
theorem xw_444 : Cond.code yX4_faultOfForm prog_6_method_3_code 2 (Option.some FieldType.int) ∈ xtbl := xmem (List.mem_of_getElem? (i := 617) rfl) rfl
set_option maxRecDepth 100000 in
theorem xw_445 : Cond.methodLink "ActorTrees" 213 yX4_faultOfForm ∈ xtbl := xmem (List.mem_of_getElem? (i := 614) rfl) rfl
set_option maxRecDepth 100000 in
theorem xw_446 : Cond.instanceMethod yX4_faultOfForm ∈ xtbl := xmem (List.mem_of_getElem? (i := 615) rfl) rfl
set_option maxRecDepth 100000 in
theorem xw_447 : Cond.selects "ActorTrees$Tape" yX4_faultOfForm yX4_faultOfForm ∈ xtbl := xmem (List.mem_of_getElem? (i := 616) rfl) rfl
set_option maxRecDepth 100000 in
theorem xw_448 : Cond.methodLink "ActorTrees" 219 yX4_isRead ∈ xtbl := xmem (List.mem_of_getElem? (i := 640) rfl) rfl
set_option maxRecDepth 100000 in
theorem xw_449 : Cond.code yX7_doLineButSteps prog_1_method_38_code 4 (Option.some FieldType.int) ∈ xtbl := xmem (List.mem_of_getElem? (i := 644) rfl) rfl
set_option maxRecDepth 100000 in
theorem xw_450 : Cond.methodLink "ActorTrees" 222 yX7_doLineButSteps ∈ xtbl := xmem (List.mem_of_getElem? (i := 641) rfl) rfl
set_option maxRecDepth 100000 in
theorem xw_451 : Cond.instanceMethod yX7_doLineButSteps ∈ xtbl := xmem (List.mem_of_getElem? (i := 643) rfl) rfl
theorem xw_452 : Cond.selects "ActorTrees" yX7_doLineButSteps yX7_doLineButSteps ∈ xtbl := List.mem_append_left _ (List.mem_of_getElem? (i := 16) rfl)
set_option maxRecDepth 100000 in
theorem xw_453 : Cond.code yX7_itemOf prog_1_method_37_code 2 (Option.some FieldType.int) ∈ xtbl := xmem (List.mem_of_getElem? (i := 364) rfl) rfl
set_option maxRecDepth 100000 in
theorem xw_454 : Cond.methodLink "ActorTrees" 137 yX7_itemOf ∈ xtbl := xmem (List.mem_of_getElem? (i := 362) rfl) rfl
set_option maxRecDepth 100000 in
theorem xw_455 : Cond.static yX7_itemOf ∈ xtbl := xmem (List.mem_of_getElem? (i := 363) rfl) rfl
set_option maxRecDepth 100000 in
theorem xw_456 : Cond.methodLink "ActorTrees" 154 yX6_halt ∈ xtbl := xmem (List.mem_of_getElem? (i := 390) rfl) rfl
set_option maxRecDepth 100000 in
theorem xw_457 : Cond.code yX7_isNumber prog_1_method_34_code 1 (Option.some FieldType.boolean) ∈ xtbl := xmem (List.mem_of_getElem? (i := 308) rfl) rfl
set_option maxRecDepth 100000 in
theorem xw_458 : Cond.methodLink "ActorTrees" 47 yX7_isNumber ∈ xtbl := xmem (List.mem_of_getElem? (i := 306) rfl) rfl
set_option maxRecDepth 100000 in
theorem xw_459 : Cond.static yX7_isNumber ∈ xtbl := xmem (List.mem_of_getElem? (i := 307) rfl) rfl
set_option maxRecDepth 100000 in
theorem xw_460 : Cond.constant "ActorTrees" 257 (-2000000012) ∈ xtbl := xmem (List.mem_of_getElem? (i := 698) rfl) rfl
set_option maxRecDepth 100000 in
theorem xw_461 : Cond.methodLink "ActorTrees" 142 yX5_ownerAt ∈ xtbl := xmem (List.mem_of_getElem? (i := 373) rfl) rfl
set_option maxRecDepth 100000 in
theorem xw_462 : Cond.methodLink "ActorTrees" 145 yX5_dueAt ∈ xtbl := xmem (List.mem_of_getElem? (i := 377) rfl) rfl
set_option maxRecDepth 100000 in
theorem xw_463 : Cond.methodLink "ActorTrees" 148 yX5_numberAt ∈ xtbl := xmem (List.mem_of_getElem? (i := 381) rfl) rfl
set_option maxRecDepth 100000 in
theorem xw_464 : Cond.methodLink "ActorTrees" 196 yX6_deal ∈ xtbl := xmem (List.mem_of_getElem? (i := 595) rfl) rfl
set_option maxRecDepth 100000 in
theorem xw_465 : Cond.code yX8_canBe prog_10_method_35_code 4 (Option.some FieldType.int) ∈ xtbl := xmem (List.mem_of_getElem? (i := 795) rfl) rfl
set_option maxRecDepth 100000 in
theorem xw_466 : Cond.initialized "ActorTreesModel" ∈ xtbl := xmem (List.mem_of_getElem? (i := 9) rfl) rfl
set_option maxRecDepth 100000 in
theorem xw_467 : Cond.methodLink "ActorTreesModel" 173 yX8_canBe ∈ xtbl := xmem (List.mem_of_getElem? (i := 792) rfl) rfl
set_option maxRecDepth 100000 in
theorem xw_468 : Cond.instanceMethod yX8_canBe ∈ xtbl := xmem (List.mem_of_getElem? (i := 794) rfl) rfl
theorem xw_469 : Cond.selects "ActorTreesModel" yX8_canBe yX8_canBe ∈ xtbl := List.mem_append_left _ (List.mem_of_getElem? (i := 18) rfl)
set_option maxRecDepth 100000 in
theorem xw_470 : Cond.fieldLink "ActorTreesModel" 9 "ActorTreesModel" "g" "[I" ∈ xtbl := xmem (List.mem_of_getElem? (i := 721) rfl) rfl
set_option maxRecDepth 100000 in
theorem xw_471 : Cond.code yX8_sets prog_10_method_5_code 4 (Option.none) ∈ xtbl := xmem (List.mem_of_getElem? (i := 817) rfl) rfl
set_option maxRecDepth 100000 in
theorem xw_472 : Cond.methodLink "ActorTreesModel" 63 yX8_sets ∈ xtbl := xmem (List.mem_of_getElem? (i := 814) rfl) rfl
set_option maxRecDepth 100000 in
theorem xw_473 : Cond.instanceMethod yX8_sets ∈ xtbl := xmem (List.mem_of_getElem? (i := 816) rfl) rfl
theorem xw_474 : Cond.selects "ActorTreesModel" yX8_sets yX8_sets ∈ xtbl := List.mem_append_left _ (List.mem_of_getElem? (i := 22) rfl)
set_option maxRecDepth 100000 in
theorem xw_475 : Cond.fieldLink "ActorTreesModel" 248 "ActorTreesModel" "isKept" "Z" ∈ xtbl := xmem (List.mem_of_getElem? (i := 725) rfl) rfl
set_option maxRecDepth 100000 in
theorem xw_476 : Cond.fieldLink "ActorTreesModel" 19 "ActorTreesModel" "kept" "[I" ∈ xtbl := xmem (List.mem_of_getElem? (i := 724) rfl) rfl
set_option maxRecDepth 100000 in
theorem xw_477 : Cond.code yX8_take prog_10_method_3_code 3 (Option.none) ∈ xtbl := xmem (List.mem_of_getElem? (i := 1002) rfl) rfl
set_option maxRecDepth 100000 in
theorem xw_478 : Cond.methodLink "ActorTreesModel" 200 yX8_take ∈ xtbl := xmem (List.mem_of_getElem? (i := 1000) rfl) rfl
set_option maxRecDepth 100000 in
theorem xw_479 : Cond.static yX8_take ∈ xtbl := xmem (List.mem_of_getElem? (i := 1001) rfl) rfl
set_option maxRecDepth 100000 in
theorem xw_480 : Cond.fieldLink "ActorTreesModel" 28 "ActorTreesModel" "held" "[I" ∈ xtbl := xmem (List.mem_of_getElem? (i := 733) rfl) rfl
set_option maxRecDepth 100000 in
theorem xw_481 : Cond.fieldLink "ActorTreesModel" 31 "ActorTreesModel" "heldActor" "[I" ∈ xtbl := xmem (List.mem_of_getElem? (i := 734) rfl) rfl
set_option maxRecDepth 100000 in
theorem xw_482 : Cond.code yX8_isActor prog_10_method_6_code 2 (Option.some FieldType.boolean) ∈ xtbl := xmem (List.mem_of_getElem? (i := 799) rfl) rfl
set_option maxRecDepth 100000 in
theorem xw_483 : Cond.methodLink "ActorTreesModel" 167 yX8_isActor ∈ xtbl := xmem (List.mem_of_getElem? (i := 796) rfl) rfl
set_option maxRecDepth 100000 in
theorem xw_484 : Cond.instanceMethod yX8_isActor ∈ xtbl := xmem (List.mem_of_getElem? (i := 798) rfl) rfl
theorem xw_485 : Cond.selects "ActorTreesModel" yX8_isActor yX8_isActor ∈ xtbl := List.mem_append_left _ (List.mem_of_getElem? (i := 19) rfl)
set_option maxRecDepth 100000 in
theorem xw_486 : Cond.code yX8_in prog_10_method_2_code 3 (Option.some FieldType.boolean) ∈ xtbl := xmem (List.mem_of_getElem? (i := 802) rfl) rfl
set_option maxRecDepth 100000 in
theorem xw_487 : Cond.methodLink "ActorTreesModel" 51 yX8_in ∈ xtbl := xmem (List.mem_of_getElem? (i := 800) rfl) rfl
set_option maxRecDepth 100000 in
theorem xw_488 : Cond.static yX8_in ∈ xtbl := xmem (List.mem_of_getElem? (i := 801) rfl) rfl
set_option maxRecDepth 100000 in
theorem xw_489 : Cond.code yX8_isLive prog_10_method_7_code 2 (Option.some FieldType.boolean) ∈ xtbl := xmem (List.mem_of_getElem? (i := 809) rfl) rfl
set_option maxRecDepth 100000 in
theorem xw_490 : Cond.methodLink "ActorTreesModel" 59 yX8_isLive ∈ xtbl := xmem (List.mem_of_getElem? (i := 806) rfl) rfl
set_option maxRecDepth 100000 in
theorem xw_491 : Cond.instanceMethod yX8_isLive ∈ xtbl := xmem (List.mem_of_getElem? (i := 808) rfl) rfl
theorem xw_492 : Cond.selects "ActorTreesModel" yX8_isLive yX8_isLive ∈ xtbl := List.mem_append_left _ (List.mem_of_getElem? (i := 20) rfl)
set_option maxRecDepth 100000 in
theorem xw_493 : Cond.constant "ActorTreesModel" 186 (-2000000000) ∈ xtbl := xmem (List.mem_of_getElem? (i := 853) rfl) rfl
set_option maxRecDepth 100000 in
theorem xw_494 : Cond.fieldLink "ActorTreesModel" 13 "ActorTreesModel" "saved" "[I" ∈ xtbl := xmem (List.mem_of_getElem? (i := 722) rfl) rfl
set_option maxRecDepth 100000 in
theorem xw_495 : Cond.code yX8_liveOnes prog_10_method_49_code 3 (Option.some FieldType.int) ∈ xtbl := xmem (List.mem_of_getElem? (i := 885) rfl) rfl
set_option maxRecDepth 100000 in
theorem xw_496 : Cond.methodLink "ActorTreesModel" 191 yX8_liveOnes ∈ xtbl := xmem (List.mem_of_getElem? (i := 882) rfl) rfl
set_option maxRecDepth 100000 in
theorem xw_497 : Cond.instanceMethod yX8_liveOnes ∈ xtbl := xmem (List.mem_of_getElem? (i := 884) rfl) rfl
theorem xw_498 : Cond.selects "ActorTreesModel" yX8_liveOnes yX8_liveOnes ∈ xtbl := List.mem_append_left _ (List.mem_of_getElem? (i := 29) rfl)
set_option maxRecDepth 100000 in
theorem xw_499 : Cond.fieldLink "ActorTreesModel" 90 "ActorTreesModel" "restarted" "I" ∈ xtbl := xmem (List.mem_of_getElem? (i := 727) rfl) rfl
set_option maxRecDepth 100000 in
theorem xw_500 : Cond.code yX8_fails prog_10_method_18_code 9 (Option.none) ∈ xtbl := xmem (List.mem_of_getElem? (i := 947) rfl) rfl
set_option maxRecDepth 100000 in
theorem xw_501 : Cond.methodLink "ActorTreesModel" 111 yX8_fails ∈ xtbl := xmem (List.mem_of_getElem? (i := 944) rfl) rfl
set_option maxRecDepth 100000 in
theorem xw_502 : Cond.instanceMethod yX8_fails ∈ xtbl := xmem (List.mem_of_getElem? (i := 946) rfl) rfl
theorem xw_503 : Cond.selects "ActorTreesModel" yX8_fails yX8_fails ∈ xtbl := List.mem_append_left _ (List.mem_of_getElem? (i := 42) rfl)
set_option maxRecDepth 100000 in
theorem xw_504 : Cond.code yX8_isRule prog_10_method_34_code 1 (Option.some FieldType.boolean) ∈ xtbl := xmem (List.mem_of_getElem? (i := 805) rfl) rfl
set_option maxRecDepth 100000 in
theorem xw_505 : Cond.methodLink "ActorTreesModel" 170 yX8_isRule ∈ xtbl := xmem (List.mem_of_getElem? (i := 803) rfl) rfl
set_option maxRecDepth 100000 in
theorem xw_506 : Cond.static yX8_isRule ∈ xtbl := xmem (List.mem_of_getElem? (i := 804) rfl) rfl
set_option maxRecDepth 100000 in
theorem xw_507 : Cond.code yX8_at prog_10_method_4_code 3 (Option.some FieldType.int) ∈ xtbl := xmem (List.mem_of_getElem? (i := 813) rfl) rfl
set_option maxRecDepth 100000 in
theorem xw_508 : Cond.methodLink "ActorTreesModel" 55 yX8_at ∈ xtbl := xmem (List.mem_of_getElem? (i := 810) rfl) rfl
set_option maxRecDepth 100000 in
theorem xw_509 : Cond.instanceMethod yX8_at ∈ xtbl := xmem (List.mem_of_getElem? (i := 812) rfl) rfl
theorem xw_510 : Cond.selects "ActorTreesModel" yX8_at yX8_at ∈ xtbl := List.mem_append_left _ (List.mem_of_getElem? (i := 21) rfl)
set_option maxRecDepth 100000 in
theorem xw_511 : Cond.code yX8_bits prog_10_method_50_code 3 (Option.some FieldType.int) ∈ xtbl := xmem (List.mem_of_getElem? (i := 888) rfl) rfl
set_option maxRecDepth 100000 in
theorem xw_512 : Cond.methodLink "ActorTreesModel" 194 yX8_bits ∈ xtbl := xmem (List.mem_of_getElem? (i := 886) rfl) rfl
set_option maxRecDepth 100000 in
theorem xw_513 : Cond.static yX8_bits ∈ xtbl := xmem (List.mem_of_getElem? (i := 887) rfl) rfl
set_option maxRecDepth 100000 in
theorem xw_514 : Cond.fieldLink "ActorTreesModel" 207 "ActorTreesModel" "tapeMany" "I" ∈ xtbl := xmem (List.mem_of_getElem? (i := 732) rfl) rfl
set_option maxRecDepth 100000 in
theorem xw_515 : Cond.code yX8_doing prog_10_method_24_code 2 (Option.some FieldType.int) ∈ xtbl := xmem (List.mem_of_getElem? (i := 836) rfl) rfl
set_option maxRecDepth 100000 in
theorem xw_516 : Cond.methodLink "ActorTreesModel" 115 yX8_doing ∈ xtbl := xmem (List.mem_of_getElem? (i := 833) rfl) rfl
set_option maxRecDepth 100000 in
theorem xw_517 : Cond.instanceMethod yX8_doing ∈ xtbl := xmem (List.mem_of_getElem? (i := 835) rfl) rfl
theorem xw_518 : Cond.selects "ActorTreesModel" yX8_doing yX8_doing ∈ xtbl := List.mem_append_left _ (List.mem_of_getElem? (i := 24) rfl)
set_option maxRecDepth 100000 in
theorem xw_519 : Cond.code yX8_pass prog_10_method_19_code 5 (Option.none) ∈ xtbl := xmem (List.mem_of_getElem? (i := 963) rfl) rfl
set_option maxRecDepth 100000 in
theorem xw_520 : Cond.methodLink "ActorTreesModel" 119 yX8_pass ∈ xtbl := xmem (List.mem_of_getElem? (i := 960) rfl) rfl
set_option maxRecDepth 100000 in
theorem xw_521 : Cond.instanceMethod yX8_pass ∈ xtbl := xmem (List.mem_of_getElem? (i := 962) rfl) rfl
theorem xw_522 : Cond.selects "ActorTreesModel" yX8_pass yX8_pass ∈ xtbl := List.mem_append_left _ (List.mem_of_getElem? (i := 46) rfl)
set_option maxRecDepth 100000 in
theorem xw_523 : Cond.code yX8_sends prog_10_method_9_code 5 (Option.some FieldType.boolean) ∈ xtbl := xmem (List.mem_of_getElem? (i := 828) rfl) rfl
set_option maxRecDepth 100000 in
theorem xw_524 : Cond.methodLink "ActorTreesModel" 84 yX8_sends ∈ xtbl := xmem (List.mem_of_getElem? (i := 825) rfl) rfl
set_option maxRecDepth 100000 in
theorem xw_525 : Cond.instanceMethod yX8_sends ∈ xtbl := xmem (List.mem_of_getElem? (i := 827) rfl) rfl
theorem xw_526 : Cond.selects "ActorTreesModel" yX8_sends yX8_sends ∈ xtbl := List.mem_append_left _ (List.mem_of_getElem? (i := 23) rfl)
set_option maxRecDepth 100000 in
theorem xw_527 : Cond.code yX8_holds prog_10_method_20_code 5 (Option.none) ∈ xtbl := xmem (List.mem_of_getElem? (i := 967) rfl) rfl
set_option maxRecDepth 100000 in
theorem xw_528 : Cond.methodLink "ActorTreesModel" 123 yX8_holds ∈ xtbl := xmem (List.mem_of_getElem? (i := 964) rfl) rfl
set_option maxRecDepth 100000 in
theorem xw_529 : Cond.instanceMethod yX8_holds ∈ xtbl := xmem (List.mem_of_getElem? (i := 966) rfl) rfl
theorem xw_530 : Cond.selects "ActorTreesModel" yX8_holds yX8_holds ∈ xtbl := List.mem_append_left _ (List.mem_of_getElem? (i := 47) rfl)
set_option maxRecDepth 100000 in
theorem xw_531 : Cond.code yX8_switches prog_10_method_21_code 4 (Option.none) ∈ xtbl := xmem (List.mem_of_getElem? (i := 971) rfl) rfl
set_option maxRecDepth 100000 in
theorem xw_532 : Cond.methodLink "ActorTreesModel" 126 yX8_switches ∈ xtbl := xmem (List.mem_of_getElem? (i := 968) rfl) rfl
set_option maxRecDepth 100000 in
theorem xw_533 : Cond.instanceMethod yX8_switches ∈ xtbl := xmem (List.mem_of_getElem? (i := 970) rfl) rfl
theorem xw_534 : Cond.selects "ActorTreesModel" yX8_switches yX8_switches ∈ xtbl := List.mem_append_left _ (List.mem_of_getElem? (i := 48) rfl)
set_option maxRecDepth 100000 in
theorem xw_535 : Cond.code yX8_delays prog_10_method_22_code 4 (Option.none) ∈ xtbl := xmem (List.mem_of_getElem? (i := 975) rfl) rfl
set_option maxRecDepth 100000 in
theorem xw_536 : Cond.methodLink "ActorTreesModel" 129 yX8_delays ∈ xtbl := xmem (List.mem_of_getElem? (i := 972) rfl) rfl
set_option maxRecDepth 100000 in
theorem xw_537 : Cond.instanceMethod yX8_delays ∈ xtbl := xmem (List.mem_of_getElem? (i := 974) rfl) rfl
theorem xw_538 : Cond.selects "ActorTreesModel" yX8_delays yX8_delays ∈ xtbl := List.mem_append_left _ (List.mem_of_getElem? (i := 49) rfl)
set_option maxRecDepth 100000 in
theorem xw_539 : Cond.code yX8_watches prog_10_method_23_code 6 (Option.none) ∈ xtbl := xmem (List.mem_of_getElem? (i := 979) rfl) rfl
set_option maxRecDepth 100000 in
theorem xw_540 : Cond.methodLink "ActorTreesModel" 132 yX8_watches ∈ xtbl := xmem (List.mem_of_getElem? (i := 976) rfl) rfl
set_option maxRecDepth 100000 in
theorem xw_541 : Cond.instanceMethod yX8_watches ∈ xtbl := xmem (List.mem_of_getElem? (i := 978) rfl) rfl
theorem xw_542 : Cond.selects "ActorTreesModel" yX8_watches yX8_watches ∈ xtbl := List.mem_append_left _ (List.mem_of_getElem? (i := 50) rfl)
set_option maxRecDepth 100000 in
theorem xw_543 : Cond.code yX8_stops prog_10_method_14_code 4 (Option.none) ∈ xtbl := xmem (List.mem_of_getElem? (i := 892) rfl) rfl
set_option maxRecDepth 100000 in
theorem xw_544 : Cond.methodLink "ActorTreesModel" 71 yX8_stops ∈ xtbl := xmem (List.mem_of_getElem? (i := 889) rfl) rfl
set_option maxRecDepth 100000 in
theorem xw_545 : Cond.instanceMethod yX8_stops ∈ xtbl := xmem (List.mem_of_getElem? (i := 891) rfl) rfl
theorem xw_546 : Cond.selects "ActorTreesModel" yX8_stops yX8_stops ∈ xtbl := List.mem_append_left _ (List.mem_of_getElem? (i := 30) rfl)
set_option maxRecDepth 100000 in
theorem xw_547 : Cond.fieldLink "ActorTreesModel" 48 "ActorTreesModel" "told" "[I" ∈ xtbl := xmem (List.mem_of_getElem? (i := 742) rfl) rfl
set_option maxRecDepth 100000 in
theorem xw_548 : Cond.code yX8_actor prog_10_method_36_code 7 (Option.some FieldType.int) ∈ xtbl := xmem (List.mem_of_getElem? (i := 791) rfl) rfl
set_option maxRecDepth 100000 in
theorem xw_549 : Cond.methodLink "ActorTreesModel" 229 yX8_actor ∈ xtbl := xmem (List.mem_of_getElem? (i := 1059) rfl) rfl
set_option maxRecDepth 100000 in
theorem xw_550 : Cond.instanceMethod yX8_actor ∈ xtbl := xmem (List.mem_of_getElem? (i := 789) rfl) rfl
set_option maxRecDepth 100000 in
theorem xw_551 : Cond.selects "ActorTreesModel" yX8_actor yX8_actor ∈ xtbl := xmem (List.mem_of_getElem? (i := 790) rfl) rfl
set_option maxRecDepth 100000 in
theorem xw_552 : Cond.code yX8_run prog_10_method_52_code 3 (Option.some FieldType.int) ∈ xtbl := xmem (List.mem_of_getElem? (i := 912) rfl) rfl
set_option maxRecDepth 100000 in
theorem xw_553 : Cond.methodLink "ActorTreesModel" 232 yX8_run ∈ xtbl := xmem (List.mem_of_getElem? (i := 1060) rfl) rfl
set_option maxRecDepth 100000 in
theorem xw_554 : Cond.instanceMethod yX8_run ∈ xtbl := xmem (List.mem_of_getElem? (i := 910) rfl) rfl
set_option maxRecDepth 100000 in
theorem xw_555 : Cond.selects "ActorTreesModel" yX8_run yX8_run ∈ xtbl := xmem (List.mem_of_getElem? (i := 911) rfl) rfl
set_option maxRecDepth 100000 in
theorem xw_556 : Cond.constant "ActorTreesModel" 241 (1103515245) ∈ xtbl := xmem (List.mem_of_getElem? (i := 1065) rfl) rfl
set_option maxRecDepth 100000 in
theorem xw_557 : Cond.code yX8_runs prog_10_method_33_code 3 (Option.some FieldType.int) ∈ xtbl := xmem (List.mem_of_getElem? (i := 916) rfl) rfl
set_option maxRecDepth 100000 in
theorem xw_558 : Cond.methodLink "ActorTreesModel" 197 yX8_runs ∈ xtbl := xmem (List.mem_of_getElem? (i := 913) rfl) rfl
set_option maxRecDepth 100000 in
theorem xw_559 : Cond.instanceMethod yX8_runs ∈ xtbl := xmem (List.mem_of_getElem? (i := 915) rfl) rfl
theorem xw_560 : Cond.selects "ActorTreesModel" yX8_runs yX8_runs ∈ xtbl := List.mem_append_left _ (List.mem_of_getElem? (i := 35) rfl)
set_option maxRecDepth 100000 in
theorem xw_561 : Cond.fieldLink "ActorTreesModel" 158 "ActorTreesModel" "how" "I" ∈ xtbl := xmem (List.mem_of_getElem? (i := 739) rfl) rfl
set_option maxRecDepth 100000 in
theorem xw_562 : Cond.fieldLink "ActorTreesModel" 98 "ActorTreesModel" "hasFailed" "Z" ∈ xtbl := xmem (List.mem_of_getElem? (i := 726) rfl) rfl
set_option maxRecDepth 100000 in
theorem xw_563 : Cond.fieldLink "ActorTreesModel" 102 "ActorTreesModel" "chained" "I" ∈ xtbl := xmem (List.mem_of_getElem? (i := 730) rfl) rfl
set_option maxRecDepth 100000 in
theorem xw_564 : Cond.fieldLink "ActorTreesModel" 22 "ActorTreesModel" "chain" "[I" ∈ xtbl := xmem (List.mem_of_getElem? (i := 729) rfl) rfl
set_option maxRecDepth 100000 in
theorem xw_565 : Cond.code yX8_isOverBudget prog_10_method_17_code 3 (Option.some FieldType.boolean) ∈ xtbl := xmem (List.mem_of_getElem? (i := 951) rfl) rfl
set_option maxRecDepth 100000 in
theorem xw_566 : Cond.methodLink "ActorTreesModel" 105 yX8_isOverBudget ∈ xtbl := xmem (List.mem_of_getElem? (i := 948) rfl) rfl
set_option maxRecDepth 100000 in
theorem xw_567 : Cond.instanceMethod yX8_isOverBudget ∈ xtbl := xmem (List.mem_of_getElem? (i := 950) rfl) rfl
theorem xw_568 : Cond.selects "ActorTreesModel" yX8_isOverBudget yX8_isOverBudget ∈ xtbl := List.mem_append_left _ (List.mem_of_getElem? (i := 43) rfl)
set_option maxRecDepth 100000 in
theorem xw_569 : Cond.code yX8_isLiveChild prog_10_method_8_code 3 (Option.some FieldType.boolean) ∈ xtbl := xmem (List.mem_of_getElem? (i := 900) rfl) rfl
set_option maxRecDepth 100000 in
theorem xw_570 : Cond.methodLink "ActorTreesModel" 67 yX8_isLiveChild ∈ xtbl := xmem (List.mem_of_getElem? (i := 897) rfl) rfl
set_option maxRecDepth 100000 in
theorem xw_571 : Cond.instanceMethod yX8_isLiveChild ∈ xtbl := xmem (List.mem_of_getElem? (i := 899) rfl) rfl
theorem xw_572 : Cond.selects "ActorTreesModel" yX8_isLiveChild yX8_isLiveChild ∈ xtbl := List.mem_append_left _ (List.mem_of_getElem? (i := 32) rfl)
set_option maxRecDepth 100000 in
theorem xw_573 : Cond.code yX8_restarts prog_10_method_15_code 2 (Option.none) ∈ xtbl := xmem (List.mem_of_getElem? (i := 955) rfl) rfl
set_option maxRecDepth 100000 in
theorem xw_574 : Cond.methodLink "ActorTreesModel" 108 yX8_restarts ∈ xtbl := xmem (List.mem_of_getElem? (i := 952) rfl) rfl
set_option maxRecDepth 100000 in
theorem xw_575 : Cond.instanceMethod yX8_restarts ∈ xtbl := xmem (List.mem_of_getElem? (i := 954) rfl) rfl
theorem xw_576 : Cond.selects "ActorTreesModel" yX8_restarts yX8_restarts ∈ xtbl := List.mem_append_left _ (List.mem_of_getElem? (i := 44) rfl)
set_option maxRecDepth 100000 in
theorem xw_577 : Cond.fieldLink "ActorTreesModel" 25 "ActorTreesModel" "tape" "[I" ∈ xtbl := xmem (List.mem_of_getElem? (i := 731) rfl) rfl
set_option maxRecDepth 100000 in
theorem xw_578 : Cond.code yX8_isEnd prog_10_method_32_code 3 (Option.some FieldType.boolean) ∈ xtbl := xmem (List.mem_of_getElem? (i := 920) rfl) rfl
set_option maxRecDepth 100000 in
theorem xw_579 : Cond.methodLink "ActorTreesModel" 161 yX8_isEnd ∈ xtbl := xmem (List.mem_of_getElem? (i := 917) rfl) rfl
set_option maxRecDepth 100000 in
theorem xw_580 : Cond.instanceMethod yX8_isEnd ∈ xtbl := xmem (List.mem_of_getElem? (i := 919) rfl) rfl
theorem xw_581 : Cond.selects "ActorTreesModel" yX8_isEnd yX8_isEnd ∈ xtbl := List.mem_append_left _ (List.mem_of_getElem? (i := 36) rfl)
set_option maxRecDepth 100000 in
theorem xw_582 : Cond.code yX8_step prog_10_method_31_code 6 (Option.none) ∈ xtbl := xmem (List.mem_of_getElem? (i := 932) rfl) rfl
set_option maxRecDepth 100000 in
theorem xw_583 : Cond.methodLink "ActorTreesModel" 164 yX8_step ∈ xtbl := xmem (List.mem_of_getElem? (i := 929) rfl) rfl
set_option maxRecDepth 100000 in
theorem xw_584 : Cond.instanceMethod yX8_step ∈ xtbl := xmem (List.mem_of_getElem? (i := 931) rfl) rfl
theorem xw_585 : Cond.selects "ActorTreesModel" yX8_step yX8_step ∈ xtbl := List.mem_append_left _ (List.mem_of_getElem? (i := 39) rfl)
set_option maxRecDepth 100000 in
theorem xw_586 : Cond.code yX8_nextActor prog_10_method_26_code 3 (Option.some FieldType.int) ∈ xtbl := xmem (List.mem_of_getElem? (i := 928) rfl) rfl
set_option maxRecDepth 100000 in
theorem xw_587 : Cond.methodLink "ActorTreesModel" 135 yX8_nextActor ∈ xtbl := xmem (List.mem_of_getElem? (i := 925) rfl) rfl
set_option maxRecDepth 100000 in
theorem xw_588 : Cond.instanceMethod yX8_nextActor ∈ xtbl := xmem (List.mem_of_getElem? (i := 927) rfl) rfl
theorem xw_589 : Cond.selects "ActorTreesModel" yX8_nextActor yX8_nextActor ∈ xtbl := List.mem_append_left _ (List.mem_of_getElem? (i := 38) rfl)
set_option maxRecDepth 100000 in
theorem xw_590 : Cond.code yX8_isHandle prog_10_method_74_code 2 (Option.some FieldType.boolean) ∈ xtbl := xmem (List.mem_of_getElem? (i := 1077) rfl) rfl
set_option maxRecDepth 100000 in
theorem xw_591 : Cond.methodLink "ActorTreesModel" 242 yX8_isHandle ∈ xtbl := xmem (List.mem_of_getElem? (i := 1074) rfl) rfl
set_option maxRecDepth 100000 in
theorem xw_592 : Cond.instanceMethod yX8_isHandle ∈ xtbl := xmem (List.mem_of_getElem? (i := 1076) rfl) rfl
theorem xw_593 : Cond.selects "ActorTreesModel" yX8_isHandle yX8_isHandle ∈ xtbl := List.mem_append_left _ (List.mem_of_getElem? (i := 59) rfl)
set_option maxRecDepth 100000 in
theorem xw_594 : Cond.code yX8_comesBack prog_10_method_10_code 6 (Option.none) ∈ xtbl := xmem (List.mem_of_getElem? (i := 959) rfl) rfl
set_option maxRecDepth 100000 in
theorem xw_595 : Cond.methodLink "ActorTreesModel" 87 yX8_comesBack ∈ xtbl := xmem (List.mem_of_getElem? (i := 956) rfl) rfl
set_option maxRecDepth 100000 in
theorem xw_596 : Cond.instanceMethod yX8_comesBack ∈ xtbl := xmem (List.mem_of_getElem? (i := 958) rfl) rfl
theorem xw_597 : Cond.selects "ActorTreesModel" yX8_comesBack yX8_comesBack ∈ xtbl := List.mem_append_left _ (List.mem_of_getElem? (i := 45) rfl)
set_option maxRecDepth 100000 in
theorem xw_598 : Cond.methodLink "ActorTreesModel" 3 objectInit ∈ xtbl := xmem (List.mem_of_getElem? (i := 718) rfl) rfl
set_option maxRecDepth 100000 in
theorem xw_599 : Cond.fieldLink "ActorTreesModel" 16 "ActorTreesModel" "whole" "[I" ∈ xtbl := xmem (List.mem_of_getElem? (i := 723) rfl) rfl
set_option maxRecDepth 100000 in
theorem xw_600 : Cond.fieldLink "ActorTreesModel" 34 "ActorTreesModel" "rowSize" "[I" ∈ xtbl := xmem (List.mem_of_getElem? (i := 735) rfl) rfl
set_option maxRecDepth 100000 in
theorem xw_601 : Cond.classLink "ActorTreesModel" 37 "[[I" ∈ xtbl := xmem (List.mem_of_getElem? (i := 719) rfl) rfl
set_option maxRecDepth 100000 in
theorem xw_602 : Cond.fieldLink "ActorTreesModel" 39 "ActorTreesModel" "rows" "[[I" ∈ xtbl := xmem (List.mem_of_getElem? (i := 736) rfl) rfl
set_option maxRecDepth 100000 in
theorem xw_603 : Cond.fieldLink "ActorTreesModel" 42 "ActorTreesModel" "queue" "[I" ∈ xtbl := xmem (List.mem_of_getElem? (i := 737) rfl) rfl
set_option maxRecDepth 100000 in
theorem xw_604 : Cond.fieldLink "ActorTreesModel" 45 "ActorTreesModel" "ways" "[I" ∈ xtbl := xmem (List.mem_of_getElem? (i := 738) rfl) rfl
set_option maxRecDepth 100000 in
theorem xw_605 : Cond.code yX8_hasStep prog_10_method_28_code 1 (Option.some FieldType.boolean) ∈ xtbl := xmem (List.mem_of_getElem? (i := 924) rfl) rfl
set_option maxRecDepth 100000 in
theorem xw_606 : Cond.methodLink "ActorTreesModel" 154 yX8_hasStep ∈ xtbl := xmem (List.mem_of_getElem? (i := 921) rfl) rfl
set_option maxRecDepth 100000 in
theorem xw_607 : Cond.instanceMethod yX8_hasStep ∈ xtbl := xmem (List.mem_of_getElem? (i := 923) rfl) rfl
theorem xw_608 : Cond.selects "ActorTreesModel" yX8_hasStep yX8_hasStep ∈ xtbl := List.mem_append_left _ (List.mem_of_getElem? (i := 37) rfl)
set_option maxRecDepth 100000 in
theorem xw_609 : Cond.fieldLink "ActorTreesModel" 213 "ActorTreesModel" "spot" "I" ∈ xtbl := xmem (List.mem_of_getElem? (i := 740) rfl) rfl
set_option maxRecDepth 100000 in
theorem xw_610 : Cond.fieldLink "ActorTreesModel" 210 "ActorTreesModel" "fault" "I" ∈ xtbl := xmem (List.mem_of_getElem? (i := 741) rfl) rfl
set_option maxRecDepth 100000 in
theorem xw_611 : Cond.code yX8_line prog_10_method_67_code 4 (Option.some FieldType.int) ∈ xtbl := xmem (List.mem_of_getElem? (i := 1042) rfl) rfl
set_option maxRecDepth 100000 in
theorem xw_612 : Cond.methodLink "ActorTreesModel" 226 yX8_line ∈ xtbl := xmem (List.mem_of_getElem? (i := 1039) rfl) rfl
set_option maxRecDepth 100000 in
theorem xw_613 : Cond.instanceMethod yX8_line ∈ xtbl := xmem (List.mem_of_getElem? (i := 1041) rfl) rfl
theorem xw_614 : Cond.selects "ActorTreesModel" yX8_line yX8_line ∈ xtbl := List.mem_append_left _ (List.mem_of_getElem? (i := 54) rfl)
set_option maxRecDepth 100000 in
theorem xw_615 : Cond.code yX8_must prog_10_method_65_code 3 (Option.some FieldType.int) ∈ xtbl := xmem (List.mem_of_getElem? (i := 1050) rfl) rfl
set_option maxRecDepth 100000 in
theorem xw_616 : Cond.methodLink "ActorTreesModel" 219 yX8_must ∈ xtbl := xmem (List.mem_of_getElem? (i := 1047) rfl) rfl
set_option maxRecDepth 100000 in
theorem xw_617 : Cond.instanceMethod yX8_must ∈ xtbl := xmem (List.mem_of_getElem? (i := 1049) rfl) rfl
theorem xw_618 : Cond.selects "ActorTreesModel" yX8_must yX8_must ∈ xtbl := List.mem_append_left _ (List.mem_of_getElem? (i := 56) rfl)
set_option maxRecDepth 100000 in
theorem xw_619 : Cond.code yX8_noted prog_10_method_16_code 7 (Option.some FieldType.int) ∈ xtbl := xmem (List.mem_of_getElem? (i := 844) rfl) rfl
set_option maxRecDepth 100000 in
theorem xw_620 : Cond.methodLink "ActorTreesModel" 94 yX8_noted ∈ xtbl := xmem (List.mem_of_getElem? (i := 841) rfl) rfl
set_option maxRecDepth 100000 in
theorem xw_621 : Cond.instanceMethod yX8_noted ∈ xtbl := xmem (List.mem_of_getElem? (i := 843) rfl) rfl
theorem xw_622 : Cond.selects "ActorTreesModel" yX8_noted yX8_noted ∈ xtbl := List.mem_append_left _ (List.mem_of_getElem? (i := 26) rfl)
set_option maxRecDepth 100000 in
theorem xw_623 : Cond.code yX8_sees prog_10_method_64_code 3 (Option.some FieldType.boolean) ∈ xtbl := xmem (List.mem_of_getElem? (i := 1046) rfl) rfl
set_option maxRecDepth 100000 in
theorem xw_624 : Cond.methodLink "ActorTreesModel" 216 yX8_sees ∈ xtbl := xmem (List.mem_of_getElem? (i := 1043) rfl) rfl
set_option maxRecDepth 100000 in
theorem xw_625 : Cond.instanceMethod yX8_sees ∈ xtbl := xmem (List.mem_of_getElem? (i := 1045) rfl) rfl
theorem xw_626 : Cond.selects "ActorTreesModel" yX8_sees yX8_sees ∈ xtbl := List.mem_append_left _ (List.mem_of_getElem? (i := 55) rfl)
set_option maxRecDepth 100000 in
theorem xw_627 : Cond.code yX8_number prog_10_method_66_code 4 (Option.some FieldType.int) ∈ xtbl := xmem (List.mem_of_getElem? (i := 1054) rfl) rfl
set_option maxRecDepth 100000 in
theorem xw_628 : Cond.methodLink "ActorTreesModel" 222 yX8_number ∈ xtbl := xmem (List.mem_of_getElem? (i := 1051) rfl) rfl
set_option maxRecDepth 100000 in
theorem xw_629 : Cond.instanceMethod yX8_number ∈ xtbl := xmem (List.mem_of_getElem? (i := 1053) rfl) rfl
theorem xw_630 : Cond.selects "ActorTreesModel" yX8_number yX8_number ∈ xtbl := List.mem_append_left _ (List.mem_of_getElem? (i := 57) rfl)
set_option maxRecDepth 100000 in
theorem xw_631 : Cond.code yX8_toldAs prog_10_method_29_code 1 (Option.some FieldType.int) ∈ xtbl := xmem (List.mem_of_getElem? (i := 939) rfl) rfl
set_option maxRecDepth 100000 in
theorem xw_632 : Cond.methodLink "ActorTreesModel" 139 yX8_toldAs ∈ xtbl := xmem (List.mem_of_getElem? (i := 937) rfl) rfl
set_option maxRecDepth 100000 in
theorem xw_633 : Cond.static yX8_toldAs ∈ xtbl := xmem (List.mem_of_getElem? (i := 938) rfl) rfl
set_option maxRecDepth 100000 in
theorem xw_634 : Cond.fieldLink "ActorTreesModel" 142 "ActorTreesModel" "dealt" "I" ∈ xtbl := xmem (List.mem_of_getElem? (i := 728) rfl) rfl
set_option maxRecDepth 100000 in
theorem xw_635 : Cond.code yX8_messageAt prog_10_method_43_code 4 (Option.some FieldType.int) ∈ xtbl := xmem (List.mem_of_getElem? (i := 861) rfl) rfl
set_option maxRecDepth 100000 in
theorem xw_636 : Cond.methodLink "ActorTreesModel" 187 yX8_messageAt ∈ xtbl := xmem (List.mem_of_getElem? (i := 858) rfl) rfl
set_option maxRecDepth 100000 in
theorem xw_637 : Cond.instanceMethod yX8_messageAt ∈ xtbl := xmem (List.mem_of_getElem? (i := 860) rfl) rfl
theorem xw_638 : Cond.selects "ActorTreesModel" yX8_messageAt yX8_messageAt ∈ xtbl := List.mem_append_left _ (List.mem_of_getElem? (i := 28) rfl)
set_option maxRecDepth 100000 in
theorem xw_639 : Cond.code yX8_timersOf prog_10_method_39_code 4 (Option.some FieldType.int) ∈ xtbl := xmem (List.mem_of_getElem? (i := 840) rfl) rfl
set_option maxRecDepth 100000 in
theorem xw_640 : Cond.methodLink "ActorTreesModel" 180 yX8_timersOf ∈ xtbl := xmem (List.mem_of_getElem? (i := 837) rfl) rfl
set_option maxRecDepth 100000 in
theorem xw_641 : Cond.instanceMethod yX8_timersOf ∈ xtbl := xmem (List.mem_of_getElem? (i := 839) rfl) rfl
theorem xw_642 : Cond.selects "ActorTreesModel" yX8_timersOf yX8_timersOf ∈ xtbl := List.mem_append_left _ (List.mem_of_getElem? (i := 25) rfl)
set_option maxRecDepth 100000 in
theorem xw_643 : Cond.code yX8_childrenOf prog_10_method_40_code 4 (Option.some FieldType.int) ∈ xtbl := xmem (List.mem_of_getElem? (i := 848) rfl) rfl
set_option maxRecDepth 100000 in
theorem xw_644 : Cond.methodLink "ActorTreesModel" 183 yX8_childrenOf ∈ xtbl := xmem (List.mem_of_getElem? (i := 845) rfl) rfl
set_option maxRecDepth 100000 in
theorem xw_645 : Cond.instanceMethod yX8_childrenOf ∈ xtbl := xmem (List.mem_of_getElem? (i := 847) rfl) rfl
theorem xw_646 : Cond.selects "ActorTreesModel" yX8_childrenOf yX8_childrenOf ∈ xtbl := List.mem_append_left _ (List.mem_of_getElem? (i := 27) rfl)
set_option maxRecDepth 100000 in
theorem xw_647 : Cond.code yX8_ordered prog_10_method_73_code 5 (Option.some FieldType.int) ∈ xtbl := xmem (List.mem_of_getElem? (i := 1081) rfl) rfl
set_option maxRecDepth 100000 in
theorem xw_648 : Cond.methodLink "ActorTreesModel" 245 yX8_ordered ∈ xtbl := xmem (List.mem_of_getElem? (i := 1078) rfl) rfl
set_option maxRecDepth 100000 in
theorem xw_649 : Cond.instanceMethod yX8_ordered ∈ xtbl := xmem (List.mem_of_getElem? (i := 1080) rfl) rfl
theorem xw_650 : Cond.selects "ActorTreesModel" yX8_ordered yX8_ordered ∈ xtbl := List.mem_append_left _ (List.mem_of_getElem? (i := 60) rfl)
set_option maxRecDepth 100000 in
theorem xw_651 : Cond.code yX8_isNext prog_10_method_61_code 3 (Option.some FieldType.boolean) ∈ xtbl := xmem (List.mem_of_getElem? (i := 1026) rfl) rfl
set_option maxRecDepth 100000 in
theorem xw_652 : Cond.methodLink "ActorTreesModel" 204 yX8_isNext ∈ xtbl := xmem (List.mem_of_getElem? (i := 1023) rfl) rfl
set_option maxRecDepth 100000 in
theorem xw_653 : Cond.instanceMethod yX8_isNext ∈ xtbl := xmem (List.mem_of_getElem? (i := 1025) rfl) rfl
theorem xw_654 : Cond.selects "ActorTreesModel" yX8_isNext yX8_isNext ∈ xtbl := List.mem_append_left _ (List.mem_of_getElem? (i := 52) rfl)
set_option maxRecDepth 100000 in
theorem xw_655 : Cond.code yX8_stopsChildren prog_10_method_13_code 3 (Option.none) ∈ xtbl := xmem (List.mem_of_getElem? (i := 896) rfl) rfl
set_option maxRecDepth 100000 in
theorem xw_656 : Cond.methodLink "ActorTreesModel" 75 yX8_stopsChildren ∈ xtbl := xmem (List.mem_of_getElem? (i := 893) rfl) rfl
set_option maxRecDepth 100000 in
theorem xw_657 : Cond.instanceMethod yX8_stopsChildren ∈ xtbl := xmem (List.mem_of_getElem? (i := 895) rfl) rfl
theorem xw_658 : Cond.selects "ActorTreesModel" yX8_stopsChildren yX8_stopsChildren ∈ xtbl := List.mem_append_left _ (List.mem_of_getElem? (i := 31) rfl)
set_option maxRecDepth 100000 in
theorem xw_659 : Cond.code yX8_forgets prog_10_method_11_code 5 (Option.none) ∈ xtbl := xmem (List.mem_of_getElem? (i := 904) rfl) rfl
set_option maxRecDepth 100000 in
theorem xw_660 : Cond.methodLink "ActorTreesModel" 78 yX8_forgets ∈ xtbl := xmem (List.mem_of_getElem? (i := 901) rfl) rfl
set_option maxRecDepth 100000 in
theorem xw_661 : Cond.instanceMethod yX8_forgets ∈ xtbl := xmem (List.mem_of_getElem? (i := 903) rfl) rfl
theorem xw_662 : Cond.selects "ActorTreesModel" yX8_forgets yX8_forgets ∈ xtbl := List.mem_append_left _ (List.mem_of_getElem? (i := 33) rfl)
set_option maxRecDepth 100000 in
theorem xw_663 : Cond.code yX8_isForm prog_10_method_68_code 1 (Option.some FieldType.boolean) ∈ xtbl := xmem (List.mem_of_getElem? (i := 1038) rfl) rfl
set_option maxRecDepth 100000 in
theorem xw_664 : Cond.methodLink "ActorTreesModel" 235 yX8_isForm ∈ xtbl := xmem (List.mem_of_getElem? (i := 1035) rfl) rfl
set_option maxRecDepth 100000 in
theorem xw_665 : Cond.instanceMethod yX8_isForm ∈ xtbl := xmem (List.mem_of_getElem? (i := 1037) rfl) rfl
theorem xw_666 : Cond.selects "ActorTreesModel" yX8_isForm yX8_isForm ∈ xtbl := List.mem_append_left _ (List.mem_of_getElem? (i := 53) rfl)
set_option maxRecDepth 100000 in
theorem xw_667 : Cond.code yX8_does prog_10_method_69_code 4 (Option.some FieldType.boolean) ∈ xtbl := xmem (List.mem_of_getElem? (i := 1058) rfl) rfl
set_option maxRecDepth 100000 in
theorem xw_668 : Cond.methodLink "ActorTreesModel" 238 yX8_does ∈ xtbl := xmem (List.mem_of_getElem? (i := 1055) rfl) rfl
set_option maxRecDepth 100000 in
theorem xw_669 : Cond.instanceMethod yX8_does ∈ xtbl := xmem (List.mem_of_getElem? (i := 1057) rfl) rfl
theorem xw_670 : Cond.selects "ActorTreesModel" yX8_does yX8_does ∈ xtbl := List.mem_append_left _ (List.mem_of_getElem? (i := 58) rfl)
set_option maxRecDepth 100000 in
theorem xw_671 : Cond.code yX8_logs prog_10_method_30_code 4 (Option.none) ∈ xtbl := xmem (List.mem_of_getElem? (i := 936) rfl) rfl
set_option maxRecDepth 100000 in
theorem xw_672 : Cond.methodLink "ActorTreesModel" 145 yX8_logs ∈ xtbl := xmem (List.mem_of_getElem? (i := 933) rfl) rfl
set_option maxRecDepth 100000 in
theorem xw_673 : Cond.instanceMethod yX8_logs ∈ xtbl := xmem (List.mem_of_getElem? (i := 935) rfl) rfl
theorem xw_674 : Cond.selects "ActorTreesModel" yX8_logs yX8_logs ∈ xtbl := List.mem_append_left _ (List.mem_of_getElem? (i := 40) rfl)
set_option maxRecDepth 100000 in
theorem xw_675 : Cond.code yX8_deals prog_10_method_25_code 5 (Option.none) ∈ xtbl := xmem (List.mem_of_getElem? (i := 943) rfl) rfl
set_option maxRecDepth 100000 in
theorem xw_676 : Cond.methodLink "ActorTreesModel" 148 yX8_deals ∈ xtbl := xmem (List.mem_of_getElem? (i := 940) rfl) rfl
set_option maxRecDepth 100000 in
theorem xw_677 : Cond.instanceMethod yX8_deals ∈ xtbl := xmem (List.mem_of_getElem? (i := 942) rfl) rfl
theorem xw_678 : Cond.selects "ActorTreesModel" yX8_deals yX8_deals ∈ xtbl := List.mem_append_left _ (List.mem_of_getElem? (i := 41) rfl)
set_option maxRecDepth 100000 in
theorem xw_679 : Cond.code yX8_firstTimer prog_10_method_27_code 3 (Option.some FieldType.int) ∈ xtbl := xmem (List.mem_of_getElem? (i := 983) rfl) rfl
set_option maxRecDepth 100000 in
theorem xw_680 : Cond.methodLink "ActorTreesModel" 151 yX8_firstTimer ∈ xtbl := xmem (List.mem_of_getElem? (i := 980) rfl) rfl
set_option maxRecDepth 100000 in
theorem xw_681 : Cond.instanceMethod yX8_firstTimer ∈ xtbl := xmem (List.mem_of_getElem? (i := 982) rfl) rfl
theorem xw_682 : Cond.selects "ActorTreesModel" yX8_firstTimer yX8_firstTimer ∈ xtbl := List.mem_append_left _ (List.mem_of_getElem? (i := 51) rfl)
set_option maxRecDepth 100000 in
theorem xw_683 : Cond.code yX8_unwatches prog_10_method_12_code 6 (Option.none) ∈ xtbl := xmem (List.mem_of_getElem? (i := 908) rfl) rfl
set_option maxRecDepth 100000 in
theorem xw_684 : Cond.methodLink "ActorTreesModel" 81 yX8_unwatches ∈ xtbl := xmem (List.mem_of_getElem? (i := 905) rfl) rfl
set_option maxRecDepth 100000 in
theorem xw_685 : Cond.instanceMethod yX8_unwatches ∈ xtbl := xmem (List.mem_of_getElem? (i := 907) rfl) rfl
theorem xw_686 : Cond.selects "ActorTreesModel" yX8_unwatches yX8_unwatches ∈ xtbl := List.mem_append_left _ (List.mem_of_getElem? (i := 34) rfl)
set_option maxRecDepth 100000 in
theorem xw_687 : Cond.code yX8_isNumber prog_10_method_37_code 1 (Option.some FieldType.boolean) ∈ xtbl := xmem (List.mem_of_getElem? (i := 824) rfl) rfl
set_option maxRecDepth 100000 in
theorem xw_688 : Cond.methodLink "ActorTreesModel" 177 yX8_isNumber ∈ xtbl := xmem (List.mem_of_getElem? (i := 822) rfl) rfl
set_option maxRecDepth 100000 in
theorem xw_689 : Cond.static yX8_isNumber ∈ xtbl := xmem (List.mem_of_getElem? (i := 823) rfl) rfl
set_option maxRecDepth 100000 in
theorem xw_690 : Cond.constant "ActorTreesModel" 251 (-2000000012) ∈ xtbl := xmem (List.mem_of_getElem? (i := 1106) rfl) rfl
set_option maxRecDepth 100000 in
theorem xw_691 : Cond.constant "java/lang/Integer" 265 (1431655765) ∈ xtbl := xmem (List.mem_of_getElem? (i := 702) rfl) rfl
set_option maxRecDepth 100000 in
theorem xw_692 : Cond.constant "java/lang/Integer" 266 (858993459) ∈ xtbl := xmem (List.mem_of_getElem? (i := 703) rfl) rfl
set_option maxRecDepth 100000 in
theorem xw_693 : Cond.constant "java/lang/Integer" 267 (252645135) ∈ xtbl := xmem (List.mem_of_getElem? (i := 704) rfl) rfl
set_option maxRecDepth 100000 in
theorem xw_694 : Cond.classLink "ActorTreesLaw" 7 "ActorTrees" ∈ xtbl := xmem (List.mem_of_getElem? (i := 13) rfl) rfl
set_option maxRecDepth 100000 in
theorem xw_695 : Cond.instantiable "ActorTrees" 7 ∈ xtbl := xmem (List.mem_of_getElem? (i := 14) rfl) rfl
set_option maxRecDepth 100000 in
theorem xw_696 : Cond.code yX7_init prog_1_method_1_code 2 (Option.none) ∈ xtbl := xmem (List.mem_of_getElem? (i := 17) rfl) rfl
set_option maxRecDepth 100000 in
theorem xw_697 : Cond.methodLink "ActorTreesLaw" 9 yX7_init ∈ xtbl := xmem (List.mem_of_getElem? (i := 15) rfl) rfl
set_option maxRecDepth 100000 in
theorem xw_698 : Cond.instanceMethod yX7_init ∈ xtbl := xmem (List.mem_of_getElem? (i := 16) rfl) rfl
set_option maxRecDepth 100000 in
theorem xw_699 : Cond.classLink "ActorTreesLaw" 10 "ActorTreesModel" ∈ xtbl := xmem (List.mem_of_getElem? (i := 713) rfl) rfl
set_option maxRecDepth 100000 in
theorem xw_700 : Cond.instantiable "ActorTreesModel" 22 ∈ xtbl := xmem (List.mem_of_getElem? (i := 714) rfl) rfl
set_option maxRecDepth 100000 in
theorem xw_701 : Cond.code yX8_init prog_10_method_1_code 1 (Option.none) ∈ xtbl := xmem (List.mem_of_getElem? (i := 717) rfl) rfl
set_option maxRecDepth 100000 in
theorem xw_702 : Cond.methodLink "ActorTreesLaw" 12 yX8_init ∈ xtbl := xmem (List.mem_of_getElem? (i := 715) rfl) rfl
set_option maxRecDepth 100000 in
theorem xw_703 : Cond.instanceMethod yX8_init ∈ xtbl := xmem (List.mem_of_getElem? (i := 716) rfl) rfl
set_option maxRecDepth 100000 in
theorem xw_704 : Cond.code yX7_actor prog_1_method_2_code 4 (Option.some FieldType.int) ∈ xtbl := xmem (List.mem_of_getElem? (i := 276) rfl) rfl
set_option maxRecDepth 100000 in
theorem xw_705 : Cond.methodLink "ActorTreesLaw" 13 yX7_actor ∈ xtbl := xmem (List.mem_of_getElem? (i := 273) rfl) rfl
set_option maxRecDepth 100000 in
theorem xw_706 : Cond.instanceMethod yX7_actor ∈ xtbl := xmem (List.mem_of_getElem? (i := 274) rfl) rfl
set_option maxRecDepth 100000 in
theorem xw_707 : Cond.selects "ActorTrees" yX7_actor yX7_actor ∈ xtbl := xmem (List.mem_of_getElem? (i := 275) rfl) rfl
set_option maxRecDepth 100000 in
theorem xw_708 : Cond.methodLink "ActorTreesLaw" 17 yX8_actor ∈ xtbl := xmem (List.mem_of_getElem? (i := 788) rfl) rfl
set_option maxRecDepth 100000 in
theorem xw_709 : Cond.code yX7_tell prog_1_method_3_code 4 (Option.some FieldType.int) ∈ xtbl := xmem (List.mem_of_getElem? (i := 304) rfl) rfl
set_option maxRecDepth 100000 in
theorem xw_710 : Cond.methodLink "ActorTreesLaw" 18 yX7_tell ∈ xtbl := xmem (List.mem_of_getElem? (i := 301) rfl) rfl
set_option maxRecDepth 100000 in
theorem xw_711 : Cond.instanceMethod yX7_tell ∈ xtbl := xmem (List.mem_of_getElem? (i := 302) rfl) rfl
set_option maxRecDepth 100000 in
theorem xw_712 : Cond.selects "ActorTrees" yX7_tell yX7_tell ∈ xtbl := xmem (List.mem_of_getElem? (i := 303) rfl) rfl
set_option maxRecDepth 100000 in
theorem xw_713 : Cond.code yX8_tell prog_10_method_38_code 4 (Option.some FieldType.int) ∈ xtbl := xmem (List.mem_of_getElem? (i := 821) rfl) rfl
set_option maxRecDepth 100000 in
theorem xw_714 : Cond.methodLink "ActorTreesLaw" 21 yX8_tell ∈ xtbl := xmem (List.mem_of_getElem? (i := 818) rfl) rfl
set_option maxRecDepth 100000 in
theorem xw_715 : Cond.instanceMethod yX8_tell ∈ xtbl := xmem (List.mem_of_getElem? (i := 819) rfl) rfl
set_option maxRecDepth 100000 in
theorem xw_716 : Cond.selects "ActorTreesModel" yX8_tell yX8_tell ∈ xtbl := xmem (List.mem_of_getElem? (i := 820) rfl) rfl
set_option maxRecDepth 100000 in
theorem xw_717 : Cond.code yX7_of prog_1_method_4_code 4 (Option.some FieldType.int) ∈ xtbl := xmem (List.mem_of_getElem? (i := 320) rfl) rfl
set_option maxRecDepth 100000 in
theorem xw_718 : Cond.methodLink "ActorTreesLaw" 22 yX7_of ∈ xtbl := xmem (List.mem_of_getElem? (i := 317) rfl) rfl
set_option maxRecDepth 100000 in
theorem xw_719 : Cond.instanceMethod yX7_of ∈ xtbl := xmem (List.mem_of_getElem? (i := 318) rfl) rfl
set_option maxRecDepth 100000 in
theorem xw_720 : Cond.selects "ActorTrees" yX7_of yX7_of ∈ xtbl := xmem (List.mem_of_getElem? (i := 319) rfl) rfl
set_option maxRecDepth 100000 in
theorem xw_721 : Cond.code yX8_of prog_10_method_41_code 3 (Option.some FieldType.int) ∈ xtbl := xmem (List.mem_of_getElem? (i := 832) rfl) rfl
set_option maxRecDepth 100000 in
theorem xw_722 : Cond.methodLink "ActorTreesLaw" 26 yX8_of ∈ xtbl := xmem (List.mem_of_getElem? (i := 829) rfl) rfl
set_option maxRecDepth 100000 in
theorem xw_723 : Cond.instanceMethod yX8_of ∈ xtbl := xmem (List.mem_of_getElem? (i := 830) rfl) rfl
set_option maxRecDepth 100000 in
theorem xw_724 : Cond.selects "ActorTreesModel" yX8_of yX8_of ∈ xtbl := xmem (List.mem_of_getElem? (i := 831) rfl) rfl
set_option maxRecDepth 100000 in
theorem xw_725 : Cond.code yX7_counted prog_1_method_5_code 2 (Option.some FieldType.int) ∈ xtbl := xmem (List.mem_of_getElem? (i := 340) rfl) rfl
set_option maxRecDepth 100000 in
theorem xw_726 : Cond.methodLink "ActorTreesLaw" 27 yX7_counted ∈ xtbl := xmem (List.mem_of_getElem? (i := 337) rfl) rfl
set_option maxRecDepth 100000 in
theorem xw_727 : Cond.instanceMethod yX7_counted ∈ xtbl := xmem (List.mem_of_getElem? (i := 338) rfl) rfl
set_option maxRecDepth 100000 in
theorem xw_728 : Cond.selects "ActorTrees" yX7_counted yX7_counted ∈ xtbl := xmem (List.mem_of_getElem? (i := 339) rfl) rfl
set_option maxRecDepth 100000 in
theorem xw_729 : Cond.code yX8_counted prog_10_method_42_code 2 (Option.some FieldType.int) ∈ xtbl := xmem (List.mem_of_getElem? (i := 852) rfl) rfl
set_option maxRecDepth 100000 in
theorem xw_730 : Cond.methodLink "ActorTreesLaw" 31 yX8_counted ∈ xtbl := xmem (List.mem_of_getElem? (i := 849) rfl) rfl
set_option maxRecDepth 100000 in
theorem xw_731 : Cond.instanceMethod yX8_counted ∈ xtbl := xmem (List.mem_of_getElem? (i := 850) rfl) rfl
set_option maxRecDepth 100000 in
theorem xw_732 : Cond.selects "ActorTreesModel" yX8_counted yX8_counted ∈ xtbl := xmem (List.mem_of_getElem? (i := 851) rfl) rfl
set_option maxRecDepth 100000 in
theorem xw_733 : Cond.code yX7_message prog_1_method_6_code 5 (Option.some FieldType.int) ∈ xtbl := xmem (List.mem_of_getElem? (i := 345) rfl) rfl
set_option maxRecDepth 100000 in
theorem xw_734 : Cond.methodLink "ActorTreesLaw" 32 yX7_message ∈ xtbl := xmem (List.mem_of_getElem? (i := 342) rfl) rfl
set_option maxRecDepth 100000 in
theorem xw_735 : Cond.instanceMethod yX7_message ∈ xtbl := xmem (List.mem_of_getElem? (i := 343) rfl) rfl
set_option maxRecDepth 100000 in
theorem xw_736 : Cond.selects "ActorTrees" yX7_message yX7_message ∈ xtbl := xmem (List.mem_of_getElem? (i := 344) rfl) rfl
set_option maxRecDepth 100000 in
theorem xw_737 : Cond.code yX8_message prog_10_method_44_code 6 (Option.some FieldType.int) ∈ xtbl := xmem (List.mem_of_getElem? (i := 857) rfl) rfl
set_option maxRecDepth 100000 in
theorem xw_738 : Cond.methodLink "ActorTreesLaw" 36 yX8_message ∈ xtbl := xmem (List.mem_of_getElem? (i := 854) rfl) rfl
set_option maxRecDepth 100000 in
theorem xw_739 : Cond.instanceMethod yX8_message ∈ xtbl := xmem (List.mem_of_getElem? (i := 855) rfl) rfl
set_option maxRecDepth 100000 in
theorem xw_740 : Cond.selects "ActorTreesModel" yX8_message yX8_message ∈ xtbl := xmem (List.mem_of_getElem? (i := 856) rfl) rfl
set_option maxRecDepth 100000 in
theorem xw_741 : Cond.code yX7_sender prog_1_method_7_code 5 (Option.some FieldType.int) ∈ xtbl := xmem (List.mem_of_getElem? (i := 353) rfl) rfl
set_option maxRecDepth 100000 in
theorem xw_742 : Cond.methodLink "ActorTreesLaw" 37 yX7_sender ∈ xtbl := xmem (List.mem_of_getElem? (i := 350) rfl) rfl
set_option maxRecDepth 100000 in
theorem xw_743 : Cond.instanceMethod yX7_sender ∈ xtbl := xmem (List.mem_of_getElem? (i := 351) rfl) rfl
set_option maxRecDepth 100000 in
theorem xw_744 : Cond.selects "ActorTrees" yX7_sender yX7_sender ∈ xtbl := xmem (List.mem_of_getElem? (i := 352) rfl) rfl
set_option maxRecDepth 100000 in
theorem xw_745 : Cond.code yX8_sender prog_10_method_45_code 5 (Option.some FieldType.int) ∈ xtbl := xmem (List.mem_of_getElem? (i := 865) rfl) rfl
set_option maxRecDepth 100000 in
theorem xw_746 : Cond.methodLink "ActorTreesLaw" 40 yX8_sender ∈ xtbl := xmem (List.mem_of_getElem? (i := 862) rfl) rfl
set_option maxRecDepth 100000 in
theorem xw_747 : Cond.instanceMethod yX8_sender ∈ xtbl := xmem (List.mem_of_getElem? (i := 863) rfl) rfl
set_option maxRecDepth 100000 in
theorem xw_748 : Cond.selects "ActorTreesModel" yX8_sender yX8_sender ∈ xtbl := xmem (List.mem_of_getElem? (i := 864) rfl) rfl
set_option maxRecDepth 100000 in
theorem xw_749 : Cond.code yX7_stack prog_1_method_8_code 3 (Option.some FieldType.int) ∈ xtbl := xmem (List.mem_of_getElem? (i := 361) rfl) rfl
set_option maxRecDepth 100000 in
theorem xw_750 : Cond.methodLink "ActorTreesLaw" 41 yX7_stack ∈ xtbl := xmem (List.mem_of_getElem? (i := 358) rfl) rfl
set_option maxRecDepth 100000 in
theorem xw_751 : Cond.instanceMethod yX7_stack ∈ xtbl := xmem (List.mem_of_getElem? (i := 359) rfl) rfl
set_option maxRecDepth 100000 in
theorem xw_752 : Cond.selects "ActorTrees" yX7_stack yX7_stack ∈ xtbl := xmem (List.mem_of_getElem? (i := 360) rfl) rfl
set_option maxRecDepth 100000 in
theorem xw_753 : Cond.code yX8_stack prog_10_method_46_code 3 (Option.some FieldType.int) ∈ xtbl := xmem (List.mem_of_getElem? (i := 869) rfl) rfl
set_option maxRecDepth 100000 in
theorem xw_754 : Cond.methodLink "ActorTreesLaw" 44 yX8_stack ∈ xtbl := xmem (List.mem_of_getElem? (i := 866) rfl) rfl
set_option maxRecDepth 100000 in
theorem xw_755 : Cond.instanceMethod yX8_stack ∈ xtbl := xmem (List.mem_of_getElem? (i := 867) rfl) rfl
set_option maxRecDepth 100000 in
theorem xw_756 : Cond.selects "ActorTreesModel" yX8_stack yX8_stack ∈ xtbl := xmem (List.mem_of_getElem? (i := 868) rfl) rfl
set_option maxRecDepth 100000 in
theorem xw_757 : Cond.code yX7_watcher prog_1_method_9_code 3 (Option.some FieldType.int) ∈ xtbl := xmem (List.mem_of_getElem? (i := 368) rfl) rfl
set_option maxRecDepth 100000 in
theorem xw_758 : Cond.methodLink "ActorTreesLaw" 45 yX7_watcher ∈ xtbl := xmem (List.mem_of_getElem? (i := 365) rfl) rfl
set_option maxRecDepth 100000 in
theorem xw_759 : Cond.instanceMethod yX7_watcher ∈ xtbl := xmem (List.mem_of_getElem? (i := 366) rfl) rfl
set_option maxRecDepth 100000 in
theorem xw_760 : Cond.selects "ActorTrees" yX7_watcher yX7_watcher ∈ xtbl := xmem (List.mem_of_getElem? (i := 367) rfl) rfl
set_option maxRecDepth 100000 in
theorem xw_761 : Cond.code yX8_watcher prog_10_method_47_code 3 (Option.some FieldType.int) ∈ xtbl := xmem (List.mem_of_getElem? (i := 873) rfl) rfl
set_option maxRecDepth 100000 in
theorem xw_762 : Cond.methodLink "ActorTreesLaw" 48 yX8_watcher ∈ xtbl := xmem (List.mem_of_getElem? (i := 870) rfl) rfl
set_option maxRecDepth 100000 in
theorem xw_763 : Cond.instanceMethod yX8_watcher ∈ xtbl := xmem (List.mem_of_getElem? (i := 871) rfl) rfl
set_option maxRecDepth 100000 in
theorem xw_764 : Cond.selects "ActorTreesModel" yX8_watcher yX8_watcher ∈ xtbl := xmem (List.mem_of_getElem? (i := 872) rfl) rfl
set_option maxRecDepth 100000 in
theorem xw_765 : Cond.code yX7_timer prog_1_method_10_code 4 (Option.some FieldType.int) ∈ xtbl := xmem (List.mem_of_getElem? (i := 372) rfl) rfl
set_option maxRecDepth 100000 in
theorem xw_766 : Cond.methodLink "ActorTreesLaw" 49 yX7_timer ∈ xtbl := xmem (List.mem_of_getElem? (i := 369) rfl) rfl
set_option maxRecDepth 100000 in
theorem xw_767 : Cond.instanceMethod yX7_timer ∈ xtbl := xmem (List.mem_of_getElem? (i := 370) rfl) rfl
set_option maxRecDepth 100000 in
theorem xw_768 : Cond.selects "ActorTrees" yX7_timer yX7_timer ∈ xtbl := xmem (List.mem_of_getElem? (i := 371) rfl) rfl
set_option maxRecDepth 100000 in
theorem xw_769 : Cond.code yX8_timer prog_10_method_48_code 8 (Option.some FieldType.int) ∈ xtbl := xmem (List.mem_of_getElem? (i := 877) rfl) rfl
set_option maxRecDepth 100000 in
theorem xw_770 : Cond.methodLink "ActorTreesLaw" 52 yX8_timer ∈ xtbl := xmem (List.mem_of_getElem? (i := 874) rfl) rfl
set_option maxRecDepth 100000 in
theorem xw_771 : Cond.instanceMethod yX8_timer ∈ xtbl := xmem (List.mem_of_getElem? (i := 875) rfl) rfl
set_option maxRecDepth 100000 in
theorem xw_772 : Cond.selects "ActorTreesModel" yX8_timer yX8_timer ∈ xtbl := xmem (List.mem_of_getElem? (i := 876) rfl) rfl
set_option maxRecDepth 100000 in
theorem xw_773 : Cond.code yX7_stop prog_1_method_11_code 2 (Option.some FieldType.int) ∈ xtbl := xmem (List.mem_of_getElem? (i := 388) rfl) rfl
set_option maxRecDepth 100000 in
theorem xw_774 : Cond.methodLink "ActorTreesLaw" 53 yX7_stop ∈ xtbl := xmem (List.mem_of_getElem? (i := 385) rfl) rfl
set_option maxRecDepth 100000 in
theorem xw_775 : Cond.instanceMethod yX7_stop ∈ xtbl := xmem (List.mem_of_getElem? (i := 386) rfl) rfl
set_option maxRecDepth 100000 in
theorem xw_776 : Cond.selects "ActorTrees" yX7_stop yX7_stop ∈ xtbl := xmem (List.mem_of_getElem? (i := 387) rfl) rfl
set_option maxRecDepth 100000 in
theorem xw_777 : Cond.code yX8_stop prog_10_method_51_code 3 (Option.some FieldType.int) ∈ xtbl := xmem (List.mem_of_getElem? (i := 881) rfl) rfl
set_option maxRecDepth 100000 in
theorem xw_778 : Cond.methodLink "ActorTreesLaw" 56 yX8_stop ∈ xtbl := xmem (List.mem_of_getElem? (i := 878) rfl) rfl
set_option maxRecDepth 100000 in
theorem xw_779 : Cond.instanceMethod yX8_stop ∈ xtbl := xmem (List.mem_of_getElem? (i := 879) rfl) rfl
set_option maxRecDepth 100000 in
theorem xw_780 : Cond.selects "ActorTreesModel" yX8_stop yX8_stop ∈ xtbl := xmem (List.mem_of_getElem? (i := 880) rfl) rfl
set_option maxRecDepth 100000 in
theorem xw_781 : Cond.code yX7_run prog_1_method_12_code 2 (Option.some FieldType.int) ∈ xtbl := xmem (List.mem_of_getElem? (i := 420) rfl) rfl
set_option maxRecDepth 100000 in
theorem xw_782 : Cond.methodLink "ActorTreesLaw" 57 yX7_run ∈ xtbl := xmem (List.mem_of_getElem? (i := 417) rfl) rfl
set_option maxRecDepth 100000 in
theorem xw_783 : Cond.instanceMethod yX7_run ∈ xtbl := xmem (List.mem_of_getElem? (i := 418) rfl) rfl
set_option maxRecDepth 100000 in
theorem xw_784 : Cond.selects "ActorTrees" yX7_run yX7_run ∈ xtbl := xmem (List.mem_of_getElem? (i := 419) rfl) rfl
set_option maxRecDepth 100000 in
theorem xw_785 : Cond.methodLink "ActorTreesLaw" 60 yX8_run ∈ xtbl := xmem (List.mem_of_getElem? (i := 909) rfl) rfl
set_option maxRecDepth 100000 in
theorem xw_786 : Cond.code yX7_ended prog_1_method_13_code 1 (Option.some FieldType.int) ∈ xtbl := xmem (List.mem_of_getElem? (i := 534) rfl) rfl
set_option maxRecDepth 100000 in
theorem xw_787 : Cond.methodLink "ActorTreesLaw" 61 yX7_ended ∈ xtbl := xmem (List.mem_of_getElem? (i := 531) rfl) rfl
set_option maxRecDepth 100000 in
theorem xw_788 : Cond.instanceMethod yX7_ended ∈ xtbl := xmem (List.mem_of_getElem? (i := 532) rfl) rfl
set_option maxRecDepth 100000 in
theorem xw_789 : Cond.selects "ActorTrees" yX7_ended yX7_ended ∈ xtbl := xmem (List.mem_of_getElem? (i := 533) rfl) rfl
set_option maxRecDepth 100000 in
theorem xw_790 : Cond.code yX8_ended prog_10_method_53_code 1 (Option.some FieldType.int) ∈ xtbl := xmem (List.mem_of_getElem? (i := 987) rfl) rfl
set_option maxRecDepth 100000 in
theorem xw_791 : Cond.methodLink "ActorTreesLaw" 65 yX8_ended ∈ xtbl := xmem (List.mem_of_getElem? (i := 984) rfl) rfl
set_option maxRecDepth 100000 in
theorem xw_792 : Cond.instanceMethod yX8_ended ∈ xtbl := xmem (List.mem_of_getElem? (i := 985) rfl) rfl
set_option maxRecDepth 100000 in
theorem xw_793 : Cond.selects "ActorTreesModel" yX8_ended yX8_ended ∈ xtbl := xmem (List.mem_of_getElem? (i := 986) rfl) rfl
set_option maxRecDepth 100000 in
theorem xw_794 : Cond.code yX7_log prog_1_method_14_code 3 (Option.some FieldType.int) ∈ xtbl := xmem (List.mem_of_getElem? (i := 538) rfl) rfl
set_option maxRecDepth 100000 in
theorem xw_795 : Cond.methodLink "ActorTreesLaw" 66 yX7_log ∈ xtbl := xmem (List.mem_of_getElem? (i := 535) rfl) rfl
set_option maxRecDepth 100000 in
theorem xw_796 : Cond.instanceMethod yX7_log ∈ xtbl := xmem (List.mem_of_getElem? (i := 536) rfl) rfl
set_option maxRecDepth 100000 in
theorem xw_797 : Cond.selects "ActorTrees" yX7_log yX7_log ∈ xtbl := xmem (List.mem_of_getElem? (i := 537) rfl) rfl
set_option maxRecDepth 100000 in
theorem xw_798 : Cond.code yX8_log prog_10_method_54_code 2 (Option.some FieldType.int) ∈ xtbl := xmem (List.mem_of_getElem? (i := 991) rfl) rfl
set_option maxRecDepth 100000 in
theorem xw_799 : Cond.methodLink "ActorTreesLaw" 69 yX8_log ∈ xtbl := xmem (List.mem_of_getElem? (i := 988) rfl) rfl
set_option maxRecDepth 100000 in
theorem xw_800 : Cond.instanceMethod yX8_log ∈ xtbl := xmem (List.mem_of_getElem? (i := 989) rfl) rfl
set_option maxRecDepth 100000 in
theorem xw_801 : Cond.selects "ActorTreesModel" yX8_log yX8_log ∈ xtbl := xmem (List.mem_of_getElem? (i := 990) rfl) rfl
set_option maxRecDepth 100000 in
theorem xw_802 : Cond.code yX7_cause prog_1_method_15_code 5 (Option.some FieldType.int) ∈ xtbl := xmem (List.mem_of_getElem? (i := 542) rfl) rfl
set_option maxRecDepth 100000 in
theorem xw_803 : Cond.methodLink "ActorTreesLaw" 70 yX7_cause ∈ xtbl := xmem (List.mem_of_getElem? (i := 539) rfl) rfl
set_option maxRecDepth 100000 in
theorem xw_804 : Cond.instanceMethod yX7_cause ∈ xtbl := xmem (List.mem_of_getElem? (i := 540) rfl) rfl
set_option maxRecDepth 100000 in
theorem xw_805 : Cond.selects "ActorTrees" yX7_cause yX7_cause ∈ xtbl := xmem (List.mem_of_getElem? (i := 541) rfl) rfl
set_option maxRecDepth 100000 in
theorem xw_806 : Cond.code yX8_cause prog_10_method_55_code 3 (Option.some FieldType.int) ∈ xtbl := xmem (List.mem_of_getElem? (i := 995) rfl) rfl
set_option maxRecDepth 100000 in
theorem xw_807 : Cond.methodLink "ActorTreesLaw" 73 yX8_cause ∈ xtbl := xmem (List.mem_of_getElem? (i := 992) rfl) rfl
set_option maxRecDepth 100000 in
theorem xw_808 : Cond.instanceMethod yX8_cause ∈ xtbl := xmem (List.mem_of_getElem? (i := 993) rfl) rfl
set_option maxRecDepth 100000 in
theorem xw_809 : Cond.selects "ActorTreesModel" yX8_cause yX8_cause ∈ xtbl := xmem (List.mem_of_getElem? (i := 994) rfl) rfl
set_option maxRecDepth 100000 in
theorem xw_810 : Cond.code yX7_dry prog_1_method_16_code 5 (Option.some FieldType.int) ∈ xtbl := xmem (List.mem_of_getElem? (i := 546) rfl) rfl
set_option maxRecDepth 100000 in
theorem xw_811 : Cond.methodLink "ActorTreesLaw" 74 yX7_dry ∈ xtbl := xmem (List.mem_of_getElem? (i := 543) rfl) rfl
set_option maxRecDepth 100000 in
theorem xw_812 : Cond.instanceMethod yX7_dry ∈ xtbl := xmem (List.mem_of_getElem? (i := 544) rfl) rfl
set_option maxRecDepth 100000 in
theorem xw_813 : Cond.selects "ActorTrees" yX7_dry yX7_dry ∈ xtbl := xmem (List.mem_of_getElem? (i := 545) rfl) rfl
set_option maxRecDepth 100000 in
theorem xw_814 : Cond.code yX8_dry prog_10_method_56_code 5 (Option.some FieldType.int) ∈ xtbl := xmem (List.mem_of_getElem? (i := 999) rfl) rfl
set_option maxRecDepth 100000 in
theorem xw_815 : Cond.methodLink "ActorTreesLaw" 77 yX8_dry ∈ xtbl := xmem (List.mem_of_getElem? (i := 996) rfl) rfl
set_option maxRecDepth 100000 in
theorem xw_816 : Cond.instanceMethod yX8_dry ∈ xtbl := xmem (List.mem_of_getElem? (i := 997) rfl) rfl
set_option maxRecDepth 100000 in
theorem xw_817 : Cond.selects "ActorTreesModel" yX8_dry yX8_dry ∈ xtbl := xmem (List.mem_of_getElem? (i := 998) rfl) rfl
set_option maxRecDepth 100000 in
theorem xw_818 : Cond.code yX7_first prog_1_method_17_code 2 (Option.some FieldType.int) ∈ xtbl := xmem (List.mem_of_getElem? (i := 584) rfl) rfl
set_option maxRecDepth 100000 in
theorem xw_819 : Cond.methodLink "ActorTreesLaw" 78 yX7_first ∈ xtbl := xmem (List.mem_of_getElem? (i := 581) rfl) rfl
set_option maxRecDepth 100000 in
theorem xw_820 : Cond.instanceMethod yX7_first ∈ xtbl := xmem (List.mem_of_getElem? (i := 582) rfl) rfl
set_option maxRecDepth 100000 in
theorem xw_821 : Cond.selects "ActorTrees" yX7_first yX7_first ∈ xtbl := xmem (List.mem_of_getElem? (i := 583) rfl) rfl
set_option maxRecDepth 100000 in
theorem xw_822 : Cond.code yX8_first prog_10_method_57_code 2 (Option.some FieldType.int) ∈ xtbl := xmem (List.mem_of_getElem? (i := 1006) rfl) rfl
set_option maxRecDepth 100000 in
theorem xw_823 : Cond.methodLink "ActorTreesLaw" 81 yX8_first ∈ xtbl := xmem (List.mem_of_getElem? (i := 1003) rfl) rfl
set_option maxRecDepth 100000 in
theorem xw_824 : Cond.instanceMethod yX8_first ∈ xtbl := xmem (List.mem_of_getElem? (i := 1004) rfl) rfl
set_option maxRecDepth 100000 in
theorem xw_825 : Cond.selects "ActorTreesModel" yX8_first yX8_first ∈ xtbl := xmem (List.mem_of_getElem? (i := 1005) rfl) rfl
set_option maxRecDepth 100000 in
theorem xw_826 : Cond.code yX7_quiet prog_1_method_18_code 2 (Option.some FieldType.int) ∈ xtbl := xmem (List.mem_of_getElem? (i := 589) rfl) rfl
set_option maxRecDepth 100000 in
theorem xw_827 : Cond.methodLink "ActorTreesLaw" 82 yX7_quiet ∈ xtbl := xmem (List.mem_of_getElem? (i := 586) rfl) rfl
set_option maxRecDepth 100000 in
theorem xw_828 : Cond.instanceMethod yX7_quiet ∈ xtbl := xmem (List.mem_of_getElem? (i := 587) rfl) rfl
set_option maxRecDepth 100000 in
theorem xw_829 : Cond.selects "ActorTrees" yX7_quiet yX7_quiet ∈ xtbl := xmem (List.mem_of_getElem? (i := 588) rfl) rfl
set_option maxRecDepth 100000 in
theorem xw_830 : Cond.code yX8_quiet prog_10_method_58_code 3 (Option.some FieldType.int) ∈ xtbl := xmem (List.mem_of_getElem? (i := 1010) rfl) rfl
set_option maxRecDepth 100000 in
theorem xw_831 : Cond.methodLink "ActorTreesLaw" 85 yX8_quiet ∈ xtbl := xmem (List.mem_of_getElem? (i := 1007) rfl) rfl
set_option maxRecDepth 100000 in
theorem xw_832 : Cond.instanceMethod yX8_quiet ∈ xtbl := xmem (List.mem_of_getElem? (i := 1008) rfl) rfl
set_option maxRecDepth 100000 in
theorem xw_833 : Cond.selects "ActorTreesModel" yX8_quiet yX8_quiet ∈ xtbl := xmem (List.mem_of_getElem? (i := 1009) rfl) rfl
set_option maxRecDepth 100000 in
theorem xw_834 : Cond.code yX7_would prog_1_method_19_code 5 (Option.some FieldType.int) ∈ xtbl := xmem (List.mem_of_getElem? (i := 594) rfl) rfl
set_option maxRecDepth 100000 in
theorem xw_835 : Cond.methodLink "ActorTreesLaw" 86 yX7_would ∈ xtbl := xmem (List.mem_of_getElem? (i := 591) rfl) rfl
set_option maxRecDepth 100000 in
theorem xw_836 : Cond.instanceMethod yX7_would ∈ xtbl := xmem (List.mem_of_getElem? (i := 592) rfl) rfl
set_option maxRecDepth 100000 in
theorem xw_837 : Cond.selects "ActorTrees" yX7_would yX7_would ∈ xtbl := xmem (List.mem_of_getElem? (i := 593) rfl) rfl
set_option maxRecDepth 100000 in
theorem xw_838 : Cond.code yX8_would prog_10_method_59_code 5 (Option.some FieldType.int) ∈ xtbl := xmem (List.mem_of_getElem? (i := 1014) rfl) rfl
set_option maxRecDepth 100000 in
theorem xw_839 : Cond.methodLink "ActorTreesLaw" 89 yX8_would ∈ xtbl := xmem (List.mem_of_getElem? (i := 1011) rfl) rfl
set_option maxRecDepth 100000 in
theorem xw_840 : Cond.instanceMethod yX8_would ∈ xtbl := xmem (List.mem_of_getElem? (i := 1012) rfl) rfl
set_option maxRecDepth 100000 in
theorem xw_841 : Cond.selects "ActorTreesModel" yX8_would yX8_would ∈ xtbl := xmem (List.mem_of_getElem? (i := 1013) rfl) rfl
set_option maxRecDepth 100000 in
theorem xw_842 : Cond.code yX7_brings prog_1_method_20_code 3 (Option.some FieldType.int) ∈ xtbl := xmem (List.mem_of_getElem? (i := 600) rfl) rfl
set_option maxRecDepth 100000 in
theorem xw_843 : Cond.methodLink "ActorTreesLaw" 90 yX7_brings ∈ xtbl := xmem (List.mem_of_getElem? (i := 597) rfl) rfl
set_option maxRecDepth 100000 in
theorem xw_844 : Cond.instanceMethod yX7_brings ∈ xtbl := xmem (List.mem_of_getElem? (i := 598) rfl) rfl
set_option maxRecDepth 100000 in
theorem xw_845 : Cond.selects "ActorTrees" yX7_brings yX7_brings ∈ xtbl := xmem (List.mem_of_getElem? (i := 599) rfl) rfl
set_option maxRecDepth 100000 in
theorem xw_846 : Cond.code yX8_brings prog_10_method_60_code 5 (Option.some FieldType.int) ∈ xtbl := xmem (List.mem_of_getElem? (i := 1018) rfl) rfl
set_option maxRecDepth 100000 in
theorem xw_847 : Cond.methodLink "ActorTreesLaw" 93 yX8_brings ∈ xtbl := xmem (List.mem_of_getElem? (i := 1015) rfl) rfl
set_option maxRecDepth 100000 in
theorem xw_848 : Cond.instanceMethod yX8_brings ∈ xtbl := xmem (List.mem_of_getElem? (i := 1016) rfl) rfl
set_option maxRecDepth 100000 in
theorem xw_849 : Cond.selects "ActorTreesModel" yX8_brings yX8_brings ∈ xtbl := xmem (List.mem_of_getElem? (i := 1017) rfl) rfl
set_option maxRecDepth 100000 in
theorem xw_850 : Cond.code yX7_reach prog_1_method_21_code 6 (Option.some FieldType.int) ∈ xtbl := xmem (List.mem_of_getElem? (i := 604) rfl) rfl
set_option maxRecDepth 100000 in
theorem xw_851 : Cond.methodLink "ActorTreesLaw" 94 yX7_reach ∈ xtbl := xmem (List.mem_of_getElem? (i := 601) rfl) rfl
set_option maxRecDepth 100000 in
theorem xw_852 : Cond.instanceMethod yX7_reach ∈ xtbl := xmem (List.mem_of_getElem? (i := 602) rfl) rfl
set_option maxRecDepth 100000 in
theorem xw_853 : Cond.selects "ActorTrees" yX7_reach yX7_reach ∈ xtbl := xmem (List.mem_of_getElem? (i := 603) rfl) rfl
set_option maxRecDepth 100000 in
theorem xw_854 : Cond.code yX8_reach prog_10_method_62_code 6 (Option.some FieldType.int) ∈ xtbl := xmem (List.mem_of_getElem? (i := 1022) rfl) rfl
set_option maxRecDepth 100000 in
theorem xw_855 : Cond.methodLink "ActorTreesLaw" 97 yX8_reach ∈ xtbl := xmem (List.mem_of_getElem? (i := 1019) rfl) rfl
set_option maxRecDepth 100000 in
theorem xw_856 : Cond.instanceMethod yX8_reach ∈ xtbl := xmem (List.mem_of_getElem? (i := 1020) rfl) rfl
set_option maxRecDepth 100000 in
theorem xw_857 : Cond.selects "ActorTreesModel" yX8_reach yX8_reach ∈ xtbl := xmem (List.mem_of_getElem? (i := 1021) rfl) rfl
set_option maxRecDepth 100000 in
theorem xw_858 : Cond.code yX7_feed prog_1_method_22_code 2 (Option.some FieldType.int) ∈ xtbl := xmem (List.mem_of_getElem? (i := 608) rfl) rfl
set_option maxRecDepth 100000 in
theorem xw_859 : Cond.methodLink "ActorTreesLaw" 98 yX7_feed ∈ xtbl := xmem (List.mem_of_getElem? (i := 605) rfl) rfl
set_option maxRecDepth 100000 in
theorem xw_860 : Cond.instanceMethod yX7_feed ∈ xtbl := xmem (List.mem_of_getElem? (i := 606) rfl) rfl
set_option maxRecDepth 100000 in
theorem xw_861 : Cond.selects "ActorTrees" yX7_feed yX7_feed ∈ xtbl := xmem (List.mem_of_getElem? (i := 607) rfl) rfl
set_option maxRecDepth 100000 in
theorem xw_862 : Cond.code yX8_feed prog_10_method_63_code 2 (Option.some FieldType.int) ∈ xtbl := xmem (List.mem_of_getElem? (i := 1030) rfl) rfl
set_option maxRecDepth 100000 in
theorem xw_863 : Cond.methodLink "ActorTreesLaw" 101 yX8_feed ∈ xtbl := xmem (List.mem_of_getElem? (i := 1027) rfl) rfl
set_option maxRecDepth 100000 in
theorem xw_864 : Cond.instanceMethod yX8_feed ∈ xtbl := xmem (List.mem_of_getElem? (i := 1028) rfl) rfl
set_option maxRecDepth 100000 in
theorem xw_865 : Cond.selects "ActorTreesModel" yX8_feed yX8_feed ∈ xtbl := xmem (List.mem_of_getElem? (i := 1029) rfl) rfl
set_option maxRecDepth 100000 in
theorem xw_866 : Cond.code yX7_script prog_1_method_23_code 4 (Option.some FieldType.int) ∈ xtbl := xmem (List.mem_of_getElem? (i := 613) rfl) rfl
set_option maxRecDepth 100000 in
theorem xw_867 : Cond.methodLink "ActorTreesLaw" 102 yX7_script ∈ xtbl := xmem (List.mem_of_getElem? (i := 610) rfl) rfl
set_option maxRecDepth 100000 in
theorem xw_868 : Cond.instanceMethod yX7_script ∈ xtbl := xmem (List.mem_of_getElem? (i := 611) rfl) rfl
set_option maxRecDepth 100000 in
theorem xw_869 : Cond.selects "ActorTrees" yX7_script yX7_script ∈ xtbl := xmem (List.mem_of_getElem? (i := 612) rfl) rfl
set_option maxRecDepth 100000 in
theorem xw_870 : Cond.code yX8_script prog_10_method_70_code 3 (Option.some FieldType.int) ∈ xtbl := xmem (List.mem_of_getElem? (i := 1034) rfl) rfl
set_option maxRecDepth 100000 in
theorem xw_871 : Cond.methodLink "ActorTreesLaw" 105 yX8_script ∈ xtbl := xmem (List.mem_of_getElem? (i := 1031) rfl) rfl
set_option maxRecDepth 100000 in
theorem xw_872 : Cond.instanceMethod yX8_script ∈ xtbl := xmem (List.mem_of_getElem? (i := 1032) rfl) rfl
set_option maxRecDepth 100000 in
theorem xw_873 : Cond.selects "ActorTreesModel" yX8_script yX8_script ∈ xtbl := xmem (List.mem_of_getElem? (i := 1033) rfl) rfl
set_option maxRecDepth 100000 in
theorem xw_874 : Cond.code yX7_drawn prog_1_method_24_code 5 (Option.some FieldType.int) ∈ xtbl := xmem (List.mem_of_getElem? (i := 649) rfl) rfl
set_option maxRecDepth 100000 in
theorem xw_875 : Cond.methodLink "ActorTreesLaw" 106 yX7_drawn ∈ xtbl := xmem (List.mem_of_getElem? (i := 646) rfl) rfl
set_option maxRecDepth 100000 in
theorem xw_876 : Cond.instanceMethod yX7_drawn ∈ xtbl := xmem (List.mem_of_getElem? (i := 647) rfl) rfl
set_option maxRecDepth 100000 in
theorem xw_877 : Cond.selects "ActorTrees" yX7_drawn yX7_drawn ∈ xtbl := xmem (List.mem_of_getElem? (i := 648) rfl) rfl
set_option maxRecDepth 100000 in
theorem xw_878 : Cond.code yX8_drawn prog_10_method_71_code 5 (Option.some FieldType.int) ∈ xtbl := xmem (List.mem_of_getElem? (i := 1064) rfl) rfl
set_option maxRecDepth 100000 in
theorem xw_879 : Cond.methodLink "ActorTreesLaw" 109 yX8_drawn ∈ xtbl := xmem (List.mem_of_getElem? (i := 1061) rfl) rfl
set_option maxRecDepth 100000 in
theorem xw_880 : Cond.instanceMethod yX8_drawn ∈ xtbl := xmem (List.mem_of_getElem? (i := 1062) rfl) rfl
set_option maxRecDepth 100000 in
theorem xw_881 : Cond.selects "ActorTreesModel" yX8_drawn yX8_drawn ∈ xtbl := xmem (List.mem_of_getElem? (i := 1063) rfl) rfl
set_option maxRecDepth 100000 in
theorem xw_882 : Cond.code yX7_seed prog_1_method_25_code 3 (Option.some FieldType.int) ∈ xtbl := xmem (List.mem_of_getElem? (i := 654) rfl) rfl
set_option maxRecDepth 100000 in
theorem xw_883 : Cond.methodLink "ActorTreesLaw" 110 yX7_seed ∈ xtbl := xmem (List.mem_of_getElem? (i := 651) rfl) rfl
set_option maxRecDepth 100000 in
theorem xw_884 : Cond.instanceMethod yX7_seed ∈ xtbl := xmem (List.mem_of_getElem? (i := 652) rfl) rfl
set_option maxRecDepth 100000 in
theorem xw_885 : Cond.selects "ActorTrees" yX7_seed yX7_seed ∈ xtbl := xmem (List.mem_of_getElem? (i := 653) rfl) rfl
set_option maxRecDepth 100000 in
theorem xw_886 : Cond.code yX8_seed prog_10_method_72_code 3 (Option.some FieldType.int) ∈ xtbl := xmem (List.mem_of_getElem? (i := 1069) rfl) rfl
set_option maxRecDepth 100000 in
theorem xw_887 : Cond.methodLink "ActorTreesLaw" 113 yX8_seed ∈ xtbl := xmem (List.mem_of_getElem? (i := 1066) rfl) rfl
set_option maxRecDepth 100000 in
theorem xw_888 : Cond.instanceMethod yX8_seed ∈ xtbl := xmem (List.mem_of_getElem? (i := 1067) rfl) rfl
set_option maxRecDepth 100000 in
theorem xw_889 : Cond.selects "ActorTreesModel" yX8_seed yX8_seed ∈ xtbl := xmem (List.mem_of_getElem? (i := 1068) rfl) rfl
set_option maxRecDepth 100000 in
theorem xw_890 : Cond.code yX7_order prog_1_method_26_code 4 (Option.some FieldType.int) ∈ xtbl := xmem (List.mem_of_getElem? (i := 658) rfl) rfl
set_option maxRecDepth 100000 in
theorem xw_891 : Cond.methodLink "ActorTreesLaw" 114 yX7_order ∈ xtbl := xmem (List.mem_of_getElem? (i := 655) rfl) rfl
set_option maxRecDepth 100000 in
theorem xw_892 : Cond.instanceMethod yX7_order ∈ xtbl := xmem (List.mem_of_getElem? (i := 656) rfl) rfl
set_option maxRecDepth 100000 in
theorem xw_893 : Cond.selects "ActorTrees" yX7_order yX7_order ∈ xtbl := xmem (List.mem_of_getElem? (i := 657) rfl) rfl
set_option maxRecDepth 100000 in
theorem xw_894 : Cond.code yX8_order prog_10_method_75_code 4 (Option.some FieldType.int) ∈ xtbl := xmem (List.mem_of_getElem? (i := 1073) rfl) rfl
set_option maxRecDepth 100000 in
theorem xw_895 : Cond.methodLink "ActorTreesLaw" 117 yX8_order ∈ xtbl := xmem (List.mem_of_getElem? (i := 1070) rfl) rfl
set_option maxRecDepth 100000 in
theorem xw_896 : Cond.instanceMethod yX8_order ∈ xtbl := xmem (List.mem_of_getElem? (i := 1071) rfl) rfl
set_option maxRecDepth 100000 in
theorem xw_897 : Cond.selects "ActorTreesModel" yX8_order yX8_order ∈ xtbl := xmem (List.mem_of_getElem? (i := 1072) rfl) rfl
set_option maxRecDepth 100000 in
theorem xw_898 : Cond.code yX7_image prog_1_method_27_code 1 (Option.some FieldType.int) ∈ xtbl := xmem (List.mem_of_getElem? (i := 669) rfl) rfl
set_option maxRecDepth 100000 in
theorem xw_899 : Cond.methodLink "ActorTreesLaw" 118 yX7_image ∈ xtbl := xmem (List.mem_of_getElem? (i := 666) rfl) rfl
set_option maxRecDepth 100000 in
theorem xw_900 : Cond.instanceMethod yX7_image ∈ xtbl := xmem (List.mem_of_getElem? (i := 667) rfl) rfl
set_option maxRecDepth 100000 in
theorem xw_901 : Cond.selects "ActorTrees" yX7_image yX7_image ∈ xtbl := xmem (List.mem_of_getElem? (i := 668) rfl) rfl
set_option maxRecDepth 100000 in
theorem xw_902 : Cond.code yX8_image prog_10_method_76_code 1 (Option.some FieldType.int) ∈ xtbl := xmem (List.mem_of_getElem? (i := 1085) rfl) rfl
set_option maxRecDepth 100000 in
theorem xw_903 : Cond.methodLink "ActorTreesLaw" 121 yX8_image ∈ xtbl := xmem (List.mem_of_getElem? (i := 1082) rfl) rfl
set_option maxRecDepth 100000 in
theorem xw_904 : Cond.instanceMethod yX8_image ∈ xtbl := xmem (List.mem_of_getElem? (i := 1083) rfl) rfl
set_option maxRecDepth 100000 in
theorem xw_905 : Cond.selects "ActorTreesModel" yX8_image yX8_image ∈ xtbl := xmem (List.mem_of_getElem? (i := 1084) rfl) rfl
set_option maxRecDepth 100000 in
theorem xw_906 : Cond.code yX7_back prog_1_method_28_code 2 (Option.some FieldType.int) ∈ xtbl := xmem (List.mem_of_getElem? (i := 673) rfl) rfl
set_option maxRecDepth 100000 in
theorem xw_907 : Cond.methodLink "ActorTreesLaw" 122 yX7_back ∈ xtbl := xmem (List.mem_of_getElem? (i := 670) rfl) rfl
set_option maxRecDepth 100000 in
theorem xw_908 : Cond.instanceMethod yX7_back ∈ xtbl := xmem (List.mem_of_getElem? (i := 671) rfl) rfl
set_option maxRecDepth 100000 in
theorem xw_909 : Cond.selects "ActorTrees" yX7_back yX7_back ∈ xtbl := xmem (List.mem_of_getElem? (i := 672) rfl) rfl
set_option maxRecDepth 100000 in
theorem xw_910 : Cond.code yX8_back prog_10_method_77_code 2 (Option.some FieldType.int) ∈ xtbl := xmem (List.mem_of_getElem? (i := 1089) rfl) rfl
set_option maxRecDepth 100000 in
theorem xw_911 : Cond.methodLink "ActorTreesLaw" 125 yX8_back ∈ xtbl := xmem (List.mem_of_getElem? (i := 1086) rfl) rfl
set_option maxRecDepth 100000 in
theorem xw_912 : Cond.instanceMethod yX8_back ∈ xtbl := xmem (List.mem_of_getElem? (i := 1087) rfl) rfl
set_option maxRecDepth 100000 in
theorem xw_913 : Cond.selects "ActorTreesModel" yX8_back yX8_back ∈ xtbl := xmem (List.mem_of_getElem? (i := 1088) rfl) rfl
set_option maxRecDepth 100000 in
theorem xw_914 : Cond.code yX7_hold prog_1_method_29_code 3 (Option.some FieldType.int) ∈ xtbl := xmem (List.mem_of_getElem? (i := 677) rfl) rfl
set_option maxRecDepth 100000 in
theorem xw_915 : Cond.methodLink "ActorTreesLaw" 126 yX7_hold ∈ xtbl := xmem (List.mem_of_getElem? (i := 674) rfl) rfl
set_option maxRecDepth 100000 in
theorem xw_916 : Cond.instanceMethod yX7_hold ∈ xtbl := xmem (List.mem_of_getElem? (i := 675) rfl) rfl
set_option maxRecDepth 100000 in
theorem xw_917 : Cond.selects "ActorTrees" yX7_hold yX7_hold ∈ xtbl := xmem (List.mem_of_getElem? (i := 676) rfl) rfl
set_option maxRecDepth 100000 in
theorem xw_918 : Cond.code yX8_hold prog_10_method_78_code 3 (Option.some FieldType.int) ∈ xtbl := xmem (List.mem_of_getElem? (i := 1093) rfl) rfl
set_option maxRecDepth 100000 in
theorem xw_919 : Cond.methodLink "ActorTreesLaw" 129 yX8_hold ∈ xtbl := xmem (List.mem_of_getElem? (i := 1090) rfl) rfl
set_option maxRecDepth 100000 in
theorem xw_920 : Cond.instanceMethod yX8_hold ∈ xtbl := xmem (List.mem_of_getElem? (i := 1091) rfl) rfl
set_option maxRecDepth 100000 in
theorem xw_921 : Cond.selects "ActorTreesModel" yX8_hold yX8_hold ∈ xtbl := xmem (List.mem_of_getElem? (i := 1092) rfl) rfl
set_option maxRecDepth 100000 in
theorem xw_922 : Cond.code yX7_row prog_1_method_30_code 3 (Option.some FieldType.int) ∈ xtbl := xmem (List.mem_of_getElem? (i := 681) rfl) rfl
set_option maxRecDepth 100000 in
theorem xw_923 : Cond.methodLink "ActorTreesLaw" 130 yX7_row ∈ xtbl := xmem (List.mem_of_getElem? (i := 678) rfl) rfl
set_option maxRecDepth 100000 in
theorem xw_924 : Cond.instanceMethod yX7_row ∈ xtbl := xmem (List.mem_of_getElem? (i := 679) rfl) rfl
set_option maxRecDepth 100000 in
theorem xw_925 : Cond.selects "ActorTrees" yX7_row yX7_row ∈ xtbl := xmem (List.mem_of_getElem? (i := 680) rfl) rfl
set_option maxRecDepth 100000 in
theorem xw_926 : Cond.code yX8_row prog_10_method_79_code 4 (Option.some FieldType.int) ∈ xtbl := xmem (List.mem_of_getElem? (i := 1097) rfl) rfl
set_option maxRecDepth 100000 in
theorem xw_927 : Cond.methodLink "ActorTreesLaw" 133 yX8_row ∈ xtbl := xmem (List.mem_of_getElem? (i := 1094) rfl) rfl
set_option maxRecDepth 100000 in
theorem xw_928 : Cond.instanceMethod yX8_row ∈ xtbl := xmem (List.mem_of_getElem? (i := 1095) rfl) rfl
set_option maxRecDepth 100000 in
theorem xw_929 : Cond.selects "ActorTreesModel" yX8_row yX8_row ∈ xtbl := xmem (List.mem_of_getElem? (i := 1096) rfl) rfl
set_option maxRecDepth 100000 in
theorem xw_930 : Cond.code yX7_put prog_1_method_31_code 6 (Option.some FieldType.int) ∈ xtbl := xmem (List.mem_of_getElem? (i := 689) rfl) rfl
set_option maxRecDepth 100000 in
theorem xw_931 : Cond.methodLink "ActorTreesLaw" 134 yX7_put ∈ xtbl := xmem (List.mem_of_getElem? (i := 686) rfl) rfl
set_option maxRecDepth 100000 in
theorem xw_932 : Cond.instanceMethod yX7_put ∈ xtbl := xmem (List.mem_of_getElem? (i := 687) rfl) rfl
set_option maxRecDepth 100000 in
theorem xw_933 : Cond.selects "ActorTrees" yX7_put yX7_put ∈ xtbl := xmem (List.mem_of_getElem? (i := 688) rfl) rfl
set_option maxRecDepth 100000 in
theorem xw_934 : Cond.code yX8_put prog_10_method_80_code 5 (Option.some FieldType.int) ∈ xtbl := xmem (List.mem_of_getElem? (i := 1101) rfl) rfl
set_option maxRecDepth 100000 in
theorem xw_935 : Cond.methodLink "ActorTreesLaw" 137 yX8_put ∈ xtbl := xmem (List.mem_of_getElem? (i := 1098) rfl) rfl
set_option maxRecDepth 100000 in
theorem xw_936 : Cond.instanceMethod yX8_put ∈ xtbl := xmem (List.mem_of_getElem? (i := 1099) rfl) rfl
set_option maxRecDepth 100000 in
theorem xw_937 : Cond.selects "ActorTreesModel" yX8_put yX8_put ∈ xtbl := xmem (List.mem_of_getElem? (i := 1100) rfl) rfl
set_option maxRecDepth 100000 in
theorem xw_938 : Cond.code yX7_tells prog_1_method_32_code 6 (Option.some FieldType.int) ∈ xtbl := xmem (List.mem_of_getElem? (i := 697) rfl) rfl
set_option maxRecDepth 100000 in
theorem xw_939 : Cond.methodLink "ActorTreesLaw" 138 yX7_tells ∈ xtbl := xmem (List.mem_of_getElem? (i := 694) rfl) rfl
set_option maxRecDepth 100000 in
theorem xw_940 : Cond.instanceMethod yX7_tells ∈ xtbl := xmem (List.mem_of_getElem? (i := 695) rfl) rfl
set_option maxRecDepth 100000 in
theorem xw_941 : Cond.selects "ActorTrees" yX7_tells yX7_tells ∈ xtbl := xmem (List.mem_of_getElem? (i := 696) rfl) rfl
set_option maxRecDepth 100000 in
theorem xw_942 : Cond.code yX8_tells prog_10_method_81_code 5 (Option.some FieldType.int) ∈ xtbl := xmem (List.mem_of_getElem? (i := 1105) rfl) rfl
set_option maxRecDepth 100000 in
theorem xw_943 : Cond.methodLink "ActorTreesLaw" 141 yX8_tells ∈ xtbl := xmem (List.mem_of_getElem? (i := 1102) rfl) rfl
set_option maxRecDepth 100000 in
theorem xw_944 : Cond.instanceMethod yX8_tells ∈ xtbl := xmem (List.mem_of_getElem? (i := 1103) rfl) rfl
set_option maxRecDepth 100000 in
theorem xw_945 : Cond.selects "ActorTreesModel" yX8_tells yX8_tells ∈ xtbl := xmem (List.mem_of_getElem? (i := 1104) rfl) rfl
set_option maxRecDepth 100000 in
theorem xw_946 : Cond.code yX7_count prog_1_method_33_code 2 (Option.some FieldType.int) ∈ xtbl := xmem (List.mem_of_getElem? (i := 708) rfl) rfl
set_option maxRecDepth 100000 in
theorem xw_947 : Cond.methodLink "ActorTreesLaw" 142 yX7_count ∈ xtbl := xmem (List.mem_of_getElem? (i := 705) rfl) rfl
set_option maxRecDepth 100000 in
theorem xw_948 : Cond.instanceMethod yX7_count ∈ xtbl := xmem (List.mem_of_getElem? (i := 706) rfl) rfl
set_option maxRecDepth 100000 in
theorem xw_949 : Cond.selects "ActorTrees" yX7_count yX7_count ∈ xtbl := xmem (List.mem_of_getElem? (i := 707) rfl) rfl
set_option maxRecDepth 100000 in
theorem xw_950 : Cond.code yX8_count prog_10_method_82_code 4 (Option.some FieldType.int) ∈ xtbl := xmem (List.mem_of_getElem? (i := 1110) rfl) rfl
set_option maxRecDepth 100000 in
theorem xw_951 : Cond.methodLink "ActorTreesLaw" 145 yX8_count ∈ xtbl := xmem (List.mem_of_getElem? (i := 1107) rfl) rfl
set_option maxRecDepth 100000 in
theorem xw_952 : Cond.instanceMethod yX8_count ∈ xtbl := xmem (List.mem_of_getElem? (i := 1108) rfl) rfl
set_option maxRecDepth 100000 in
theorem xw_953 : Cond.selects "ActorTreesModel" yX8_count yX8_count ∈ xtbl := xmem (List.mem_of_getElem? (i := 1109) rfl) rfl
abbrev xcalD (mid k nargs : Nat) : Prop := (nargs ≤ (xm mid).2.2.1 ∧ (xm mid).2.2.1 ≤ 100 ∧ plainName (xm mid).1.cls = true ∧ (xm mid).1.name ≠ "law") ∧ ((xm mid).1.cls ≠ "java/lang/invoke/MethodHandle" ∧ (xm mid).1.cls ≠ "java/lang/invoke/VarHandle") ∧ (parseMethodDescriptor (xm mid).1.desc).map (fun d => d.parameters.length) = some k
theorem xcal_of {mid k nargs : Nat} (h : xcalD mid k nargs) (h1 : Cond.code (xm mid).1 (xm mid).2.1 (xm mid).2.2.1 (xm mid).2.2.2 ∈ xtbl) (h2 : Cond.initialized (xm mid).1.cls ∈ xtbl) : XCal xm mid k nargs := ⟨h.1.1, h.1.2.1, h.1.2.2.1, h.1.2.2.2, h1, h2, h.2.1, h.2.2⟩
theorem cal_3 : XCal xm 3 0 1 := xcal_of (by decide +kernel) xw_9 xw_10
theorem cal_8 : XCal xm 8 1 2 := xcal_of (by decide +kernel) xw_18 xw_19
theorem cal_17 : XCal xm 17 1 2 := xcal_of (by decide +kernel) xw_23 xw_24
theorem cal_12 : XCal xm 12 1 2 := xcal_of (by decide +kernel) xw_34 xw_19
theorem cal_19 : XCal xm 19 1 2 := xcal_of (by decide +kernel) xw_39 xw_24
theorem cal_5 : XCal xm 5 1 2 := xcal_of (by decide +kernel) xw_42 xw_19
theorem cal_21 : XCal xm 21 0 1 := xcal_of (by decide +kernel) xw_68 xw_24
theorem cal_15 : XCal xm 15 2 3 := xcal_of (by decide +kernel) xw_72 xw_24
theorem cal_28 : XCal xm 28 0 1 := xcal_of (by decide +kernel) xw_81 xw_82
theorem cal_27 : XCal xm 27 0 1 := xcal_of (by decide +kernel) xw_86 xw_82
theorem cal_6 : XCal xm 6 1 2 := xcal_of (by decide +kernel) xw_91 xw_19
theorem cal_29 : XCal xm 29 1 2 := xcal_of (by decide +kernel) xw_101 xw_82
theorem cal_26 : XCal xm 26 1 2 := xcal_of (by decide +kernel) xw_105 xw_82
theorem cal_25 : XCal xm 25 0 1 := xcal_of (by decide +kernel) xw_109 xw_82
theorem cal_34 : XCal xm 34 2 3 := xcal_of (by decide +kernel) xw_122 xw_123
theorem cal_53 : XCal xm 53 1 2 := xcal_of (by decide +kernel) xw_128 xw_129
theorem cal_54 : XCal xm 54 1 2 := xcal_of (by decide +kernel) xw_133 xw_129
theorem cal_0 : XCal xm 0 2 3 := xcal_of (by decide +kernel) xw_138 xw_10
theorem cal_1 : XCal xm 1 1 2 := xcal_of (by decide +kernel) xw_146 xw_10
theorem cal_30 : XCal xm 30 1 2 := xcal_of (by decide +kernel) xw_151 xw_123
theorem cal_45 : XCal xm 45 3 4 := xcal_of (by decide +kernel) xw_167 xw_129
theorem cal_44 : XCal xm 44 4 5 := xcal_of (by decide +kernel) xw_171 xw_129
theorem cal_64 : XCal xm 64 3 4 := xcal_of (by decide +kernel) xw_176 xw_129
theorem cal_63 : XCal xm 63 3 4 := xcal_of (by decide +kernel) xw_180 xw_129
theorem cal_66 : XCal xm 66 1 2 := xcal_of (by decide +kernel) xw_186 xw_129
theorem cal_39 : XCal xm 39 3 4 := xcal_of (by decide +kernel) xw_191 xw_123
theorem cal_67 : XCal xm 67 2 3 := xcal_of (by decide +kernel) xw_195 xw_129
theorem cal_49 : XCal xm 49 1 2 := xcal_of (by decide +kernel) xw_199 xw_129
theorem cal_56 : XCal xm 56 1 2 := xcal_of (by decide +kernel) xw_205 xw_129
theorem cal_57 : XCal xm 57 2 3 := xcal_of (by decide +kernel) xw_209 xw_129
theorem cal_62 : XCal xm 62 1 2 := xcal_of (by decide +kernel) xw_213 xw_129
theorem cal_36 : XCal xm 36 1 2 := xcal_of (by decide +kernel) xw_218 xw_123
theorem cal_35 : XCal xm 35 1 2 := xcal_of (by decide +kernel) xw_222 xw_123
theorem cal_32 : XCal xm 32 1 2 := xcal_of (by decide +kernel) xw_226 xw_123
theorem cal_37 : XCal xm 37 0 1 := xcal_of (by decide +kernel) xw_230 xw_123
theorem cal_55 : XCal xm 55 2 3 := xcal_of (by decide +kernel) xw_234 xw_129
theorem cal_48 : XCal xm 48 1 2 := xcal_of (by decide +kernel) xw_238 xw_129
theorem cal_38 : XCal xm 38 1 2 := xcal_of (by decide +kernel) xw_245 xw_123
theorem cal_13 : XCal xm 13 1 2 := xcal_of (by decide +kernel) xw_250 xw_19
theorem cal_61 : XCal xm 61 0 1 := xcal_of (by decide +kernel) xw_254 xw_129
theorem cal_50 : XCal xm 50 0 1 := xcal_of (by decide +kernel) xw_258 xw_129
theorem cal_33 : XCal xm 33 0 1 := xcal_of (by decide +kernel) xw_266 xw_123
theorem cal_2 : XCal xm 2 0 1 := xcal_of (by decide +kernel) xw_271 xw_10
theorem cal_14 : XCal xm 14 1 2 := xcal_of (by decide +kernel) xw_274 xw_19
theorem cal_51 : XCal xm 51 0 1 := xcal_of (by decide +kernel) xw_278 xw_129
theorem cal_65 : XCal xm 65 0 1 := xcal_of (by decide +kernel) xw_282 xw_129
theorem cal_47 : XCal xm 47 0 1 := xcal_of (by decide +kernel) xw_287 xw_129
theorem cal_18 : XCal xm 18 1 2 := xcal_of (by decide +kernel) xw_291 xw_24
theorem cal_22 : XCal xm 22 1 2 := xcal_of (by decide +kernel) xw_295 xw_24
theorem cal_16 : XCal xm 16 2 3 := xcal_of (by decide +kernel) xw_300 xw_24
theorem cal_43 : XCal xm 43 3 4 := xcal_of (by decide +kernel) xw_304 xw_129
theorem cal_46 : XCal xm 46 2 3 := xcal_of (by decide +kernel) xw_308 xw_129
theorem cal_20 : XCal xm 20 1 2 := xcal_of (by decide +kernel) xw_312 xw_24
theorem cal_11 : XCal xm 11 1 2 := xcal_of (by decide +kernel) xw_316 xw_19
theorem cal_40 : XCal xm 40 5 6 := xcal_of (by decide +kernel) xw_321 xw_129
theorem cal_42 : XCal xm 42 1 2 := xcal_of (by decide +kernel) xw_327 xw_129
theorem cal_58 : XCal xm 58 0 1 := xcal_of (by decide +kernel) xw_341 xw_129
theorem cal_189 : XCal xm 189 1 1 := xcal_of (by decide +kernel) xw_349 xw_350
theorem cal_59 : XCal xm 59 0 1 := xcal_of (by decide +kernel) xw_353 xw_129
theorem cal_86 : XCal xm 86 1 1 := xcal_of (by decide +kernel) xw_376 xw_377
theorem cal_60 : XCal xm 60 1 2 := xcal_of (by decide +kernel) xw_380 xw_129
theorem cal_84 : XCal xm 84 1 1 := xcal_of (by decide +kernel) xw_388 xw_377
theorem cal_52 : XCal xm 52 0 1 := xcal_of (by decide +kernel) xw_394 xw_129
theorem cal_24 : XCal xm 24 0 1 := xcal_of (by decide +kernel) xw_400 xw_82
theorem cal_4 : XCal xm 4 0 1 := xcal_of (by decide +kernel) xw_405 xw_404
theorem cal_31 : XCal xm 31 1 2 := xcal_of (by decide +kernel) xw_417 xw_123
theorem cal_9 : XCal xm 9 1 2 := xcal_of (by decide +kernel) xw_422 xw_19
theorem cal_41 : XCal xm 41 1 2 := xcal_of (by decide +kernel) xw_426 xw_129
theorem cal_80 : XCal xm 80 2 3 := xcal_of (by decide +kernel) xw_431 xw_377
theorem cal_7 : XCal xm 7 2 3 := xcal_of (by decide +kernel) xw_435 xw_19
theorem cal_10 : XCal xm 10 1 2 := xcal_of (by decide +kernel) xw_440 xw_19
theorem cal_23 : XCal xm 23 0 1 := xcal_of (by decide +kernel) xw_444 xw_82
theorem cal_74 : XCal xm 74 0 1 := xcal_of (by decide +kernel) xw_449 xw_377
theorem cal_87 : XCal xm 87 2 2 := xcal_of (by decide +kernel) xw_453 xw_377
theorem cal_85 : XCal xm 85 1 1 := xcal_of (by decide +kernel) xw_457 xw_377
theorem cal_112 : XCal xm 112 3 4 := xcal_of (by decide +kernel) xw_465 xw_466
theorem cal_172 : XCal xm 172 3 4 := xcal_of (by decide +kernel) xw_471 xw_466
theorem cal_179 : XCal xm 179 2 2 := xcal_of (by decide +kernel) xw_477 xw_466
theorem cal_136 : XCal xm 136 1 2 := xcal_of (by decide +kernel) xw_482 xw_466
theorem cal_134 : XCal xm 134 3 3 := xcal_of (by decide +kernel) xw_486 xw_466
theorem cal_140 : XCal xm 140 1 2 := xcal_of (by decide +kernel) xw_489 xw_466
theorem cal_147 : XCal xm 147 0 1 := xcal_of (by decide +kernel) xw_495 xw_466
theorem cal_125 : XCal xm 125 2 3 := xcal_of (by decide +kernel) xw_500 xw_466
theorem cal_145 : XCal xm 145 1 1 := xcal_of (by decide +kernel) xw_504 xw_466
theorem cal_108 : XCal xm 108 2 3 := xcal_of (by decide +kernel) xw_507 xw_466
theorem cal_110 : XCal xm 110 1 1 := xcal_of (by decide +kernel) xw_511 xw_466
theorem cal_121 : XCal xm 121 1 2 := xcal_of (by decide +kernel) xw_515 xw_466
theorem cal_159 : XCal xm 159 3 4 := xcal_of (by decide +kernel) xw_519 xw_466
theorem cal_171 : XCal xm 171 3 4 := xcal_of (by decide +kernel) xw_523 xw_466
theorem cal_132 : XCal xm 132 3 4 := xcal_of (by decide +kernel) xw_527 xw_466
theorem cal_178 : XCal xm 178 2 3 := xcal_of (by decide +kernel) xw_531 xw_466
theorem cal_119 : XCal xm 119 2 3 := xcal_of (by decide +kernel) xw_535 xw_466
theorem cal_187 : XCal xm 187 2 3 := xcal_of (by decide +kernel) xw_539 xw_466
theorem cal_176 : XCal xm 176 1 2 := xcal_of (by decide +kernel) xw_543 xw_466
theorem cal_107 : XCal xm 107 3 4 := xcal_of (by decide +kernel) xw_548 xw_466
theorem cal_165 : XCal xm 165 1 2 := xcal_of (by decide +kernel) xw_552 xw_466
theorem cal_166 : XCal xm 166 1 2 := xcal_of (by decide +kernel) xw_557 xw_466
theorem cal_144 : XCal xm 144 1 2 := xcal_of (by decide +kernel) xw_565 xw_466
theorem cal_141 : XCal xm 141 2 3 := xcal_of (by decide +kernel) xw_569 xw_466
theorem cal_163 : XCal xm 163 1 2 := xcal_of (by decide +kernel) xw_573 xw_466
theorem cal_137 : XCal xm 137 2 3 := xcal_of (by decide +kernel) xw_578 xw_466
theorem cal_174 : XCal xm 174 0 1 := xcal_of (by decide +kernel) xw_582 xw_466
theorem cal_153 : XCal xm 153 0 1 := xcal_of (by decide +kernel) xw_586 xw_466
theorem cal_139 : XCal xm 139 1 2 := xcal_of (by decide +kernel) xw_590 xw_466
theorem cal_115 : XCal xm 115 1 2 := xcal_of (by decide +kernel) xw_594 xw_466
theorem cal_130 : XCal xm 130 0 1 := xcal_of (by decide +kernel) xw_605 xw_466
theorem cal_146 : XCal xm 146 0 1 := xcal_of (by decide +kernel) xw_611 xw_466
theorem cal_152 : XCal xm 152 2 3 := xcal_of (by decide +kernel) xw_615 xw_466
theorem cal_154 : XCal xm 154 2 3 := xcal_of (by decide +kernel) xw_619 xw_466
theorem cal_169 : XCal xm 169 2 3 := xcal_of (by decide +kernel) xw_623 xw_466
theorem cal_155 : XCal xm 155 1 2 := xcal_of (by decide +kernel) xw_627 xw_466
theorem cal_184 : XCal xm 184 1 1 := xcal_of (by decide +kernel) xw_631 xw_466
theorem cal_151 : XCal xm 151 3 4 := xcal_of (by decide +kernel) xw_635 xw_466
theorem cal_183 : XCal xm 183 1 2 := xcal_of (by decide +kernel) xw_639 xw_466
theorem cal_114 : XCal xm 114 1 2 := xcal_of (by decide +kernel) xw_643 xw_466
theorem cal_158 : XCal xm 158 2 3 := xcal_of (by decide +kernel) xw_647 xw_466
theorem cal_142 : XCal xm 142 2 3 := xcal_of (by decide +kernel) xw_651 xw_466
theorem cal_177 : XCal xm 177 1 2 := xcal_of (by decide +kernel) xw_655 xw_466
theorem cal_129 : XCal xm 129 1 2 := xcal_of (by decide +kernel) xw_659 xw_466
theorem cal_138 : XCal xm 138 0 1 := xcal_of (by decide +kernel) xw_663 xw_466
theorem cal_120 : XCal xm 120 1 2 := xcal_of (by decide +kernel) xw_667 xw_466
theorem cal_149 : XCal xm 149 2 3 := xcal_of (by decide +kernel) xw_671 xw_466
theorem cal_118 : XCal xm 118 3 4 := xcal_of (by decide +kernel) xw_675 xw_466
theorem cal_128 : XCal xm 128 0 1 := xcal_of (by decide +kernel) xw_679 xw_466
theorem cal_185 : XCal xm 185 1 2 := xcal_of (by decide +kernel) xw_683 xw_466
theorem cal_143 : XCal xm 143 1 1 := xcal_of (by decide +kernel) xw_687 xw_466
theorem cal_83 : XCal xm 83 0 1 := xcal_of (by decide +kernel) xw_696 xw_377
theorem cal_135 : XCal xm 135 0 1 := xcal_of (by decide +kernel) xw_701 xw_466
theorem cal_68 : XCal xm 68 3 4 := xcal_of (by decide +kernel) xw_704 xw_377
theorem cal_102 : XCal xm 102 3 4 := xcal_of (by decide +kernel) xw_709 xw_377
theorem cal_180 : XCal xm 180 3 4 := xcal_of (by decide +kernel) xw_713 xw_466
theorem cal_90 : XCal xm 90 2 3 := xcal_of (by decide +kernel) xw_717 xw_377
theorem cal_156 : XCal xm 156 2 3 := xcal_of (by decide +kernel) xw_721 xw_466
theorem cal_73 : XCal xm 73 1 2 := xcal_of (by decide +kernel) xw_725 xw_377
theorem cal_117 : XCal xm 117 1 2 := xcal_of (by decide +kernel) xw_729 xw_466
theorem cal_89 : XCal xm 89 3 4 := xcal_of (by decide +kernel) xw_733 xw_377
theorem cal_150 : XCal xm 150 3 4 := xcal_of (by decide +kernel) xw_737 xw_466
theorem cal_99 : XCal xm 99 3 4 := xcal_of (by decide +kernel) xw_741 xw_377
theorem cal_170 : XCal xm 170 3 4 := xcal_of (by decide +kernel) xw_745 xw_466
theorem cal_100 : XCal xm 100 2 3 := xcal_of (by decide +kernel) xw_749 xw_377
theorem cal_173 : XCal xm 173 2 3 := xcal_of (by decide +kernel) xw_753 xw_466
theorem cal_105 : XCal xm 105 2 3 := xcal_of (by decide +kernel) xw_757 xw_377
theorem cal_186 : XCal xm 186 2 3 := xcal_of (by decide +kernel) xw_761 xw_466
theorem cal_104 : XCal xm 104 2 3 := xcal_of (by decide +kernel) xw_765 xw_377
theorem cal_182 : XCal xm 182 2 3 := xcal_of (by decide +kernel) xw_769 xw_466
theorem cal_101 : XCal xm 101 1 2 := xcal_of (by decide +kernel) xw_773 xw_377
theorem cal_175 : XCal xm 175 1 2 := xcal_of (by decide +kernel) xw_777 xw_466
theorem cal_96 : XCal xm 96 1 2 := xcal_of (by decide +kernel) xw_781 xw_377
theorem cal_77 : XCal xm 77 0 1 := xcal_of (by decide +kernel) xw_786 xw_377
theorem cal_124 : XCal xm 124 0 1 := xcal_of (by decide +kernel) xw_790 xw_466
theorem cal_88 : XCal xm 88 1 2 := xcal_of (by decide +kernel) xw_794 xw_377
theorem cal_148 : XCal xm 148 1 2 := xcal_of (by decide +kernel) xw_798 xw_466
theorem cal_71 : XCal xm 71 2 3 := xcal_of (by decide +kernel) xw_802 xw_377
theorem cal_113 : XCal xm 113 2 3 := xcal_of (by decide +kernel) xw_806 xw_466
theorem cal_76 : XCal xm 76 2 3 := xcal_of (by decide +kernel) xw_810 xw_377
theorem cal_123 : XCal xm 123 2 3 := xcal_of (by decide +kernel) xw_814 xw_466
theorem cal_79 : XCal xm 79 0 1 := xcal_of (by decide +kernel) xw_818 xw_377
theorem cal_127 : XCal xm 127 0 1 := xcal_of (by decide +kernel) xw_822 xw_466
theorem cal_93 : XCal xm 93 0 1 := xcal_of (by decide +kernel) xw_826 xw_377
theorem cal_161 : XCal xm 161 0 1 := xcal_of (by decide +kernel) xw_830 xw_466
theorem cal_106 : XCal xm 106 3 4 := xcal_of (by decide +kernel) xw_834 xw_377
theorem cal_188 : XCal xm 188 3 4 := xcal_of (by decide +kernel) xw_838 xw_466
theorem cal_70 : XCal xm 70 2 3 := xcal_of (by decide +kernel) xw_842 xw_377
theorem cal_111 : XCal xm 111 2 3 := xcal_of (by decide +kernel) xw_846 xw_466
theorem cal_94 : XCal xm 94 2 3 := xcal_of (by decide +kernel) xw_850 xw_377
theorem cal_162 : XCal xm 162 2 3 := xcal_of (by decide +kernel) xw_854 xw_466
theorem cal_78 : XCal xm 78 1 2 := xcal_of (by decide +kernel) xw_858 xw_377
theorem cal_126 : XCal xm 126 1 2 := xcal_of (by decide +kernel) xw_862 xw_466
theorem cal_97 : XCal xm 97 0 1 := xcal_of (by decide +kernel) xw_866 xw_377
theorem cal_167 : XCal xm 167 0 1 := xcal_of (by decide +kernel) xw_870 xw_466
theorem cal_75 : XCal xm 75 1 2 := xcal_of (by decide +kernel) xw_874 xw_377
theorem cal_122 : XCal xm 122 1 2 := xcal_of (by decide +kernel) xw_878 xw_466
theorem cal_98 : XCal xm 98 1 2 := xcal_of (by decide +kernel) xw_882 xw_377
theorem cal_168 : XCal xm 168 1 2 := xcal_of (by decide +kernel) xw_886 xw_466
theorem cal_91 : XCal xm 91 2 3 := xcal_of (by decide +kernel) xw_890 xw_377
theorem cal_157 : XCal xm 157 2 3 := xcal_of (by decide +kernel) xw_894 xw_466
theorem cal_82 : XCal xm 82 0 1 := xcal_of (by decide +kernel) xw_898 xw_377
theorem cal_133 : XCal xm 133 0 1 := xcal_of (by decide +kernel) xw_902 xw_466
theorem cal_69 : XCal xm 69 0 1 := xcal_of (by decide +kernel) xw_906 xw_377
theorem cal_109 : XCal xm 109 0 1 := xcal_of (by decide +kernel) xw_910 xw_466
theorem cal_81 : XCal xm 81 2 3 := xcal_of (by decide +kernel) xw_914 xw_377
theorem cal_131 : XCal xm 131 2 3 := xcal_of (by decide +kernel) xw_918 xw_466
theorem cal_95 : XCal xm 95 2 3 := xcal_of (by decide +kernel) xw_922 xw_377
theorem cal_164 : XCal xm 164 2 3 := xcal_of (by decide +kernel) xw_926 xw_466
theorem cal_92 : XCal xm 92 3 4 := xcal_of (by decide +kernel) xw_930 xw_377
theorem cal_160 : XCal xm 160 3 4 := xcal_of (by decide +kernel) xw_934 xw_466
theorem cal_103 : XCal xm 103 2 3 := xcal_of (by decide +kernel) xw_938 xw_377
theorem cal_181 : XCal xm 181 2 3 := xcal_of (by decide +kernel) xw_942 xw_466
theorem cal_72 : XCal xm 72 1 2 := xcal_of (by decide +kernel) xw_946 xw_377
theorem cal_116 : XCal xm 116 1 2 := xcal_of (by decide +kernel) xw_950 xw_466
end
section
/-! 09a: the code, instruction by instruction -/
theorem dX0_begin_0 : decode cX0_begin 0 = .ok (.aload_n 0, 1) := by decide +kernel
theorem dX0_begin_1 : decode cX0_begin 1 = .ok (.iload_n 1, 1) := by decide +kernel
theorem dX0_begin_2 : decode cX0_begin 2 = .ok (.putfield 36, 3) := by decide +kernel
theorem dX0_begin_5 : decode cX0_begin 5 = .ok (.aload_n 0, 1) := by decide +kernel
theorem dX0_begin_6 : decode cX0_begin 6 = .ok (.iload_n 2, 1) := by decide +kernel
theorem dX0_begin_7 : decode cX0_begin 7 = .ok (.putfield 40, 3) := by decide +kernel
theorem dX0_begin_10 : decode cX0_begin 10 = .ok (.aload_n 0, 1) := by decide +kernel
theorem dX0_begin_11 : decode cX0_begin 11 = .ok (.iconst 0, 1) := by decide +kernel
theorem dX0_begin_12 : decode cX0_begin 12 = .ok (.putfield 43, 3) := by decide +kernel
theorem dX0_begin_15 : decode cX0_begin 15 = .ok (.aload_n 0, 1) := by decide +kernel
theorem dX0_begin_16 : decode cX0_begin 16 = .ok (.iconst 1, 1) := by decide +kernel
theorem dX0_begin_17 : decode cX0_begin 17 = .ok (.putfield 46, 3) := by decide +kernel
theorem dX0_begin_20 : decode cX0_begin 20 = .ok (.aload_n 0, 1) := by decide +kernel
theorem dX0_begin_21 : decode cX0_begin 21 = .ok (.getfield 23, 3) := by decide +kernel
theorem dX0_begin_24 : decode cX0_begin 24 = .ok (.iconst 0, 1) := by decide +kernel
theorem dX0_begin_25 : decode cX0_begin 25 = .ok (.putfield 50, 3) := by decide +kernel
theorem dX0_begin_28 : decode cX0_begin 28 = .ok (.aload_n 0, 1) := by decide +kernel
theorem dX0_begin_29 : decode cX0_begin 29 = .ok (.getfield 27, 3) := by decide +kernel
theorem dX0_begin_32 : decode cX0_begin 32 = .ok (.iconst 0, 1) := by decide +kernel
theorem dX0_begin_33 : decode cX0_begin 33 = .ok (.putfield 50, 3) := by decide +kernel
def k0_0 : List (Nat × XI) := [(0, x_aload 0 1), (1, x_iload 1 2), (2, x_putI 0 0 5), (5, x_aload 0 6), (6, x_iload 2 7), (7, x_putI 0 1 10), (10, x_aload 0 11), (11, x_push (0) 12), (12, x_putI 0 5 15), (15, x_aload 0 16), (16, x_push (1) 17), (17, x_putZ 0 6 20), (20, x_aload 0 21), (21, x_getR 0 8 24), (24, x_push (0) 25), (25, x_putI 3 2 28), (28, x_aload 0 29), (29, x_getR 0 9 32), (32, x_push (0) 33), (33, x_putI 3 2 36)]
theorem o0_0 (scr : Nat × (Nat → Int32)) : ∀ q ∈ k0_0, XSnd xm scr Y0 q.1 q.2 := xcons (s_aload_n rfl dX0_begin_0) (xcons (s_iload_n rfl dX0_begin_1) (xcons (s_putI (f := 0) xC0 (by decide) xw_0 rfl (Or.inl rfl) dX0_begin_2) (xcons (s_aload_n rfl dX0_begin_5) (xcons (s_iload_n rfl dX0_begin_6) (xcons (s_putI (f := 1) xC0 (by decide) xw_1 rfl (Or.inl rfl) dX0_begin_7) (xcons (s_aload_n rfl dX0_begin_10) (xcons (s_iconst dX0_begin_11 rfl) (xcons (s_putI (f := 5) xC0 (by decide) xw_2 rfl (Or.inl rfl) dX0_begin_12) (xcons (s_aload_n rfl dX0_begin_15) (xcons (s_iconst dX0_begin_16 rfl) (xcons (s_putZ (f := 6) xC0 (by decide) xw_3 rfl (Or.inl rfl) dX0_begin_17) (xcons (s_aload_n rfl dX0_begin_20) (xcons (s_getR (f := 8) xC0 (by decide) xw_4 rfl dX0_begin_21) (xcons (s_iconst dX0_begin_24 rfl) (xcons (s_putI (f := 2) xC3 (by decide) xw_5 rfl (Or.inl rfl) dX0_begin_25) (xcons (s_aload_n rfl dX0_begin_28) (xcons (s_getR (f := 9) xC0 (by decide) xw_6 rfl dX0_begin_29) (xcons (s_iconst dX0_begin_32 rfl) (xcons (s_putI (f := 2) xC3 (by decide) xw_5 rfl (Or.inl rfl) dX0_begin_33) (xnil))))))))))))))))))))
theorem dX0_begin_36 : decode cX0_begin 36 = .ok (.aload_n 0, 1) := by decide +kernel
theorem dX0_begin_37 : decode cX0_begin 37 = .ok (.getfield 30, 3) := by decide +kernel
theorem dX0_begin_40 : decode cX0_begin 40 = .ok (.iconst 0, 1) := by decide +kernel
theorem dX0_begin_41 : decode cX0_begin 41 = .ok (.putfield 53, 3) := by decide +kernel
theorem dX0_begin_44 : decode cX0_begin 44 = .ok (.aload_n 0, 1) := by decide +kernel
theorem dX0_begin_45 : decode cX0_begin 45 = .ok (.invokevirtual 54, 3) := by decide +kernel
theorem dX0_begin_48 : decode cX0_begin 48 = .ok (.return_, 1) := by decide +kernel
def k0_1 : List (Nat × XI) := [(36, x_aload 0 37), (37, x_getR 0 10 40), (40, x_push (0) 41), (41, x_putI 2 1 44), (44, x_aload 0 45), (45, x_inv 3 0 0 48), (48, x_ret)]
theorem o0_1 (scr : Nat × (Nat → Int32)) : ∀ q ∈ k0_1, XSnd xm scr Y0 q.1 q.2 := xcons (s_aload_n rfl dX0_begin_36) (xcons (s_getR (f := 10) xC0 (by decide) xw_7 rfl dX0_begin_37) (xcons (s_iconst dX0_begin_40 rfl) (xcons (s_putI (f := 1) xC2 (by decide) xw_8 rfl (Or.inl rfl) dX0_begin_41) (xcons (s_aload_n rfl dX0_begin_44) (xcons (s_inv (mid := 3) xC0 cal_3 xw_11 xw_12 xw_13 dX0_begin_45) (xcons (s_ret dX0_begin_48 rfl) (xnil)))))))
def k0 (pc : Nat) : XI := if pc < 36 then xlk k0_0 pc else xlk k0_1 pc
theorem o0 (scr : Nat × (Nat → Int32)) (pc : Nat) : XSnd xm scr Y0 pc (k0 pc) := by
  unfold k0
  exact xite (xlk_ok (o0_0 scr) pc) (xlk_ok (o0_1 scr) pc)
theorem dX0_copyFrom_0 : decode cX0_copyFrom 0 = .ok (.aload_n 0, 1) := by decide +kernel
theorem dX0_copyFrom_1 : decode cX0_copyFrom 1 = .ok (.aload_n 1, 1) := by decide +kernel
theorem dX0_copyFrom_2 : decode cX0_copyFrom 2 = .ok (.getfield 36, 3) := by decide +kernel
theorem dX0_copyFrom_5 : decode cX0_copyFrom 5 = .ok (.putfield 36, 3) := by decide +kernel
theorem dX0_copyFrom_8 : decode cX0_copyFrom 8 = .ok (.aload_n 0, 1) := by decide +kernel
theorem dX0_copyFrom_9 : decode cX0_copyFrom 9 = .ok (.aload_n 1, 1) := by decide +kernel
theorem dX0_copyFrom_10 : decode cX0_copyFrom 10 = .ok (.getfield 40, 3) := by decide +kernel
theorem dX0_copyFrom_13 : decode cX0_copyFrom 13 = .ok (.putfield 40, 3) := by decide +kernel
theorem dX0_copyFrom_16 : decode cX0_copyFrom 16 = .ok (.aload_n 0, 1) := by decide +kernel
theorem dX0_copyFrom_17 : decode cX0_copyFrom 17 = .ok (.aload_n 1, 1) := by decide +kernel
theorem dX0_copyFrom_18 : decode cX0_copyFrom 18 = .ok (.getfield 61, 3) := by decide +kernel
theorem dX0_copyFrom_21 : decode cX0_copyFrom 21 = .ok (.putfield 61, 3) := by decide +kernel
theorem dX0_copyFrom_24 : decode cX0_copyFrom 24 = .ok (.aload_n 0, 1) := by decide +kernel
theorem dX0_copyFrom_25 : decode cX0_copyFrom 25 = .ok (.aload_n 1, 1) := by decide +kernel
theorem dX0_copyFrom_26 : decode cX0_copyFrom 26 = .ok (.getfield 64, 3) := by decide +kernel
theorem dX0_copyFrom_29 : decode cX0_copyFrom 29 = .ok (.putfield 64, 3) := by decide +kernel
theorem dX0_copyFrom_32 : decode cX0_copyFrom 32 = .ok (.aload_n 0, 1) := by decide +kernel
theorem dX0_copyFrom_33 : decode cX0_copyFrom 33 = .ok (.aload_n 1, 1) := by decide +kernel
theorem dX0_copyFrom_34 : decode cX0_copyFrom 34 = .ok (.getfield 67, 3) := by decide +kernel
theorem dX0_copyFrom_37 : decode cX0_copyFrom 37 = .ok (.putfield 67, 3) := by decide +kernel
def k1_0 : List (Nat × XI) := [(0, x_aload 0 1), (1, x_aload 1 2), (2, x_getI 0 0 5), (5, x_putI 0 0 8), (8, x_aload 0 9), (9, x_aload 1 10), (10, x_getI 0 1 13), (13, x_putI 0 1 16), (16, x_aload 0 17), (17, x_aload 1 18), (18, x_getI 0 2 21), (21, x_putI 0 2 24), (24, x_aload 0 25), (25, x_aload 1 26), (26, x_getI 0 3 29), (29, x_putI 0 3 32), (32, x_aload 0 33), (33, x_aload 1 34), (34, x_getI 0 4 37), (37, x_putI 0 4 40)]
theorem o1_0 (scr : Nat × (Nat → Int32)) : ∀ q ∈ k1_0, XSnd xm scr Y1 q.1 q.2 := xcons (s_aload_n rfl dX0_copyFrom_0) (xcons (s_aload_n rfl dX0_copyFrom_1) (xcons (s_getI (f := 0) xC0 (by decide) xw_0 rfl dX0_copyFrom_2) (xcons (s_putI (f := 0) xC0 (by decide) xw_0 rfl (Or.inl rfl) dX0_copyFrom_5) (xcons (s_aload_n rfl dX0_copyFrom_8) (xcons (s_aload_n rfl dX0_copyFrom_9) (xcons (s_getI (f := 1) xC0 (by decide) xw_1 rfl dX0_copyFrom_10) (xcons (s_putI (f := 1) xC0 (by decide) xw_1 rfl (Or.inl rfl) dX0_copyFrom_13) (xcons (s_aload_n rfl dX0_copyFrom_16) (xcons (s_aload_n rfl dX0_copyFrom_17) (xcons (s_getI (f := 2) xC0 (by decide) xw_14 rfl dX0_copyFrom_18) (xcons (s_putI (f := 2) xC0 (by decide) xw_14 rfl (Or.inl rfl) dX0_copyFrom_21) (xcons (s_aload_n rfl dX0_copyFrom_24) (xcons (s_aload_n rfl dX0_copyFrom_25) (xcons (s_getI (f := 3) xC0 (by decide) xw_15 rfl dX0_copyFrom_26) (xcons (s_putI (f := 3) xC0 (by decide) xw_15 rfl (Or.inl rfl) dX0_copyFrom_29) (xcons (s_aload_n rfl dX0_copyFrom_32) (xcons (s_aload_n rfl dX0_copyFrom_33) (xcons (s_getI (f := 4) xC0 (by decide) xw_16 rfl dX0_copyFrom_34) (xcons (s_putI (f := 4) xC0 (by decide) xw_16 rfl (Or.inl rfl) dX0_copyFrom_37) (xnil))))))))))))))))))))
theorem dX0_copyFrom_40 : decode cX0_copyFrom 40 = .ok (.aload_n 0, 1) := by decide +kernel
theorem dX0_copyFrom_41 : decode cX0_copyFrom 41 = .ok (.aload_n 1, 1) := by decide +kernel
theorem dX0_copyFrom_42 : decode cX0_copyFrom 42 = .ok (.getfield 43, 3) := by decide +kernel
theorem dX0_copyFrom_45 : decode cX0_copyFrom 45 = .ok (.putfield 43, 3) := by decide +kernel
theorem dX0_copyFrom_48 : decode cX0_copyFrom 48 = .ok (.aload_n 0, 1) := by decide +kernel
theorem dX0_copyFrom_49 : decode cX0_copyFrom 49 = .ok (.aload_n 1, 1) := by decide +kernel
theorem dX0_copyFrom_50 : decode cX0_copyFrom 50 = .ok (.getfield 46, 3) := by decide +kernel
theorem dX0_copyFrom_53 : decode cX0_copyFrom 53 = .ok (.putfield 46, 3) := by decide +kernel
theorem dX0_copyFrom_56 : decode cX0_copyFrom 56 = .ok (.aload_n 0, 1) := by decide +kernel
theorem dX0_copyFrom_57 : decode cX0_copyFrom 57 = .ok (.getfield 14, 3) := by decide +kernel
theorem dX0_copyFrom_60 : decode cX0_copyFrom 60 = .ok (.aload_n 1, 1) := by decide +kernel
theorem dX0_copyFrom_61 : decode cX0_copyFrom 61 = .ok (.getfield 14, 3) := by decide +kernel
theorem dX0_copyFrom_64 : decode cX0_copyFrom 64 = .ok (.invokevirtual 70, 3) := by decide +kernel
theorem dX0_copyFrom_67 : decode cX0_copyFrom 67 = .ok (.aload_n 0, 1) := by decide +kernel
theorem dX0_copyFrom_68 : decode cX0_copyFrom 68 = .ok (.getfield 23, 3) := by decide +kernel
theorem dX0_copyFrom_71 : decode cX0_copyFrom 71 = .ok (.aload_n 1, 1) := by decide +kernel
theorem dX0_copyFrom_72 : decode cX0_copyFrom 72 = .ok (.getfield 23, 3) := by decide +kernel
theorem dX0_copyFrom_75 : decode cX0_copyFrom 75 = .ok (.invokevirtual 74, 3) := by decide +kernel
theorem dX0_copyFrom_78 : decode cX0_copyFrom 78 = .ok (.aload_n 0, 1) := by decide +kernel
theorem dX0_copyFrom_79 : decode cX0_copyFrom 79 = .ok (.getfield 27, 3) := by decide +kernel
def k1_1 : List (Nat × XI) := [(40, x_aload 0 41), (41, x_aload 1 42), (42, x_getI 0 5 45), (45, x_putI 0 5 48), (48, x_aload 0 49), (49, x_aload 1 50), (50, x_getI 0 6 53), (53, x_putZ 0 6 56), (56, x_aload 0 57), (57, x_getR 0 7 60), (60, x_aload 1 61), (61, x_getR 0 7 64), (64, x_inv 8 2 1 67), (67, x_aload 0 68), (68, x_getR 0 8 71), (71, x_aload 1 72), (72, x_getR 0 8 75), (75, x_inv 17 3 1 78), (78, x_aload 0 79), (79, x_getR 0 9 82)]
theorem o1_1 (scr : Nat × (Nat → Int32)) : ∀ q ∈ k1_1, XSnd xm scr Y1 q.1 q.2 := xcons (s_aload_n rfl dX0_copyFrom_40) (xcons (s_aload_n rfl dX0_copyFrom_41) (xcons (s_getI (f := 5) xC0 (by decide) xw_2 rfl dX0_copyFrom_42) (xcons (s_putI (f := 5) xC0 (by decide) xw_2 rfl (Or.inl rfl) dX0_copyFrom_45) (xcons (s_aload_n rfl dX0_copyFrom_48) (xcons (s_aload_n rfl dX0_copyFrom_49) (xcons (s_getI (f := 6) xC0 (by decide) xw_3 rfl dX0_copyFrom_50) (xcons (s_putZ (f := 6) xC0 (by decide) xw_3 rfl (Or.inl rfl) dX0_copyFrom_53) (xcons (s_aload_n rfl dX0_copyFrom_56) (xcons (s_getR (f := 7) xC0 (by decide) xw_17 rfl dX0_copyFrom_57) (xcons (s_aload_n rfl dX0_copyFrom_60) (xcons (s_getR (f := 7) xC0 (by decide) xw_17 rfl dX0_copyFrom_61) (xcons (s_inv (mid := 8) xC2 cal_8 xw_20 xw_21 xw_22 dX0_copyFrom_64) (xcons (s_aload_n rfl dX0_copyFrom_67) (xcons (s_getR (f := 8) xC0 (by decide) xw_4 rfl dX0_copyFrom_68) (xcons (s_aload_n rfl dX0_copyFrom_71) (xcons (s_getR (f := 8) xC0 (by decide) xw_4 rfl dX0_copyFrom_72) (xcons (s_inv (mid := 17) xC3 cal_17 xw_25 xw_26 xw_27 dX0_copyFrom_75) (xcons (s_aload_n rfl dX0_copyFrom_78) (xcons (s_getR (f := 9) xC0 (by decide) xw_6 rfl dX0_copyFrom_79) (xnil))))))))))))))))))))
theorem dX0_copyFrom_82 : decode cX0_copyFrom 82 = .ok (.aload_n 1, 1) := by decide +kernel
theorem dX0_copyFrom_83 : decode cX0_copyFrom 83 = .ok (.getfield 27, 3) := by decide +kernel
theorem dX0_copyFrom_86 : decode cX0_copyFrom 86 = .ok (.invokevirtual 74, 3) := by decide +kernel
theorem dX0_copyFrom_89 : decode cX0_copyFrom 89 = .ok (.aload_n 0, 1) := by decide +kernel
theorem dX0_copyFrom_90 : decode cX0_copyFrom 90 = .ok (.getfield 30, 3) := by decide +kernel
theorem dX0_copyFrom_93 : decode cX0_copyFrom 93 = .ok (.aload_n 1, 1) := by decide +kernel
theorem dX0_copyFrom_94 : decode cX0_copyFrom 94 = .ok (.getfield 30, 3) := by decide +kernel
theorem dX0_copyFrom_97 : decode cX0_copyFrom 97 = .ok (.invokevirtual 70, 3) := by decide +kernel
theorem dX0_copyFrom_100 : decode cX0_copyFrom 100 = .ok (.aload_n 0, 1) := by decide +kernel
theorem dX0_copyFrom_101 : decode cX0_copyFrom 101 = .ok (.getfield 33, 3) := by decide +kernel
theorem dX0_copyFrom_104 : decode cX0_copyFrom 104 = .ok (.aload_n 1, 1) := by decide +kernel
theorem dX0_copyFrom_105 : decode cX0_copyFrom 105 = .ok (.getfield 33, 3) := by decide +kernel
theorem dX0_copyFrom_108 : decode cX0_copyFrom 108 = .ok (.invokevirtual 70, 3) := by decide +kernel
theorem dX0_copyFrom_111 : decode cX0_copyFrom 111 = .ok (.return_, 1) := by decide +kernel
def k1_2 : List (Nat × XI) := [(82, x_aload 1 83), (83, x_getR 0 9 86), (86, x_inv 17 3 1 89), (89, x_aload 0 90), (90, x_getR 0 10 93), (93, x_aload 1 94), (94, x_getR 0 10 97), (97, x_inv 8 2 1 100), (100, x_aload 0 101), (101, x_getR 0 11 104), (104, x_aload 1 105), (105, x_getR 0 11 108), (108, x_inv 8 2 1 111), (111, x_ret)]
theorem o1_2 (scr : Nat × (Nat → Int32)) : ∀ q ∈ k1_2, XSnd xm scr Y1 q.1 q.2 := xcons (s_aload_n rfl dX0_copyFrom_82) (xcons (s_getR (f := 9) xC0 (by decide) xw_6 rfl dX0_copyFrom_83) (xcons (s_inv (mid := 17) xC3 cal_17 xw_25 xw_26 xw_27 dX0_copyFrom_86) (xcons (s_aload_n rfl dX0_copyFrom_89) (xcons (s_getR (f := 10) xC0 (by decide) xw_7 rfl dX0_copyFrom_90) (xcons (s_aload_n rfl dX0_copyFrom_93) (xcons (s_getR (f := 10) xC0 (by decide) xw_7 rfl dX0_copyFrom_94) (xcons (s_inv (mid := 8) xC2 cal_8 xw_20 xw_21 xw_22 dX0_copyFrom_97) (xcons (s_aload_n rfl dX0_copyFrom_100) (xcons (s_getR (f := 11) xC0 (by decide) xw_28 rfl dX0_copyFrom_101) (xcons (s_aload_n rfl dX0_copyFrom_104) (xcons (s_getR (f := 11) xC0 (by decide) xw_28 rfl dX0_copyFrom_105) (xcons (s_inv (mid := 8) xC2 cal_8 xw_20 xw_21 xw_22 dX0_copyFrom_108) (xcons (s_ret dX0_copyFrom_111 rfl) (xnil))))))))))))))
def k1 (pc : Nat) : XI := if pc < 40 then xlk k1_0 pc else if pc < 82 then xlk k1_1 pc else xlk k1_2 pc
theorem o1 (scr : Nat × (Nat → Int32)) (pc : Nat) : XSnd xm scr Y1 pc (k1 pc) := by
  unfold k1
  exact xite (xlk_ok (o1_0 scr) pc) (xite (xlk_ok (o1_1 scr) pc) (xlk_ok (o1_2 scr) pc))
theorem dX0_init_0 : decode cX0_init 0 = .ok (.aload_n 0, 1) := by decide +kernel
theorem dX0_init_1 : decode cX0_init 1 = .ok (.invokespecial 3, 3) := by decide +kernel
theorem dX0_init_4 : decode cX0_init 4 = .ok (.aload_n 0, 1) := by decide +kernel
theorem dX0_init_5 : decode cX0_init 5 = .ok (.new 9, 3) := by decide +kernel
theorem dX0_init_8 : decode cX0_init 8 = .ok (.dup, 1) := by decide +kernel
theorem dX0_init_9 : decode cX0_init 9 = .ok (.iconst 5, 1) := by decide +kernel
theorem dX0_init_10 : decode cX0_init 10 = .ok (.invokespecial 11, 3) := by decide +kernel
theorem dX0_init_13 : decode cX0_init 13 = .ok (.putfield 14, 3) := by decide +kernel
theorem dX0_init_16 : decode cX0_init 16 = .ok (.aload_n 0, 1) := by decide +kernel
theorem dX0_init_17 : decode cX0_init 17 = .ok (.new 20, 3) := by decide +kernel
theorem dX0_init_20 : decode cX0_init 20 = .ok (.dup, 1) := by decide +kernel
theorem dX0_init_21 : decode cX0_init 21 = .ok (.bipush 12, 2) := by decide +kernel
theorem dX0_init_23 : decode cX0_init 23 = .ok (.invokespecial 22, 3) := by decide +kernel
theorem dX0_init_26 : decode cX0_init 26 = .ok (.putfield 23, 3) := by decide +kernel
theorem dX0_init_29 : decode cX0_init 29 = .ok (.aload_n 0, 1) := by decide +kernel
theorem dX0_init_30 : decode cX0_init 30 = .ok (.new 20, 3) := by decide +kernel
theorem dX0_init_33 : decode cX0_init 33 = .ok (.dup, 1) := by decide +kernel
theorem dX0_init_34 : decode cX0_init 34 = .ok (.bipush 6, 2) := by decide +kernel
theorem dX0_init_36 : decode cX0_init 36 = .ok (.invokespecial 22, 3) := by decide +kernel
theorem dX0_init_39 : decode cX0_init 39 = .ok (.putfield 27, 3) := by decide +kernel
def k2_0 : List (Nat × XI) := [(0, x_aload 0 1), (1, x_obj 4), (4, x_aload 0 5), (5, x_new 2 8), (8, x_dup 9), (9, x_push (5) 10), (10, x_inv 12 2 1 13), (13, x_putR 0 7 16), (16, x_aload 0 17), (17, x_new 3 20), (20, x_dup 21), (21, x_push (12) 23), (23, x_inv 19 3 1 26), (26, x_putR 0 8 29), (29, x_aload 0 30), (30, x_new 3 33), (33, x_dup 34), (34, x_push (6) 36), (36, x_inv 19 3 1 39), (39, x_putR 0 9 42)]
theorem o2_0 (scr : Nat × (Nat → Int32)) : ∀ q ∈ k2_0, XSnd xm scr Y2 q.1 q.2 := xcons (s_aload_n rfl dX0_init_0) (xcons (s_obj xw_29 xw_30 xw_31 dX0_init_1) (xcons (s_aload_n rfl dX0_init_4) (xcons (s_new xC2 xw_32 xw_33 xw_19 (by decide +kernel) dX0_init_5) (xcons (s_dup dX0_init_8) (xcons (s_iconst dX0_init_9 rfl) (xcons (s_init (mid := 12) xC2 cal_12 rfl rfl xw_35 xw_36 dX0_init_10) (xcons (s_putR (f := 7) xC0 (by decide) xw_17 rfl (Or.inr ⟨rfl, rfl, rfl⟩) dX0_init_13) (xcons (s_aload_n rfl dX0_init_16) (xcons (s_new xC3 xw_37 xw_38 xw_24 (by decide +kernel) dX0_init_17) (xcons (s_dup dX0_init_20) (xcons (s_bipush dX0_init_21 rfl) (xcons (s_init (mid := 19) xC3 cal_19 rfl rfl xw_40 xw_41 dX0_init_23) (xcons (s_putR (f := 8) xC0 (by decide) xw_4 rfl (Or.inr ⟨rfl, rfl, rfl⟩) dX0_init_26) (xcons (s_aload_n rfl dX0_init_29) (xcons (s_new xC3 xw_37 xw_38 xw_24 (by decide +kernel) dX0_init_30) (xcons (s_dup dX0_init_33) (xcons (s_bipush dX0_init_34 rfl) (xcons (s_init (mid := 19) xC3 cal_19 rfl rfl xw_40 xw_41 dX0_init_36) (xcons (s_putR (f := 9) xC0 (by decide) xw_6 rfl (Or.inr ⟨rfl, rfl, rfl⟩) dX0_init_39) (xnil))))))))))))))))))))
theorem dX0_init_42 : decode cX0_init 42 = .ok (.aload_n 0, 1) := by decide +kernel
theorem dX0_init_43 : decode cX0_init 43 = .ok (.new 9, 3) := by decide +kernel
theorem dX0_init_46 : decode cX0_init 46 = .ok (.dup, 1) := by decide +kernel
theorem dX0_init_47 : decode cX0_init 47 = .ok (.bipush 12, 2) := by decide +kernel
theorem dX0_init_49 : decode cX0_init 49 = .ok (.invokespecial 11, 3) := by decide +kernel
theorem dX0_init_52 : decode cX0_init 52 = .ok (.putfield 30, 3) := by decide +kernel
theorem dX0_init_55 : decode cX0_init 55 = .ok (.aload_n 0, 1) := by decide +kernel
theorem dX0_init_56 : decode cX0_init 56 = .ok (.new 9, 3) := by decide +kernel
theorem dX0_init_59 : decode cX0_init 59 = .ok (.dup, 1) := by decide +kernel
theorem dX0_init_60 : decode cX0_init 60 = .ok (.bipush 10, 2) := by decide +kernel
theorem dX0_init_62 : decode cX0_init 62 = .ok (.invokespecial 11, 3) := by decide +kernel
theorem dX0_init_65 : decode cX0_init 65 = .ok (.putfield 33, 3) := by decide +kernel
theorem dX0_init_68 : decode cX0_init 68 = .ok (.return_, 1) := by decide +kernel
def k2_1 : List (Nat × XI) := [(42, x_aload 0 43), (43, x_new 2 46), (46, x_dup 47), (47, x_push (12) 49), (49, x_inv 12 2 1 52), (52, x_putR 0 10 55), (55, x_aload 0 56), (56, x_new 2 59), (59, x_dup 60), (60, x_push (10) 62), (62, x_inv 12 2 1 65), (65, x_putR 0 11 68), (68, x_ret)]
theorem o2_1 (scr : Nat × (Nat → Int32)) : ∀ q ∈ k2_1, XSnd xm scr Y2 q.1 q.2 := xcons (s_aload_n rfl dX0_init_42) (xcons (s_new xC2 xw_32 xw_33 xw_19 (by decide +kernel) dX0_init_43) (xcons (s_dup dX0_init_46) (xcons (s_bipush dX0_init_47 rfl) (xcons (s_init (mid := 12) xC2 cal_12 rfl rfl xw_35 xw_36 dX0_init_49) (xcons (s_putR (f := 10) xC0 (by decide) xw_7 rfl (Or.inr ⟨rfl, rfl, rfl⟩) dX0_init_52) (xcons (s_aload_n rfl dX0_init_55) (xcons (s_new xC2 xw_32 xw_33 xw_19 (by decide +kernel) dX0_init_56) (xcons (s_dup dX0_init_59) (xcons (s_bipush dX0_init_60 rfl) (xcons (s_init (mid := 12) xC2 cal_12 rfl rfl xw_35 xw_36 dX0_init_62) (xcons (s_putR (f := 11) xC0 (by decide) xw_28 rfl (Or.inr ⟨rfl, rfl, rfl⟩) dX0_init_65) (xcons (s_ret dX0_init_68 rfl) (xnil)))))))))))))
def k2 (pc : Nat) : XI := if pc < 42 then xlk k2_0 pc else xlk k2_1 pc
theorem o2 (scr : Nat × (Nat → Int32)) (pc : Nat) : XSnd xm scr Y2 pc (k2 pc) := by
  unfold k2
  exact xite (xlk_ok (o2_0 scr) pc) (xlk_ok (o2_1 scr) pc)
theorem dX0_keepOwnOnly_0 : decode cX0_keepOwnOnly 0 = .ok (.aload_n 0, 1) := by decide +kernel
theorem dX0_keepOwnOnly_1 : decode cX0_keepOwnOnly 1 = .ok (.getfield 14, 3) := by decide +kernel
theorem dX0_keepOwnOnly_4 : decode cX0_keepOwnOnly 4 = .ok (.iconst 0, 1) := by decide +kernel
theorem dX0_keepOwnOnly_5 : decode cX0_keepOwnOnly 5 = .ok (.putfield 53, 3) := by decide +kernel
theorem dX0_keepOwnOnly_8 : decode cX0_keepOwnOnly 8 = .ok (.aload_n 0, 1) := by decide +kernel
theorem dX0_keepOwnOnly_9 : decode cX0_keepOwnOnly 9 = .ok (.getfield 14, 3) := by decide +kernel
theorem dX0_keepOwnOnly_12 : decode cX0_keepOwnOnly 12 = .ok (.aload_n 0, 1) := by decide +kernel
theorem dX0_keepOwnOnly_13 : decode cX0_keepOwnOnly 13 = .ok (.getfield 40, 3) := by decide +kernel
theorem dX0_keepOwnOnly_16 : decode cX0_keepOwnOnly 16 = .ok (.invokevirtual 57, 3) := by decide +kernel
theorem dX0_keepOwnOnly_19 : decode cX0_keepOwnOnly 19 = .ok (.pop, 1) := by decide +kernel
theorem dX0_keepOwnOnly_20 : decode cX0_keepOwnOnly 20 = .ok (.aload_n 0, 1) := by decide +kernel
theorem dX0_keepOwnOnly_21 : decode cX0_keepOwnOnly 21 = .ok (.getfield 33, 3) := by decide +kernel
theorem dX0_keepOwnOnly_24 : decode cX0_keepOwnOnly 24 = .ok (.iconst 0, 1) := by decide +kernel
theorem dX0_keepOwnOnly_25 : decode cX0_keepOwnOnly 25 = .ok (.putfield 53, 3) := by decide +kernel
theorem dX0_keepOwnOnly_28 : decode cX0_keepOwnOnly 28 = .ok (.return_, 1) := by decide +kernel
def k3_0 : List (Nat × XI) := [(0, x_aload 0 1), (1, x_getR 0 7 4), (4, x_push (0) 5), (5, x_putI 2 1 8), (8, x_aload 0 9), (9, x_getR 0 7 12), (12, x_aload 0 13), (13, x_getI 0 1 16), (16, x_inv 5 2 1 19), (19, x_pop 20), (20, x_aload 0 21), (21, x_getR 0 11 24), (24, x_push (0) 25), (25, x_putI 2 1 28), (28, x_ret)]
theorem o3_0 (scr : Nat × (Nat → Int32)) : ∀ q ∈ k3_0, XSnd xm scr Y3 q.1 q.2 := xcons (s_aload_n rfl dX0_keepOwnOnly_0) (xcons (s_getR (f := 7) xC0 (by decide) xw_17 rfl dX0_keepOwnOnly_1) (xcons (s_iconst dX0_keepOwnOnly_4 rfl) (xcons (s_putI (f := 1) xC2 (by decide) xw_8 rfl (Or.inl rfl) dX0_keepOwnOnly_5) (xcons (s_aload_n rfl dX0_keepOwnOnly_8) (xcons (s_getR (f := 7) xC0 (by decide) xw_17 rfl dX0_keepOwnOnly_9) (xcons (s_aload_n rfl dX0_keepOwnOnly_12) (xcons (s_getI (f := 1) xC0 (by decide) xw_1 rfl dX0_keepOwnOnly_13) (xcons (s_inv (mid := 5) xC2 cal_5 xw_43 xw_44 xw_45 dX0_keepOwnOnly_16) (xcons (s_pop dX0_keepOwnOnly_19) (xcons (s_aload_n rfl dX0_keepOwnOnly_20) (xcons (s_getR (f := 11) xC0 (by decide) xw_28 rfl dX0_keepOwnOnly_21) (xcons (s_iconst dX0_keepOwnOnly_24 rfl) (xcons (s_putI (f := 1) xC2 (by decide) xw_8 rfl (Or.inl rfl) dX0_keepOwnOnly_25) (xcons (s_ret dX0_keepOwnOnly_28 rfl) (xnil)))))))))))))))
def k3 (pc : Nat) : XI := xlk k3_0 pc
theorem o3 (scr : Nat × (Nat → Int32)) (pc : Nat) : XSnd xm scr Y3 pc (k3 pc) := by
  unfold k3
  exact xlk_ok (o3_0 scr) pc
theorem dX1_init_0 : decode cX1_init 0 = .ok (.aload_n 0, 1) := by decide +kernel
theorem dX1_init_1 : decode cX1_init 1 = .ok (.invokespecial 3, 3) := by decide +kernel
theorem dX1_init_4 : decode cX1_init 4 = .ok (.aload_n 0, 1) := by decide +kernel
theorem dX1_init_5 : decode cX1_init 5 = .ok (.new 9, 3) := by decide +kernel
theorem dX1_init_8 : decode cX1_init 8 = .ok (.dup, 1) := by decide +kernel
theorem dX1_init_9 : decode cX1_init 9 = .ok (.bipush 60, 2) := by decide +kernel
theorem dX1_init_11 : decode cX1_init 11 = .ok (.invokespecial 11, 3) := by decide +kernel
theorem dX1_init_14 : decode cX1_init 14 = .ok (.putfield 14, 3) := by decide +kernel
theorem dX1_init_17 : decode cX1_init 17 = .ok (.return_, 1) := by decide +kernel
def k4_0 : List (Nat × XI) := [(0, x_aload 0 1), (1, x_obj 4), (4, x_aload 0 5), (5, x_new 2 8), (8, x_dup 9), (9, x_push (60) 11), (11, x_inv 12 2 1 14), (14, x_putR 1 0 17), (17, x_ret)]
theorem o4_0 (scr : Nat × (Nat → Int32)) : ∀ q ∈ k4_0, XSnd xm scr Y4 q.1 q.2 := xcons (s_aload_n rfl dX1_init_0) (xcons (s_obj xw_46 xw_30 xw_31 dX1_init_1) (xcons (s_aload_n rfl dX1_init_4) (xcons (s_new xC2 xw_47 xw_33 xw_19 (by decide +kernel) dX1_init_5) (xcons (s_dup dX1_init_8) (xcons (s_bipush dX1_init_9 rfl) (xcons (s_init (mid := 12) xC2 cal_12 rfl rfl xw_48 xw_36 dX1_init_11) (xcons (s_putR (f := 0) xC1 (by decide) xw_49 rfl (Or.inr ⟨rfl, rfl, rfl⟩) dX1_init_14) (xcons (s_ret dX1_init_17 rfl) (xnil)))))))))
def k4 (pc : Nat) : XI := xlk k4_0 pc
theorem o4 (scr : Nat × (Nat → Int32)) (pc : Nat) : XSnd xm scr Y4 pc (k4 pc) := by
  unfold k4
  exact xlk_ok (o4_0 scr) pc
theorem dX2_add_0 : decode cX2_add 0 = .ok (.aload_n 0, 1) := by decide +kernel
theorem dX2_add_1 : decode cX2_add 1 = .ok (.getfield 13, 3) := by decide +kernel
theorem dX2_add_4 : decode cX2_add 4 = .ok (.ifCond .lt 15, 3) := by decide +kernel
theorem dX2_add_7 : decode cX2_add 7 = .ok (.aload_n 0, 1) := by decide +kernel
theorem dX2_add_8 : decode cX2_add 8 = .ok (.getfield 13, 3) := by decide +kernel
theorem dX2_add_11 : decode cX2_add 11 = .ok (.aload_n 0, 1) := by decide +kernel
theorem dX2_add_12 : decode cX2_add 12 = .ok (.getfield 7, 3) := by decide +kernel
theorem dX2_add_15 : decode cX2_add 15 = .ok (.arraylength, 1) := by decide +kernel
theorem dX2_add_16 : decode cX2_add 16 = .ok (.if_icmp .lt 5, 3) := by decide +kernel
theorem dX2_add_19 : decode cX2_add 19 = .ok (.iconst 0, 1) := by decide +kernel
theorem dX2_add_20 : decode cX2_add 20 = .ok (.ireturn, 1) := by decide +kernel
theorem dX2_add_21 : decode cX2_add 21 = .ok (.aload_n 0, 1) := by decide +kernel
theorem dX2_add_22 : decode cX2_add 22 = .ok (.getfield 7, 3) := by decide +kernel
theorem dX2_add_25 : decode cX2_add 25 = .ok (.aload_n 0, 1) := by decide +kernel
theorem dX2_add_26 : decode cX2_add 26 = .ok (.getfield 13, 3) := by decide +kernel
theorem dX2_add_29 : decode cX2_add 29 = .ok (.iload_n 1, 1) := by decide +kernel
theorem dX2_add_30 : decode cX2_add 30 = .ok (.iastore, 1) := by decide +kernel
theorem dX2_add_31 : decode cX2_add 31 = .ok (.aload_n 0, 1) := by decide +kernel
theorem dX2_add_32 : decode cX2_add 32 = .ok (.dup, 1) := by decide +kernel
theorem dX2_add_33 : decode cX2_add 33 = .ok (.getfield 13, 3) := by decide +kernel
def k5_0 : List (Nat × XI) := [(0, x_aload 0 1), (1, x_getI 2 1 4), (4, x_iflt 19 7), (7, x_aload 0 8), (8, x_getI 2 1 11), (11, x_aload 0 12), (12, x_getR 2 0 15), (15, x_len 16), (16, x_iclt 21 19), (19, x_push (0) 20), (20, x_zret), (21, x_aload 0 22), (22, x_getR 2 0 25), (25, x_aload 0 26), (26, x_getI 2 1 29), (29, x_iload 1 30), (30, x_iast 31), (31, x_aload 0 32), (32, x_dup 33), (33, x_getI 2 1 36)]
theorem o5_0 (scr : Nat × (Nat → Int32)) : ∀ q ∈ k5_0, XSnd xm scr Y5 q.1 q.2 := xcons (s_aload_n rfl dX2_add_0) (xcons (s_getI (f := 1) xC2 (by decide) xw_50 rfl dX2_add_1) (xcons (s_iflt dX2_add_4 rfl) (xcons (s_aload_n rfl dX2_add_7) (xcons (s_getI (f := 1) xC2 (by decide) xw_50 rfl dX2_add_8) (xcons (s_aload_n rfl dX2_add_11) (xcons (s_getR (f := 0) xC2 (by decide) xw_51 rfl dX2_add_12) (xcons (s_len dX2_add_15) (xcons (s_iclt dX2_add_16 rfl) (xcons (s_iconst dX2_add_19 rfl) (xcons (s_zret dX2_add_20 rfl) (xcons (s_aload_n rfl dX2_add_21) (xcons (s_getR (f := 0) xC2 (by decide) xw_51 rfl dX2_add_22) (xcons (s_aload_n rfl dX2_add_25) (xcons (s_getI (f := 1) xC2 (by decide) xw_50 rfl dX2_add_26) (xcons (s_iload_n rfl dX2_add_29) (xcons (s_iast dX2_add_30) (xcons (s_aload_n rfl dX2_add_31) (xcons (s_dup dX2_add_32) (xcons (s_getI (f := 1) xC2 (by decide) xw_50 rfl dX2_add_33) (xnil))))))))))))))))))))
theorem dX2_add_36 : decode cX2_add 36 = .ok (.iconst 1, 1) := by decide +kernel
theorem dX2_add_37 : decode cX2_add 37 = .ok (.iadd, 1) := by decide +kernel
theorem dX2_add_38 : decode cX2_add 38 = .ok (.putfield 13, 3) := by decide +kernel
theorem dX2_add_41 : decode cX2_add 41 = .ok (.iconst 1, 1) := by decide +kernel
theorem dX2_add_42 : decode cX2_add 42 = .ok (.ireturn, 1) := by decide +kernel
def k5_1 : List (Nat × XI) := [(36, x_push (1) 37), (37, x_iadd 38), (38, x_putI 2 1 41), (41, x_push (1) 42), (42, x_zret)]
theorem o5_1 (scr : Nat × (Nat → Int32)) : ∀ q ∈ k5_1, XSnd xm scr Y5 q.1 q.2 := xcons (s_iconst dX2_add_36 rfl) (xcons (s_iadd dX2_add_37) (xcons (s_putI (f := 1) xC2 (by decide) xw_50 rfl (Or.inl rfl) dX2_add_38) (xcons (s_iconst dX2_add_41 rfl) (xcons (s_zret dX2_add_42 rfl) (xnil)))))
def k5 (pc : Nat) : XI := if pc < 36 then xlk k5_0 pc else xlk k5_1 pc
theorem o5 (scr : Nat × (Nat → Int32)) (pc : Nat) : XSnd xm scr Y5 pc (k5 pc) := by
  unfold k5
  exact xite (xlk_ok (o5_0 scr) pc) (xlk_ok (o5_1 scr) pc)
theorem dX2_at_0 : decode cX2_at 0 = .ok (.iload_n 1, 1) := by decide +kernel
theorem dX2_at_1 : decode cX2_at 1 = .ok (.ifCond .lt 21, 3) := by decide +kernel
theorem dX2_at_4 : decode cX2_at 4 = .ok (.iload_n 1, 1) := by decide +kernel
theorem dX2_at_5 : decode cX2_at 5 = .ok (.aload_n 0, 1) := by decide +kernel
theorem dX2_at_6 : decode cX2_at 6 = .ok (.getfield 7, 3) := by decide +kernel
theorem dX2_at_9 : decode cX2_at 9 = .ok (.arraylength, 1) := by decide +kernel
theorem dX2_at_10 : decode cX2_at 10 = .ok (.if_icmp .ge 12, 3) := by decide +kernel
theorem dX2_at_13 : decode cX2_at 13 = .ok (.aload_n 0, 1) := by decide +kernel
theorem dX2_at_14 : decode cX2_at 14 = .ok (.getfield 7, 3) := by decide +kernel
theorem dX2_at_17 : decode cX2_at 17 = .ok (.iload_n 1, 1) := by decide +kernel
theorem dX2_at_18 : decode cX2_at 18 = .ok (.iaload, 1) := by decide +kernel
theorem dX2_at_19 : decode cX2_at 19 = .ok (.goto 4, 3) := by decide +kernel
theorem dX2_at_22 : decode cX2_at 22 = .ok (.iconst 0, 1) := by decide +kernel
theorem dX2_at_23 : decode cX2_at 23 = .ok (.ireturn, 1) := by decide +kernel
def k6_0 : List (Nat × XI) := [(0, x_iload 1 1), (1, x_iflt 22 4), (4, x_iload 1 5), (5, x_aload 0 6), (6, x_getR 2 0 9), (9, x_len 10), (10, x_icge 22 13), (13, x_aload 0 14), (14, x_getR 2 0 17), (17, x_iload 1 18), (18, x_iald 19), (19, x_goto 23), (22, x_push (0) 23), (23, x_iret)]
theorem o6_0 (scr : Nat × (Nat → Int32)) : ∀ q ∈ k6_0, XSnd xm scr Y6 q.1 q.2 := xcons (s_iload_n rfl dX2_at_0) (xcons (s_iflt dX2_at_1 rfl) (xcons (s_iload_n rfl dX2_at_4) (xcons (s_aload_n rfl dX2_at_5) (xcons (s_getR (f := 0) xC2 (by decide) xw_51 rfl dX2_at_6) (xcons (s_len dX2_at_9) (xcons (s_icge dX2_at_10 rfl) (xcons (s_aload_n rfl dX2_at_13) (xcons (s_getR (f := 0) xC2 (by decide) xw_51 rfl dX2_at_14) (xcons (s_iload_n rfl dX2_at_17) (xcons (s_iald dX2_at_18) (xcons (s_goto dX2_at_19 rfl) (xcons (s_iconst dX2_at_22 rfl) (xcons (s_iret dX2_at_23 rfl) (xnil))))))))))))))
def k6 (pc : Nat) : XI := xlk k6_0 pc
theorem o6 (scr : Nat × (Nat → Int32)) (pc : Nat) : XSnd xm scr Y6 pc (k6 pc) := by
  unfold k6
  exact xlk_ok (o6_0 scr) pc
theorem dX2_change_0 : decode cX2_change 0 = .ok (.iload_n 1, 1) := by decide +kernel
theorem dX2_change_1 : decode cX2_change 1 = .ok (.ifCond .lt 19, 3) := by decide +kernel
theorem dX2_change_4 : decode cX2_change 4 = .ok (.iload_n 1, 1) := by decide +kernel
theorem dX2_change_5 : decode cX2_change 5 = .ok (.aload_n 0, 1) := by decide +kernel
theorem dX2_change_6 : decode cX2_change 6 = .ok (.getfield 7, 3) := by decide +kernel
theorem dX2_change_9 : decode cX2_change 9 = .ok (.arraylength, 1) := by decide +kernel
theorem dX2_change_10 : decode cX2_change 10 = .ok (.if_icmp .ge 10, 3) := by decide +kernel
theorem dX2_change_13 : decode cX2_change 13 = .ok (.aload_n 0, 1) := by decide +kernel
theorem dX2_change_14 : decode cX2_change 14 = .ok (.getfield 7, 3) := by decide +kernel
theorem dX2_change_17 : decode cX2_change 17 = .ok (.iload_n 1, 1) := by decide +kernel
theorem dX2_change_18 : decode cX2_change 18 = .ok (.iload_n 2, 1) := by decide +kernel
theorem dX2_change_19 : decode cX2_change 19 = .ok (.iastore, 1) := by decide +kernel
theorem dX2_change_20 : decode cX2_change 20 = .ok (.return_, 1) := by decide +kernel
def k7_0 : List (Nat × XI) := [(0, x_iload 1 1), (1, x_iflt 20 4), (4, x_iload 1 5), (5, x_aload 0 6), (6, x_getR 2 0 9), (9, x_len 10), (10, x_icge 20 13), (13, x_aload 0 14), (14, x_getR 2 0 17), (17, x_iload 1 18), (18, x_iload 2 19), (19, x_iast 20), (20, x_ret)]
theorem o7_0 (scr : Nat × (Nat → Int32)) : ∀ q ∈ k7_0, XSnd xm scr Y7 q.1 q.2 := xcons (s_iload_n rfl dX2_change_0) (xcons (s_iflt dX2_change_1 rfl) (xcons (s_iload_n rfl dX2_change_4) (xcons (s_aload_n rfl dX2_change_5) (xcons (s_getR (f := 0) xC2 (by decide) xw_51 rfl dX2_change_6) (xcons (s_len dX2_change_9) (xcons (s_icge dX2_change_10 rfl) (xcons (s_aload_n rfl dX2_change_13) (xcons (s_getR (f := 0) xC2 (by decide) xw_51 rfl dX2_change_14) (xcons (s_iload_n rfl dX2_change_17) (xcons (s_iload_n rfl dX2_change_18) (xcons (s_iast dX2_change_19) (xcons (s_ret dX2_change_20 rfl) (xnil)))))))))))))
def k7 (pc : Nat) : XI := xlk k7_0 pc
theorem o7 (scr : Nat × (Nat → Int32)) (pc : Nat) : XSnd xm scr Y7 pc (k7 pc) := by
  unfold k7
  exact xlk_ok (o7_0 scr) pc
theorem dX2_copyFrom_0 : decode cX2_copyFrom 0 = .ok (.aload_n 0, 1) := by decide +kernel
theorem dX2_copyFrom_1 : decode cX2_copyFrom 1 = .ok (.iconst 0, 1) := by decide +kernel
theorem dX2_copyFrom_2 : decode cX2_copyFrom 2 = .ok (.aload_n 1, 1) := by decide +kernel
theorem dX2_copyFrom_3 : decode cX2_copyFrom 3 = .ok (.getfield 13, 3) := by decide +kernel
theorem dX2_copyFrom_6 : decode cX2_copyFrom 6 = .ok (.aload_n 0, 1) := by decide +kernel
theorem dX2_copyFrom_7 : decode cX2_copyFrom 7 = .ok (.getfield 7, 3) := by decide +kernel
theorem dX2_copyFrom_10 : decode cX2_copyFrom 10 = .ok (.arraylength, 1) := by decide +kernel
theorem dX2_copyFrom_11 : decode cX2_copyFrom 11 = .ok (.aload_n 1, 1) := by decide +kernel
theorem dX2_copyFrom_12 : decode cX2_copyFrom 12 = .ok (.getfield 7, 3) := by decide +kernel
theorem dX2_copyFrom_15 : decode cX2_copyFrom 15 = .ok (.arraylength, 1) := by decide +kernel
theorem dX2_copyFrom_16 : decode cX2_copyFrom 16 = .ok (.invokestatic 17, 3) := by decide +kernel
theorem dX2_copyFrom_19 : decode cX2_copyFrom 19 = .ok (.invokestatic 17, 3) := by decide +kernel
theorem dX2_copyFrom_22 : decode cX2_copyFrom 22 = .ok (.invokestatic 23, 3) := by decide +kernel
theorem dX2_copyFrom_25 : decode cX2_copyFrom 25 = .ok (.putfield 13, 3) := by decide +kernel
theorem dX2_copyFrom_28 : decode cX2_copyFrom 28 = .ok (.aload_n 1, 1) := by decide +kernel
theorem dX2_copyFrom_29 : decode cX2_copyFrom 29 = .ok (.getfield 7, 3) := by decide +kernel
theorem dX2_copyFrom_32 : decode cX2_copyFrom 32 = .ok (.iconst 0, 1) := by decide +kernel
theorem dX2_copyFrom_33 : decode cX2_copyFrom 33 = .ok (.aload_n 0, 1) := by decide +kernel
theorem dX2_copyFrom_34 : decode cX2_copyFrom 34 = .ok (.getfield 7, 3) := by decide +kernel
theorem dX2_copyFrom_37 : decode cX2_copyFrom 37 = .ok (.iconst 0, 1) := by decide +kernel
def k8_0 : List (Nat × XI) := [(0, x_aload 0 1), (1, x_push (0) 2), (2, x_aload 1 3), (3, x_getI 2 1 6), (6, x_aload 0 7), (7, x_getR 2 0 10), (10, x_len 11), (11, x_aload 1 12), (12, x_getR 2 0 15), (15, x_len 16), (16, x_mmin 19), (19, x_mmin 22), (22, x_mmax 25), (25, x_putI 2 1 28), (28, x_aload 1 29), (29, x_getR 2 0 32), (32, x_push (0) 33), (33, x_aload 0 34), (34, x_getR 2 0 37), (37, x_push (0) 38)]
theorem o8_0 (scr : Nat × (Nat → Int32)) : ∀ q ∈ k8_0, XSnd xm scr Y8 q.1 q.2 := xcons (s_aload_n rfl dX2_copyFrom_0) (xcons (s_iconst dX2_copyFrom_1 rfl) (xcons (s_aload_n rfl dX2_copyFrom_2) (xcons (s_getI (f := 1) xC2 (by decide) xw_50 rfl dX2_copyFrom_3) (xcons (s_aload_n rfl dX2_copyFrom_6) (xcons (s_getR (f := 0) xC2 (by decide) xw_51 rfl dX2_copyFrom_7) (xcons (s_len dX2_copyFrom_10) (xcons (s_aload_n rfl dX2_copyFrom_11) (xcons (s_getR (f := 0) xC2 (by decide) xw_51 rfl dX2_copyFrom_12) (xcons (s_len dX2_copyFrom_15) (xcons (s_mmin xw_52 xw_53 xw_54 xw_55 dX2_copyFrom_16) (xcons (s_mmin xw_52 xw_53 xw_54 xw_55 dX2_copyFrom_19) (xcons (s_mmax xw_56 xw_57 xw_54 xw_58 dX2_copyFrom_22) (xcons (s_putI (f := 1) xC2 (by decide) xw_50 rfl (Or.inl rfl) dX2_copyFrom_25) (xcons (s_aload_n rfl dX2_copyFrom_28) (xcons (s_getR (f := 0) xC2 (by decide) xw_51 rfl dX2_copyFrom_29) (xcons (s_iconst dX2_copyFrom_32 rfl) (xcons (s_aload_n rfl dX2_copyFrom_33) (xcons (s_getR (f := 0) xC2 (by decide) xw_51 rfl dX2_copyFrom_34) (xcons (s_iconst dX2_copyFrom_37 rfl) (xnil))))))))))))))))))))
theorem dX2_copyFrom_38 : decode cX2_copyFrom 38 = .ok (.aload_n 0, 1) := by decide +kernel
theorem dX2_copyFrom_39 : decode cX2_copyFrom 39 = .ok (.getfield 13, 3) := by decide +kernel
theorem dX2_copyFrom_42 : decode cX2_copyFrom 42 = .ok (.invokestatic 26, 3) := by decide +kernel
theorem dX2_copyFrom_45 : decode cX2_copyFrom 45 = .ok (.return_, 1) := by decide +kernel
def k8_1 : List (Nat × XI) := [(38, x_aload 0 39), (39, x_getI 2 1 42), (42, x_copy 45), (45, x_ret)]
theorem o8_1 (scr : Nat × (Nat → Int32)) : ∀ q ∈ k8_1, XSnd xm scr Y8 q.1 q.2 := xcons (s_aload_n rfl dX2_copyFrom_38) (xcons (s_getI (f := 1) xC2 (by decide) xw_50 rfl dX2_copyFrom_39) (xcons (s_copy xw_59 xw_60 xw_61 xw_62 dX2_copyFrom_42) (xcons (s_ret dX2_copyFrom_45 rfl) (xnil))))
def k8 (pc : Nat) : XI := if pc < 38 then xlk k8_0 pc else xlk k8_1 pc
theorem o8 (scr : Nat × (Nat → Int32)) (pc : Nat) : XSnd xm scr Y8 pc (k8 pc) := by
  unfold k8
  exact xite (xlk_ok (o8_0 scr) pc) (xlk_ok (o8_1 scr) pc)
theorem dX2_countFrom_0 : decode cX2_countFrom 0 = .ok (.iconst 0, 1) := by decide +kernel
theorem dX2_countFrom_1 : decode cX2_countFrom 1 = .ok (.istore_n 2, 1) := by decide +kernel
theorem dX2_countFrom_2 : decode cX2_countFrom 2 = .ok (.iconst 0, 1) := by decide +kernel
theorem dX2_countFrom_3 : decode cX2_countFrom 3 = .ok (.istore_n 3, 1) := by decide +kernel
theorem dX2_countFrom_4 : decode cX2_countFrom 4 = .ok (.iload_n 3, 1) := by decide +kernel
theorem dX2_countFrom_5 : decode cX2_countFrom 5 = .ok (.aload_n 0, 1) := by decide +kernel
theorem dX2_countFrom_6 : decode cX2_countFrom 6 = .ok (.getfield 13, 3) := by decide +kernel
theorem dX2_countFrom_9 : decode cX2_countFrom 9 = .ok (.if_icmp .ge 36, 3) := by decide +kernel
theorem dX2_countFrom_12 : decode cX2_countFrom 12 = .ok (.iload_n 3, 1) := by decide +kernel
theorem dX2_countFrom_13 : decode cX2_countFrom 13 = .ok (.aload_n 0, 1) := by decide +kernel
theorem dX2_countFrom_14 : decode cX2_countFrom 14 = .ok (.getfield 7, 3) := by decide +kernel
theorem dX2_countFrom_17 : decode cX2_countFrom 17 = .ok (.arraylength, 1) := by decide +kernel
theorem dX2_countFrom_18 : decode cX2_countFrom 18 = .ok (.if_icmp .ge 27, 3) := by decide +kernel
theorem dX2_countFrom_21 : decode cX2_countFrom 21 = .ok (.iload_n 2, 1) := by decide +kernel
theorem dX2_countFrom_22 : decode cX2_countFrom 22 = .ok (.aload_n 0, 1) := by decide +kernel
theorem dX2_countFrom_23 : decode cX2_countFrom 23 = .ok (.getfield 7, 3) := by decide +kernel
theorem dX2_countFrom_26 : decode cX2_countFrom 26 = .ok (.iload_n 3, 1) := by decide +kernel
theorem dX2_countFrom_27 : decode cX2_countFrom 27 = .ok (.iaload, 1) := by decide +kernel
theorem dX2_countFrom_28 : decode cX2_countFrom 28 = .ok (.iload_n 1, 1) := by decide +kernel
theorem dX2_countFrom_29 : decode cX2_countFrom 29 = .ok (.if_icmp .lt 7, 3) := by decide +kernel
def k9_0 : List (Nat × XI) := [(0, x_push (0) 1), (1, x_istore 2 2), (2, x_push (0) 3), (3, x_istore 3 4), (4, x_iload 3 5), (5, x_aload 0 6), (6, x_getI 2 1 9), (9, x_icge 45 12), (12, x_iload 3 13), (13, x_aload 0 14), (14, x_getR 2 0 17), (17, x_len 18), (18, x_icge 45 21), (21, x_iload 2 22), (22, x_aload 0 23), (23, x_getR 2 0 26), (26, x_iload 3 27), (27, x_iald 28), (28, x_iload 1 29), (29, x_iclt 36 32)]
theorem o9_0 (scr : Nat × (Nat → Int32)) : ∀ q ∈ k9_0, XSnd xm scr Y9 q.1 q.2 := xcons (s_iconst dX2_countFrom_0 rfl) (xcons (s_istore_n rfl dX2_countFrom_1 (by decide)) (xcons (s_iconst dX2_countFrom_2 rfl) (xcons (s_istore_n rfl dX2_countFrom_3 (by decide)) (xcons (s_iload_n rfl dX2_countFrom_4) (xcons (s_aload_n rfl dX2_countFrom_5) (xcons (s_getI (f := 1) xC2 (by decide) xw_50 rfl dX2_countFrom_6) (xcons (s_icge dX2_countFrom_9 rfl) (xcons (s_iload_n rfl dX2_countFrom_12) (xcons (s_aload_n rfl dX2_countFrom_13) (xcons (s_getR (f := 0) xC2 (by decide) xw_51 rfl dX2_countFrom_14) (xcons (s_len dX2_countFrom_17) (xcons (s_icge dX2_countFrom_18 rfl) (xcons (s_iload_n rfl dX2_countFrom_21) (xcons (s_aload_n rfl dX2_countFrom_22) (xcons (s_getR (f := 0) xC2 (by decide) xw_51 rfl dX2_countFrom_23) (xcons (s_iload_n rfl dX2_countFrom_26) (xcons (s_iald dX2_countFrom_27) (xcons (s_iload_n rfl dX2_countFrom_28) (xcons (s_iclt dX2_countFrom_29 rfl) (xnil))))))))))))))))))))
theorem dX2_countFrom_32 : decode cX2_countFrom 32 = .ok (.iconst 1, 1) := by decide +kernel
theorem dX2_countFrom_33 : decode cX2_countFrom 33 = .ok (.goto 4, 3) := by decide +kernel
theorem dX2_countFrom_36 : decode cX2_countFrom 36 = .ok (.iconst 0, 1) := by decide +kernel
theorem dX2_countFrom_37 : decode cX2_countFrom 37 = .ok (.iadd, 1) := by decide +kernel
theorem dX2_countFrom_38 : decode cX2_countFrom 38 = .ok (.istore_n 2, 1) := by decide +kernel
theorem dX2_countFrom_39 : decode cX2_countFrom 39 = .ok (.iinc 3 1, 3) := by decide +kernel
theorem dX2_countFrom_42 : decode cX2_countFrom 42 = .ok (.goto (-38), 3) := by decide +kernel
theorem dX2_countFrom_45 : decode cX2_countFrom 45 = .ok (.iload_n 2, 1) := by decide +kernel
theorem dX2_countFrom_46 : decode cX2_countFrom 46 = .ok (.ireturn, 1) := by decide +kernel
def k9_1 : List (Nat × XI) := [(32, x_push (1) 33), (33, x_goto 37), (36, x_push (0) 37), (37, x_iadd 38), (38, x_istore 2 39), (39, x_iinc 3 (1) 42), (42, x_goto 4), (45, x_iload 2 46), (46, x_iret)]
theorem o9_1 (scr : Nat × (Nat → Int32)) : ∀ q ∈ k9_1, XSnd xm scr Y9 q.1 q.2 := xcons (s_iconst dX2_countFrom_32 rfl) (xcons (s_goto dX2_countFrom_33 rfl) (xcons (s_iconst dX2_countFrom_36 rfl) (xcons (s_iadd dX2_countFrom_37) (xcons (s_istore_n rfl dX2_countFrom_38 (by decide)) (xcons (s_iinc dX2_countFrom_39 rfl (by decide)) (xcons (s_goto dX2_countFrom_42 rfl) (xcons (s_iload_n rfl dX2_countFrom_45) (xcons (s_iret dX2_countFrom_46 rfl) (xnil)))))))))
def k9 (pc : Nat) : XI := if pc < 32 then xlk k9_0 pc else xlk k9_1 pc
theorem o9 (scr : Nat × (Nat → Int32)) (pc : Nat) : XSnd xm scr Y9 pc (k9 pc) := by
  unfold k9
  exact xite (xlk_ok (o9_0 scr) pc) (xlk_ok (o9_1 scr) pc)
theorem dX2_fillWithZeros_0 : decode cX2_fillWithZeros 0 = .ok (.iconst 0, 1) := by decide +kernel
theorem dX2_fillWithZeros_1 : decode cX2_fillWithZeros 1 = .ok (.istore_n 2, 1) := by decide +kernel
theorem dX2_fillWithZeros_2 : decode cX2_fillWithZeros 2 = .ok (.iload_n 2, 1) := by decide +kernel
theorem dX2_fillWithZeros_3 : decode cX2_fillWithZeros 3 = .ok (.aload_n 0, 1) := by decide +kernel
theorem dX2_fillWithZeros_4 : decode cX2_fillWithZeros 4 = .ok (.getfield 7, 3) := by decide +kernel
theorem dX2_fillWithZeros_7 : decode cX2_fillWithZeros 7 = .ok (.arraylength, 1) := by decide +kernel
theorem dX2_fillWithZeros_8 : decode cX2_fillWithZeros 8 = .ok (.if_icmp .ge 16, 3) := by decide +kernel
theorem dX2_fillWithZeros_11 : decode cX2_fillWithZeros 11 = .ok (.aload_n 0, 1) := by decide +kernel
theorem dX2_fillWithZeros_12 : decode cX2_fillWithZeros 12 = .ok (.getfield 7, 3) := by decide +kernel
theorem dX2_fillWithZeros_15 : decode cX2_fillWithZeros 15 = .ok (.iload_n 2, 1) := by decide +kernel
theorem dX2_fillWithZeros_16 : decode cX2_fillWithZeros 16 = .ok (.iconst 0, 1) := by decide +kernel
theorem dX2_fillWithZeros_17 : decode cX2_fillWithZeros 17 = .ok (.iastore, 1) := by decide +kernel
theorem dX2_fillWithZeros_18 : decode cX2_fillWithZeros 18 = .ok (.iinc 2 1, 3) := by decide +kernel
theorem dX2_fillWithZeros_21 : decode cX2_fillWithZeros 21 = .ok (.goto (-19), 3) := by decide +kernel
theorem dX2_fillWithZeros_24 : decode cX2_fillWithZeros 24 = .ok (.aload_n 0, 1) := by decide +kernel
theorem dX2_fillWithZeros_25 : decode cX2_fillWithZeros 25 = .ok (.iconst 0, 1) := by decide +kernel
theorem dX2_fillWithZeros_26 : decode cX2_fillWithZeros 26 = .ok (.iload_n 1, 1) := by decide +kernel
theorem dX2_fillWithZeros_27 : decode cX2_fillWithZeros 27 = .ok (.aload_n 0, 1) := by decide +kernel
theorem dX2_fillWithZeros_28 : decode cX2_fillWithZeros 28 = .ok (.getfield 7, 3) := by decide +kernel
theorem dX2_fillWithZeros_31 : decode cX2_fillWithZeros 31 = .ok (.arraylength, 1) := by decide +kernel
def k10_0 : List (Nat × XI) := [(0, x_push (0) 1), (1, x_istore 2 2), (2, x_iload 2 3), (3, x_aload 0 4), (4, x_getR 2 0 7), (7, x_len 8), (8, x_icge 24 11), (11, x_aload 0 12), (12, x_getR 2 0 15), (15, x_iload 2 16), (16, x_push (0) 17), (17, x_iast 18), (18, x_iinc 2 (1) 21), (21, x_goto 2), (24, x_aload 0 25), (25, x_push (0) 26), (26, x_iload 1 27), (27, x_aload 0 28), (28, x_getR 2 0 31), (31, x_len 32)]
theorem o10_0 (scr : Nat × (Nat → Int32)) : ∀ q ∈ k10_0, XSnd xm scr Y10 q.1 q.2 := xcons (s_iconst dX2_fillWithZeros_0 rfl) (xcons (s_istore_n rfl dX2_fillWithZeros_1 (by decide)) (xcons (s_iload_n rfl dX2_fillWithZeros_2) (xcons (s_aload_n rfl dX2_fillWithZeros_3) (xcons (s_getR (f := 0) xC2 (by decide) xw_51 rfl dX2_fillWithZeros_4) (xcons (s_len dX2_fillWithZeros_7) (xcons (s_icge dX2_fillWithZeros_8 rfl) (xcons (s_aload_n rfl dX2_fillWithZeros_11) (xcons (s_getR (f := 0) xC2 (by decide) xw_51 rfl dX2_fillWithZeros_12) (xcons (s_iload_n rfl dX2_fillWithZeros_15) (xcons (s_iconst dX2_fillWithZeros_16 rfl) (xcons (s_iast dX2_fillWithZeros_17) (xcons (s_iinc dX2_fillWithZeros_18 rfl (by decide)) (xcons (s_goto dX2_fillWithZeros_21 rfl) (xcons (s_aload_n rfl dX2_fillWithZeros_24) (xcons (s_iconst dX2_fillWithZeros_25 rfl) (xcons (s_iload_n rfl dX2_fillWithZeros_26) (xcons (s_aload_n rfl dX2_fillWithZeros_27) (xcons (s_getR (f := 0) xC2 (by decide) xw_51 rfl dX2_fillWithZeros_28) (xcons (s_len dX2_fillWithZeros_31) (xnil))))))))))))))))))))
theorem dX2_fillWithZeros_32 : decode cX2_fillWithZeros 32 = .ok (.invokestatic 17, 3) := by decide +kernel
theorem dX2_fillWithZeros_35 : decode cX2_fillWithZeros 35 = .ok (.invokestatic 23, 3) := by decide +kernel
theorem dX2_fillWithZeros_38 : decode cX2_fillWithZeros 38 = .ok (.putfield 13, 3) := by decide +kernel
theorem dX2_fillWithZeros_41 : decode cX2_fillWithZeros 41 = .ok (.return_, 1) := by decide +kernel
def k10_1 : List (Nat × XI) := [(32, x_mmin 35), (35, x_mmax 38), (38, x_putI 2 1 41), (41, x_ret)]
theorem o10_1 (scr : Nat × (Nat → Int32)) : ∀ q ∈ k10_1, XSnd xm scr Y10 q.1 q.2 := xcons (s_mmin xw_52 xw_53 xw_54 xw_55 dX2_fillWithZeros_32) (xcons (s_mmax xw_56 xw_57 xw_54 xw_58 dX2_fillWithZeros_35) (xcons (s_putI (f := 1) xC2 (by decide) xw_50 rfl (Or.inl rfl) dX2_fillWithZeros_38) (xcons (s_ret dX2_fillWithZeros_41 rfl) (xnil))))
def k10 (pc : Nat) : XI := if pc < 32 then xlk k10_0 pc else xlk k10_1 pc
theorem o10 (scr : Nat × (Nat → Int32)) (pc : Nat) : XSnd xm scr Y10 pc (k10 pc) := by
  unfold k10
  exact xite (xlk_ok (o10_0 scr) pc) (xlk_ok (o10_1 scr) pc)
theorem dX2_has_0 : decode cX2_has 0 = .ok (.iconst 0, 1) := by decide +kernel
theorem dX2_has_1 : decode cX2_has 1 = .ok (.istore_n 2, 1) := by decide +kernel
theorem dX2_has_2 : decode cX2_has 2 = .ok (.iload_n 2, 1) := by decide +kernel
theorem dX2_has_3 : decode cX2_has 3 = .ok (.aload_n 0, 1) := by decide +kernel
theorem dX2_has_4 : decode cX2_has 4 = .ok (.getfield 13, 3) := by decide +kernel
theorem dX2_has_7 : decode cX2_has 7 = .ok (.if_icmp .ge 30, 3) := by decide +kernel
theorem dX2_has_10 : decode cX2_has 10 = .ok (.iload_n 2, 1) := by decide +kernel
theorem dX2_has_11 : decode cX2_has 11 = .ok (.aload_n 0, 1) := by decide +kernel
theorem dX2_has_12 : decode cX2_has 12 = .ok (.getfield 7, 3) := by decide +kernel
theorem dX2_has_15 : decode cX2_has 15 = .ok (.arraylength, 1) := by decide +kernel
theorem dX2_has_16 : decode cX2_has 16 = .ok (.if_icmp .ge 21, 3) := by decide +kernel
theorem dX2_has_19 : decode cX2_has 19 = .ok (.aload_n 0, 1) := by decide +kernel
theorem dX2_has_20 : decode cX2_has 20 = .ok (.getfield 7, 3) := by decide +kernel
theorem dX2_has_23 : decode cX2_has 23 = .ok (.iload_n 2, 1) := by decide +kernel
theorem dX2_has_24 : decode cX2_has 24 = .ok (.iaload, 1) := by decide +kernel
theorem dX2_has_25 : decode cX2_has 25 = .ok (.iload_n 1, 1) := by decide +kernel
theorem dX2_has_26 : decode cX2_has 26 = .ok (.if_icmp .ne 5, 3) := by decide +kernel
theorem dX2_has_29 : decode cX2_has 29 = .ok (.iconst 1, 1) := by decide +kernel
theorem dX2_has_30 : decode cX2_has 30 = .ok (.ireturn, 1) := by decide +kernel
theorem dX2_has_31 : decode cX2_has 31 = .ok (.iinc 2 1, 3) := by decide +kernel
def k11_0 : List (Nat × XI) := [(0, x_push (0) 1), (1, x_istore 2 2), (2, x_iload 2 3), (3, x_aload 0 4), (4, x_getI 2 1 7), (7, x_icge 37 10), (10, x_iload 2 11), (11, x_aload 0 12), (12, x_getR 2 0 15), (15, x_len 16), (16, x_icge 37 19), (19, x_aload 0 20), (20, x_getR 2 0 23), (23, x_iload 2 24), (24, x_iald 25), (25, x_iload 1 26), (26, x_icne 31 29), (29, x_push (1) 30), (30, x_zret), (31, x_iinc 2 (1) 34)]
theorem o11_0 (scr : Nat × (Nat → Int32)) : ∀ q ∈ k11_0, XSnd xm scr Y11 q.1 q.2 := xcons (s_iconst dX2_has_0 rfl) (xcons (s_istore_n rfl dX2_has_1 (by decide)) (xcons (s_iload_n rfl dX2_has_2) (xcons (s_aload_n rfl dX2_has_3) (xcons (s_getI (f := 1) xC2 (by decide) xw_50 rfl dX2_has_4) (xcons (s_icge dX2_has_7 rfl) (xcons (s_iload_n rfl dX2_has_10) (xcons (s_aload_n rfl dX2_has_11) (xcons (s_getR (f := 0) xC2 (by decide) xw_51 rfl dX2_has_12) (xcons (s_len dX2_has_15) (xcons (s_icge dX2_has_16 rfl) (xcons (s_aload_n rfl dX2_has_19) (xcons (s_getR (f := 0) xC2 (by decide) xw_51 rfl dX2_has_20) (xcons (s_iload_n rfl dX2_has_23) (xcons (s_iald dX2_has_24) (xcons (s_iload_n rfl dX2_has_25) (xcons (s_icne dX2_has_26 rfl) (xcons (s_iconst dX2_has_29 rfl) (xcons (s_zret dX2_has_30 rfl) (xcons (s_iinc dX2_has_31 rfl (by decide)) (xnil))))))))))))))))))))
theorem dX2_has_34 : decode cX2_has 34 = .ok (.goto (-32), 3) := by decide +kernel
theorem dX2_has_37 : decode cX2_has 37 = .ok (.iconst 0, 1) := by decide +kernel
theorem dX2_has_38 : decode cX2_has 38 = .ok (.ireturn, 1) := by decide +kernel
def k11_1 : List (Nat × XI) := [(34, x_goto 2), (37, x_push (0) 38), (38, x_zret)]
theorem o11_1 (scr : Nat × (Nat → Int32)) : ∀ q ∈ k11_1, XSnd xm scr Y11 q.1 q.2 := xcons (s_goto dX2_has_34 rfl) (xcons (s_iconst dX2_has_37 rfl) (xcons (s_zret dX2_has_38 rfl) (xnil)))
def k11 (pc : Nat) : XI := if pc < 34 then xlk k11_0 pc else xlk k11_1 pc
theorem o11 (scr : Nat × (Nat → Int32)) (pc : Nat) : XSnd xm scr Y11 pc (k11 pc) := by
  unfold k11
  exact xite (xlk_ok (o11_0 scr) pc) (xlk_ok (o11_1 scr) pc)
theorem dX2_init_0 : decode cX2_init 0 = .ok (.aload_n 0, 1) := by decide +kernel
theorem dX2_init_1 : decode cX2_init 1 = .ok (.invokespecial 1, 3) := by decide +kernel
theorem dX2_init_4 : decode cX2_init 4 = .ok (.aload_n 0, 1) := by decide +kernel
theorem dX2_init_5 : decode cX2_init 5 = .ok (.iload_n 1, 1) := by decide +kernel
theorem dX2_init_6 : decode cX2_init 6 = .ok (.ifCond .ge 7, 3) := by decide +kernel
theorem dX2_init_9 : decode cX2_init 9 = .ok (.iconst 0, 1) := by decide +kernel
theorem dX2_init_10 : decode cX2_init 10 = .ok (.goto 4, 3) := by decide +kernel
theorem dX2_init_13 : decode cX2_init 13 = .ok (.iload_n 1, 1) := by decide +kernel
theorem dX2_init_14 : decode cX2_init 14 = .ok (.newarray .int, 2) := by decide +kernel
theorem dX2_init_16 : decode cX2_init 16 = .ok (.putfield 7, 3) := by decide +kernel
theorem dX2_init_19 : decode cX2_init 19 = .ok (.return_, 1) := by decide +kernel
def k12_0 : List (Nat × XI) := [(0, x_aload 0 1), (1, x_obj 4), (4, x_aload 0 5), (5, x_iload 1 6), (6, x_ifge 13 9), (9, x_push (0) 10), (10, x_goto 14), (13, x_iload 1 14), (14, x_newI 16), (16, x_putR 2 0 19), (19, x_ret)]
theorem o12_0 (scr : Nat × (Nat → Int32)) : ∀ q ∈ k12_0, XSnd xm scr Y12 q.1 q.2 := xcons (s_aload_n rfl dX2_init_0) (xcons (s_obj xw_63 xw_30 xw_31 dX2_init_1) (xcons (s_aload_n rfl dX2_init_4) (xcons (s_iload_n rfl dX2_init_5) (xcons (s_ifge dX2_init_6 rfl) (xcons (s_iconst dX2_init_9 rfl) (xcons (s_goto dX2_init_10 rfl) (xcons (s_iload_n rfl dX2_init_13) (xcons (s_newI xw_64 dX2_init_14) (xcons (s_putR (f := 0) xC2 (by decide) xw_51 rfl (Or.inr ⟨rfl, rfl, rfl⟩) dX2_init_16) (xcons (s_ret dX2_init_19 rfl) (xnil)))))))))))
def k12 (pc : Nat) : XI := xlk k12_0 pc
theorem o12 (scr : Nat × (Nat → Int32)) (pc : Nat) : XSnd xm scr Y12 pc (k12 pc) := by
  unfold k12
  exact xlk_ok (o12_0 scr) pc
theorem dX2_remove_0 : decode cX2_remove 0 = .ok (.iconst 0, 1) := by decide +kernel
theorem dX2_remove_1 : decode cX2_remove 1 = .ok (.istore_n 2, 1) := by decide +kernel
theorem dX2_remove_2 : decode cX2_remove 2 = .ok (.iconst 0, 1) := by decide +kernel
theorem dX2_remove_3 : decode cX2_remove 3 = .ok (.istore_n 3, 1) := by decide +kernel
theorem dX2_remove_4 : decode cX2_remove 4 = .ok (.iload_n 3, 1) := by decide +kernel
theorem dX2_remove_5 : decode cX2_remove 5 = .ok (.aload_n 0, 1) := by decide +kernel
theorem dX2_remove_6 : decode cX2_remove 6 = .ok (.getfield 13, 3) := by decide +kernel
theorem dX2_remove_9 : decode cX2_remove 9 = .ok (.if_icmp .ge 43, 3) := by decide +kernel
theorem dX2_remove_12 : decode cX2_remove 12 = .ok (.iload_n 3, 1) := by decide +kernel
theorem dX2_remove_13 : decode cX2_remove 13 = .ok (.aload_n 0, 1) := by decide +kernel
theorem dX2_remove_14 : decode cX2_remove 14 = .ok (.getfield 7, 3) := by decide +kernel
theorem dX2_remove_17 : decode cX2_remove 17 = .ok (.arraylength, 1) := by decide +kernel
theorem dX2_remove_18 : decode cX2_remove 18 = .ok (.if_icmp .ge 34, 3) := by decide +kernel
theorem dX2_remove_21 : decode cX2_remove 21 = .ok (.aload_n 0, 1) := by decide +kernel
theorem dX2_remove_22 : decode cX2_remove 22 = .ok (.getfield 7, 3) := by decide +kernel
theorem dX2_remove_25 : decode cX2_remove 25 = .ok (.iload_n 3, 1) := by decide +kernel
theorem dX2_remove_26 : decode cX2_remove 26 = .ok (.iaload, 1) := by decide +kernel
theorem dX2_remove_27 : decode cX2_remove 27 = .ok (.iload_n 1, 1) := by decide +kernel
theorem dX2_remove_28 : decode cX2_remove 28 = .ok (.if_icmp .eq 18, 3) := by decide +kernel
theorem dX2_remove_31 : decode cX2_remove 31 = .ok (.aload_n 0, 1) := by decide +kernel
def k13_0 : List (Nat × XI) := [(0, x_push (0) 1), (1, x_istore 2 2), (2, x_push (0) 3), (3, x_istore 3 4), (4, x_iload 3 5), (5, x_aload 0 6), (6, x_getI 2 1 9), (9, x_icge 52 12), (12, x_iload 3 13), (13, x_aload 0 14), (14, x_getR 2 0 17), (17, x_len 18), (18, x_icge 52 21), (21, x_aload 0 22), (22, x_getR 2 0 25), (25, x_iload 3 26), (26, x_iald 27), (27, x_iload 1 28), (28, x_iceq 46 31), (31, x_aload 0 32)]
theorem o13_0 (scr : Nat × (Nat → Int32)) : ∀ q ∈ k13_0, XSnd xm scr Y13 q.1 q.2 := xcons (s_iconst dX2_remove_0 rfl) (xcons (s_istore_n rfl dX2_remove_1 (by decide)) (xcons (s_iconst dX2_remove_2 rfl) (xcons (s_istore_n rfl dX2_remove_3 (by decide)) (xcons (s_iload_n rfl dX2_remove_4) (xcons (s_aload_n rfl dX2_remove_5) (xcons (s_getI (f := 1) xC2 (by decide) xw_50 rfl dX2_remove_6) (xcons (s_icge dX2_remove_9 rfl) (xcons (s_iload_n rfl dX2_remove_12) (xcons (s_aload_n rfl dX2_remove_13) (xcons (s_getR (f := 0) xC2 (by decide) xw_51 rfl dX2_remove_14) (xcons (s_len dX2_remove_17) (xcons (s_icge dX2_remove_18 rfl) (xcons (s_aload_n rfl dX2_remove_21) (xcons (s_getR (f := 0) xC2 (by decide) xw_51 rfl dX2_remove_22) (xcons (s_iload_n rfl dX2_remove_25) (xcons (s_iald dX2_remove_26) (xcons (s_iload_n rfl dX2_remove_27) (xcons (s_iceq dX2_remove_28 rfl) (xcons (s_aload_n rfl dX2_remove_31) (xnil))))))))))))))))))))
theorem dX2_remove_32 : decode cX2_remove 32 = .ok (.getfield 7, 3) := by decide +kernel
theorem dX2_remove_35 : decode cX2_remove 35 = .ok (.iload_n 2, 1) := by decide +kernel
theorem dX2_remove_36 : decode cX2_remove 36 = .ok (.aload_n 0, 1) := by decide +kernel
theorem dX2_remove_37 : decode cX2_remove 37 = .ok (.getfield 7, 3) := by decide +kernel
theorem dX2_remove_40 : decode cX2_remove 40 = .ok (.iload_n 3, 1) := by decide +kernel
theorem dX2_remove_41 : decode cX2_remove 41 = .ok (.iaload, 1) := by decide +kernel
theorem dX2_remove_42 : decode cX2_remove 42 = .ok (.iastore, 1) := by decide +kernel
theorem dX2_remove_43 : decode cX2_remove 43 = .ok (.iinc 2 1, 3) := by decide +kernel
theorem dX2_remove_46 : decode cX2_remove 46 = .ok (.iinc 3 1, 3) := by decide +kernel
theorem dX2_remove_49 : decode cX2_remove 49 = .ok (.goto (-45), 3) := by decide +kernel
theorem dX2_remove_52 : decode cX2_remove 52 = .ok (.aload_n 0, 1) := by decide +kernel
theorem dX2_remove_53 : decode cX2_remove 53 = .ok (.iload_n 2, 1) := by decide +kernel
theorem dX2_remove_54 : decode cX2_remove 54 = .ok (.putfield 13, 3) := by decide +kernel
theorem dX2_remove_57 : decode cX2_remove 57 = .ok (.return_, 1) := by decide +kernel
def k13_1 : List (Nat × XI) := [(32, x_getR 2 0 35), (35, x_iload 2 36), (36, x_aload 0 37), (37, x_getR 2 0 40), (40, x_iload 3 41), (41, x_iald 42), (42, x_iast 43), (43, x_iinc 2 (1) 46), (46, x_iinc 3 (1) 49), (49, x_goto 4), (52, x_aload 0 53), (53, x_iload 2 54), (54, x_putI 2 1 57), (57, x_ret)]
theorem o13_1 (scr : Nat × (Nat → Int32)) : ∀ q ∈ k13_1, XSnd xm scr Y13 q.1 q.2 := xcons (s_getR (f := 0) xC2 (by decide) xw_51 rfl dX2_remove_32) (xcons (s_iload_n rfl dX2_remove_35) (xcons (s_aload_n rfl dX2_remove_36) (xcons (s_getR (f := 0) xC2 (by decide) xw_51 rfl dX2_remove_37) (xcons (s_iload_n rfl dX2_remove_40) (xcons (s_iald dX2_remove_41) (xcons (s_iast dX2_remove_42) (xcons (s_iinc dX2_remove_43 rfl (by decide)) (xcons (s_iinc dX2_remove_46 rfl (by decide)) (xcons (s_goto dX2_remove_49 rfl) (xcons (s_aload_n rfl dX2_remove_52) (xcons (s_iload_n rfl dX2_remove_53) (xcons (s_putI (f := 1) xC2 (by decide) xw_50 rfl (Or.inl rfl) dX2_remove_54) (xcons (s_ret dX2_remove_57 rfl) (xnil))))))))))))))
def k13 (pc : Nat) : XI := if pc < 32 then xlk k13_0 pc else xlk k13_1 pc
theorem o13 (scr : Nat × (Nat → Int32)) (pc : Nat) : XSnd xm scr Y13 pc (k13 pc) := by
  unfold k13
  exact xite (xlk_ok (o13_0 scr) pc) (xlk_ok (o13_1 scr) pc)
theorem dX2_removeBelow_0 : decode cX2_removeBelow 0 = .ok (.iconst 0, 1) := by decide +kernel
theorem dX2_removeBelow_1 : decode cX2_removeBelow 1 = .ok (.istore_n 2, 1) := by decide +kernel
theorem dX2_removeBelow_2 : decode cX2_removeBelow 2 = .ok (.iconst 0, 1) := by decide +kernel
theorem dX2_removeBelow_3 : decode cX2_removeBelow 3 = .ok (.istore_n 3, 1) := by decide +kernel
theorem dX2_removeBelow_4 : decode cX2_removeBelow 4 = .ok (.iload_n 3, 1) := by decide +kernel
theorem dX2_removeBelow_5 : decode cX2_removeBelow 5 = .ok (.aload_n 0, 1) := by decide +kernel
theorem dX2_removeBelow_6 : decode cX2_removeBelow 6 = .ok (.getfield 13, 3) := by decide +kernel
theorem dX2_removeBelow_9 : decode cX2_removeBelow 9 = .ok (.if_icmp .ge 43, 3) := by decide +kernel
theorem dX2_removeBelow_12 : decode cX2_removeBelow 12 = .ok (.iload_n 3, 1) := by decide +kernel
theorem dX2_removeBelow_13 : decode cX2_removeBelow 13 = .ok (.aload_n 0, 1) := by decide +kernel
theorem dX2_removeBelow_14 : decode cX2_removeBelow 14 = .ok (.getfield 7, 3) := by decide +kernel
theorem dX2_removeBelow_17 : decode cX2_removeBelow 17 = .ok (.arraylength, 1) := by decide +kernel
theorem dX2_removeBelow_18 : decode cX2_removeBelow 18 = .ok (.if_icmp .ge 34, 3) := by decide +kernel
theorem dX2_removeBelow_21 : decode cX2_removeBelow 21 = .ok (.aload_n 0, 1) := by decide +kernel
theorem dX2_removeBelow_22 : decode cX2_removeBelow 22 = .ok (.getfield 7, 3) := by decide +kernel
theorem dX2_removeBelow_25 : decode cX2_removeBelow 25 = .ok (.iload_n 3, 1) := by decide +kernel
theorem dX2_removeBelow_26 : decode cX2_removeBelow 26 = .ok (.iaload, 1) := by decide +kernel
theorem dX2_removeBelow_27 : decode cX2_removeBelow 27 = .ok (.iload_n 1, 1) := by decide +kernel
theorem dX2_removeBelow_28 : decode cX2_removeBelow 28 = .ok (.if_icmp .lt 18, 3) := by decide +kernel
theorem dX2_removeBelow_31 : decode cX2_removeBelow 31 = .ok (.aload_n 0, 1) := by decide +kernel
def k14_0 : List (Nat × XI) := [(0, x_push (0) 1), (1, x_istore 2 2), (2, x_push (0) 3), (3, x_istore 3 4), (4, x_iload 3 5), (5, x_aload 0 6), (6, x_getI 2 1 9), (9, x_icge 52 12), (12, x_iload 3 13), (13, x_aload 0 14), (14, x_getR 2 0 17), (17, x_len 18), (18, x_icge 52 21), (21, x_aload 0 22), (22, x_getR 2 0 25), (25, x_iload 3 26), (26, x_iald 27), (27, x_iload 1 28), (28, x_iclt 46 31), (31, x_aload 0 32)]
theorem o14_0 (scr : Nat × (Nat → Int32)) : ∀ q ∈ k14_0, XSnd xm scr Y14 q.1 q.2 := xcons (s_iconst dX2_removeBelow_0 rfl) (xcons (s_istore_n rfl dX2_removeBelow_1 (by decide)) (xcons (s_iconst dX2_removeBelow_2 rfl) (xcons (s_istore_n rfl dX2_removeBelow_3 (by decide)) (xcons (s_iload_n rfl dX2_removeBelow_4) (xcons (s_aload_n rfl dX2_removeBelow_5) (xcons (s_getI (f := 1) xC2 (by decide) xw_50 rfl dX2_removeBelow_6) (xcons (s_icge dX2_removeBelow_9 rfl) (xcons (s_iload_n rfl dX2_removeBelow_12) (xcons (s_aload_n rfl dX2_removeBelow_13) (xcons (s_getR (f := 0) xC2 (by decide) xw_51 rfl dX2_removeBelow_14) (xcons (s_len dX2_removeBelow_17) (xcons (s_icge dX2_removeBelow_18 rfl) (xcons (s_aload_n rfl dX2_removeBelow_21) (xcons (s_getR (f := 0) xC2 (by decide) xw_51 rfl dX2_removeBelow_22) (xcons (s_iload_n rfl dX2_removeBelow_25) (xcons (s_iald dX2_removeBelow_26) (xcons (s_iload_n rfl dX2_removeBelow_27) (xcons (s_iclt dX2_removeBelow_28 rfl) (xcons (s_aload_n rfl dX2_removeBelow_31) (xnil))))))))))))))))))))
theorem dX2_removeBelow_32 : decode cX2_removeBelow 32 = .ok (.getfield 7, 3) := by decide +kernel
theorem dX2_removeBelow_35 : decode cX2_removeBelow 35 = .ok (.iload_n 2, 1) := by decide +kernel
theorem dX2_removeBelow_36 : decode cX2_removeBelow 36 = .ok (.aload_n 0, 1) := by decide +kernel
theorem dX2_removeBelow_37 : decode cX2_removeBelow 37 = .ok (.getfield 7, 3) := by decide +kernel
theorem dX2_removeBelow_40 : decode cX2_removeBelow 40 = .ok (.iload_n 3, 1) := by decide +kernel
theorem dX2_removeBelow_41 : decode cX2_removeBelow 41 = .ok (.iaload, 1) := by decide +kernel
theorem dX2_removeBelow_42 : decode cX2_removeBelow 42 = .ok (.iastore, 1) := by decide +kernel
theorem dX2_removeBelow_43 : decode cX2_removeBelow 43 = .ok (.iinc 2 1, 3) := by decide +kernel
theorem dX2_removeBelow_46 : decode cX2_removeBelow 46 = .ok (.iinc 3 1, 3) := by decide +kernel
theorem dX2_removeBelow_49 : decode cX2_removeBelow 49 = .ok (.goto (-45), 3) := by decide +kernel
theorem dX2_removeBelow_52 : decode cX2_removeBelow 52 = .ok (.aload_n 0, 1) := by decide +kernel
theorem dX2_removeBelow_53 : decode cX2_removeBelow 53 = .ok (.iload_n 2, 1) := by decide +kernel
theorem dX2_removeBelow_54 : decode cX2_removeBelow 54 = .ok (.putfield 13, 3) := by decide +kernel
theorem dX2_removeBelow_57 : decode cX2_removeBelow 57 = .ok (.return_, 1) := by decide +kernel
def k14_1 : List (Nat × XI) := [(32, x_getR 2 0 35), (35, x_iload 2 36), (36, x_aload 0 37), (37, x_getR 2 0 40), (40, x_iload 3 41), (41, x_iald 42), (42, x_iast 43), (43, x_iinc 2 (1) 46), (46, x_iinc 3 (1) 49), (49, x_goto 4), (52, x_aload 0 53), (53, x_iload 2 54), (54, x_putI 2 1 57), (57, x_ret)]
theorem o14_1 (scr : Nat × (Nat → Int32)) : ∀ q ∈ k14_1, XSnd xm scr Y14 q.1 q.2 := xcons (s_getR (f := 0) xC2 (by decide) xw_51 rfl dX2_removeBelow_32) (xcons (s_iload_n rfl dX2_removeBelow_35) (xcons (s_aload_n rfl dX2_removeBelow_36) (xcons (s_getR (f := 0) xC2 (by decide) xw_51 rfl dX2_removeBelow_37) (xcons (s_iload_n rfl dX2_removeBelow_40) (xcons (s_iald dX2_removeBelow_41) (xcons (s_iast dX2_removeBelow_42) (xcons (s_iinc dX2_removeBelow_43 rfl (by decide)) (xcons (s_iinc dX2_removeBelow_46 rfl (by decide)) (xcons (s_goto dX2_removeBelow_49 rfl) (xcons (s_aload_n rfl dX2_removeBelow_52) (xcons (s_iload_n rfl dX2_removeBelow_53) (xcons (s_putI (f := 1) xC2 (by decide) xw_50 rfl (Or.inl rfl) dX2_removeBelow_54) (xcons (s_ret dX2_removeBelow_57 rfl) (xnil))))))))))))))
def k14 (pc : Nat) : XI := if pc < 32 then xlk k14_0 pc else xlk k14_1 pc
theorem o14 (scr : Nat × (Nat → Int32)) (pc : Nat) : XSnd xm scr Y14 pc (k14 pc) := by
  unfold k14
  exact xite (xlk_ok (o14_0 scr) pc) (xlk_ok (o14_1 scr) pc)
theorem dX3_add_0 : decode cX3_add 0 = .ok (.aload_n 0, 1) := by decide +kernel
theorem dX3_add_1 : decode cX3_add 1 = .ok (.getfield 18, 3) := by decide +kernel
theorem dX3_add_4 : decode cX3_add 4 = .ok (.ifCond .lt 27, 3) := by decide +kernel
theorem dX3_add_7 : decode cX3_add 7 = .ok (.aload_n 0, 1) := by decide +kernel
theorem dX3_add_8 : decode cX3_add 8 = .ok (.getfield 18, 3) := by decide +kernel
theorem dX3_add_11 : decode cX3_add 11 = .ok (.aload_n 0, 1) := by decide +kernel
theorem dX3_add_12 : decode cX3_add 12 = .ok (.getfield 9, 3) := by decide +kernel
theorem dX3_add_15 : decode cX3_add 15 = .ok (.arraylength, 1) := by decide +kernel
theorem dX3_add_16 : decode cX3_add 16 = .ok (.if_icmp .ge 15, 3) := by decide +kernel
theorem dX3_add_19 : decode cX3_add 19 = .ok (.aload_n 0, 1) := by decide +kernel
theorem dX3_add_20 : decode cX3_add 20 = .ok (.getfield 18, 3) := by decide +kernel
theorem dX3_add_23 : decode cX3_add 23 = .ok (.aload_n 0, 1) := by decide +kernel
theorem dX3_add_24 : decode cX3_add 24 = .ok (.getfield 15, 3) := by decide +kernel
theorem dX3_add_27 : decode cX3_add 27 = .ok (.arraylength, 1) := by decide +kernel
theorem dX3_add_28 : decode cX3_add 28 = .ok (.if_icmp .lt 5, 3) := by decide +kernel
theorem dX3_add_31 : decode cX3_add 31 = .ok (.iconst 0, 1) := by decide +kernel
theorem dX3_add_32 : decode cX3_add 32 = .ok (.ireturn, 1) := by decide +kernel
theorem dX3_add_33 : decode cX3_add 33 = .ok (.aload_n 0, 1) := by decide +kernel
theorem dX3_add_34 : decode cX3_add 34 = .ok (.getfield 9, 3) := by decide +kernel
theorem dX3_add_37 : decode cX3_add 37 = .ok (.aload_n 0, 1) := by decide +kernel
def k15_0 : List (Nat × XI) := [(0, x_aload 0 1), (1, x_getI 3 2 4), (4, x_iflt 31 7), (7, x_aload 0 8), (8, x_getI 3 2 11), (11, x_aload 0 12), (12, x_getR 3 0 15), (15, x_len 16), (16, x_icge 31 19), (19, x_aload 0 20), (20, x_getI 3 2 23), (23, x_aload 0 24), (24, x_getR 3 1 27), (27, x_len 28), (28, x_iclt 33 31), (31, x_push (0) 32), (32, x_zret), (33, x_aload 0 34), (34, x_getR 3 0 37), (37, x_aload 0 38)]
theorem o15_0 (scr : Nat × (Nat → Int32)) : ∀ q ∈ k15_0, XSnd xm scr Y15 q.1 q.2 := xcons (s_aload_n rfl dX3_add_0) (xcons (s_getI (f := 2) xC3 (by decide) xw_65 rfl dX3_add_1) (xcons (s_iflt dX3_add_4 rfl) (xcons (s_aload_n rfl dX3_add_7) (xcons (s_getI (f := 2) xC3 (by decide) xw_65 rfl dX3_add_8) (xcons (s_aload_n rfl dX3_add_11) (xcons (s_getR (f := 0) xC3 (by decide) xw_66 rfl dX3_add_12) (xcons (s_len dX3_add_15) (xcons (s_icge dX3_add_16 rfl) (xcons (s_aload_n rfl dX3_add_19) (xcons (s_getI (f := 2) xC3 (by decide) xw_65 rfl dX3_add_20) (xcons (s_aload_n rfl dX3_add_23) (xcons (s_getR (f := 1) xC3 (by decide) xw_67 rfl dX3_add_24) (xcons (s_len dX3_add_27) (xcons (s_iclt dX3_add_28 rfl) (xcons (s_iconst dX3_add_31 rfl) (xcons (s_zret dX3_add_32 rfl) (xcons (s_aload_n rfl dX3_add_33) (xcons (s_getR (f := 0) xC3 (by decide) xw_66 rfl dX3_add_34) (xcons (s_aload_n rfl dX3_add_37) (xnil))))))))))))))))))))
theorem dX3_add_38 : decode cX3_add 38 = .ok (.getfield 18, 3) := by decide +kernel
theorem dX3_add_41 : decode cX3_add 41 = .ok (.iload_n 1, 1) := by decide +kernel
theorem dX3_add_42 : decode cX3_add 42 = .ok (.iastore, 1) := by decide +kernel
theorem dX3_add_43 : decode cX3_add 43 = .ok (.aload_n 0, 1) := by decide +kernel
theorem dX3_add_44 : decode cX3_add 44 = .ok (.getfield 15, 3) := by decide +kernel
theorem dX3_add_47 : decode cX3_add 47 = .ok (.aload_n 0, 1) := by decide +kernel
theorem dX3_add_48 : decode cX3_add 48 = .ok (.getfield 18, 3) := by decide +kernel
theorem dX3_add_51 : decode cX3_add 51 = .ok (.iload_n 2, 1) := by decide +kernel
theorem dX3_add_52 : decode cX3_add 52 = .ok (.iastore, 1) := by decide +kernel
theorem dX3_add_53 : decode cX3_add 53 = .ok (.aload_n 0, 1) := by decide +kernel
theorem dX3_add_54 : decode cX3_add 54 = .ok (.dup, 1) := by decide +kernel
theorem dX3_add_55 : decode cX3_add 55 = .ok (.getfield 18, 3) := by decide +kernel
theorem dX3_add_58 : decode cX3_add 58 = .ok (.iconst 1, 1) := by decide +kernel
theorem dX3_add_59 : decode cX3_add 59 = .ok (.iadd, 1) := by decide +kernel
theorem dX3_add_60 : decode cX3_add 60 = .ok (.putfield 18, 3) := by decide +kernel
theorem dX3_add_63 : decode cX3_add 63 = .ok (.iconst 1, 1) := by decide +kernel
theorem dX3_add_64 : decode cX3_add 64 = .ok (.ireturn, 1) := by decide +kernel
def k15_1 : List (Nat × XI) := [(38, x_getI 3 2 41), (41, x_iload 1 42), (42, x_iast 43), (43, x_aload 0 44), (44, x_getR 3 1 47), (47, x_aload 0 48), (48, x_getI 3 2 51), (51, x_iload 2 52), (52, x_iast 53), (53, x_aload 0 54), (54, x_dup 55), (55, x_getI 3 2 58), (58, x_push (1) 59), (59, x_iadd 60), (60, x_putI 3 2 63), (63, x_push (1) 64), (64, x_zret)]
theorem o15_1 (scr : Nat × (Nat → Int32)) : ∀ q ∈ k15_1, XSnd xm scr Y15 q.1 q.2 := xcons (s_getI (f := 2) xC3 (by decide) xw_65 rfl dX3_add_38) (xcons (s_iload_n rfl dX3_add_41) (xcons (s_iast dX3_add_42) (xcons (s_aload_n rfl dX3_add_43) (xcons (s_getR (f := 1) xC3 (by decide) xw_67 rfl dX3_add_44) (xcons (s_aload_n rfl dX3_add_47) (xcons (s_getI (f := 2) xC3 (by decide) xw_65 rfl dX3_add_48) (xcons (s_iload_n rfl dX3_add_51) (xcons (s_iast dX3_add_52) (xcons (s_aload_n rfl dX3_add_53) (xcons (s_dup dX3_add_54) (xcons (s_getI (f := 2) xC3 (by decide) xw_65 rfl dX3_add_55) (xcons (s_iconst dX3_add_58 rfl) (xcons (s_iadd dX3_add_59) (xcons (s_putI (f := 2) xC3 (by decide) xw_65 rfl (Or.inl rfl) dX3_add_60) (xcons (s_iconst dX3_add_63 rfl) (xcons (s_zret dX3_add_64 rfl) (xnil)))))))))))))))))
def k15 (pc : Nat) : XI := if pc < 38 then xlk k15_0 pc else xlk k15_1 pc
theorem o15 (scr : Nat × (Nat → Int32)) (pc : Nat) : XSnd xm scr Y15 pc (k15 pc) := by
  unfold k15
  exact xite (xlk_ok (o15_0 scr) pc) (xlk_ok (o15_1 scr) pc)
theorem dX3_addDroppingOldest_0 : decode cX3_addDroppingOldest 0 = .ok (.aload_n 0, 1) := by decide +kernel
theorem dX3_addDroppingOldest_1 : decode cX3_addDroppingOldest 1 = .ok (.getfield 18, 3) := by decide +kernel
theorem dX3_addDroppingOldest_4 : decode cX3_addDroppingOldest 4 = .ok (.aload_n 0, 1) := by decide +kernel
theorem dX3_addDroppingOldest_5 : decode cX3_addDroppingOldest 5 = .ok (.getfield 9, 3) := by decide +kernel
theorem dX3_addDroppingOldest_8 : decode cX3_addDroppingOldest 8 = .ok (.arraylength, 1) := by decide +kernel
theorem dX3_addDroppingOldest_9 : decode cX3_addDroppingOldest 9 = .ok (.if_icmp .ne 7, 3) := by decide +kernel
theorem dX3_addDroppingOldest_12 : decode cX3_addDroppingOldest 12 = .ok (.aload_n 0, 1) := by decide +kernel
theorem dX3_addDroppingOldest_13 : decode cX3_addDroppingOldest 13 = .ok (.invokevirtual 22, 3) := by decide +kernel
theorem dX3_addDroppingOldest_16 : decode cX3_addDroppingOldest 16 = .ok (.aload_n 0, 1) := by decide +kernel
theorem dX3_addDroppingOldest_17 : decode cX3_addDroppingOldest 17 = .ok (.iload_n 1, 1) := by decide +kernel
theorem dX3_addDroppingOldest_18 : decode cX3_addDroppingOldest 18 = .ok (.iload_n 2, 1) := by decide +kernel
theorem dX3_addDroppingOldest_19 : decode cX3_addDroppingOldest 19 = .ok (.invokevirtual 25, 3) := by decide +kernel
theorem dX3_addDroppingOldest_22 : decode cX3_addDroppingOldest 22 = .ok (.pop, 1) := by decide +kernel
theorem dX3_addDroppingOldest_23 : decode cX3_addDroppingOldest 23 = .ok (.return_, 1) := by decide +kernel
def k16_0 : List (Nat × XI) := [(0, x_aload 0 1), (1, x_getI 3 2 4), (4, x_aload 0 5), (5, x_getR 3 0 8), (8, x_len 9), (9, x_icne 16 12), (12, x_aload 0 13), (13, x_inv 21 3 0 16), (16, x_aload 0 17), (17, x_iload 1 18), (18, x_iload 2 19), (19, x_inv 15 3 2 22), (22, x_pop 23), (23, x_ret)]
theorem o16_0 (scr : Nat × (Nat → Int32)) : ∀ q ∈ k16_0, XSnd xm scr Y16 q.1 q.2 := xcons (s_aload_n rfl dX3_addDroppingOldest_0) (xcons (s_getI (f := 2) xC3 (by decide) xw_65 rfl dX3_addDroppingOldest_1) (xcons (s_aload_n rfl dX3_addDroppingOldest_4) (xcons (s_getR (f := 0) xC3 (by decide) xw_66 rfl dX3_addDroppingOldest_5) (xcons (s_len dX3_addDroppingOldest_8) (xcons (s_icne dX3_addDroppingOldest_9 rfl) (xcons (s_aload_n rfl dX3_addDroppingOldest_12) (xcons (s_inv (mid := 21) xC3 cal_21 xw_69 xw_70 xw_71 dX3_addDroppingOldest_13) (xcons (s_aload_n rfl dX3_addDroppingOldest_16) (xcons (s_iload_n rfl dX3_addDroppingOldest_17) (xcons (s_iload_n rfl dX3_addDroppingOldest_18) (xcons (s_inv (mid := 15) xC3 cal_15 xw_73 xw_74 xw_75 dX3_addDroppingOldest_19) (xcons (s_pop dX3_addDroppingOldest_22) (xcons (s_ret dX3_addDroppingOldest_23 rfl) (xnil))))))))))))))
def k16 (pc : Nat) : XI := xlk k16_0 pc
theorem o16 (scr : Nat × (Nat → Int32)) (pc : Nat) : XSnd xm scr Y16 pc (k16 pc) := by
  unfold k16
  exact xlk_ok (o16_0 scr) pc
theorem dX3_copyFrom_0 : decode cX3_copyFrom 0 = .ok (.aload_n 0, 1) := by decide +kernel
theorem dX3_copyFrom_1 : decode cX3_copyFrom 1 = .ok (.iconst 0, 1) := by decide +kernel
theorem dX3_copyFrom_2 : decode cX3_copyFrom 2 = .ok (.aload_n 1, 1) := by decide +kernel
theorem dX3_copyFrom_3 : decode cX3_copyFrom 3 = .ok (.getfield 18, 3) := by decide +kernel
theorem dX3_copyFrom_6 : decode cX3_copyFrom 6 = .ok (.aload_n 0, 1) := by decide +kernel
theorem dX3_copyFrom_7 : decode cX3_copyFrom 7 = .ok (.getfield 9, 3) := by decide +kernel
theorem dX3_copyFrom_10 : decode cX3_copyFrom 10 = .ok (.arraylength, 1) := by decide +kernel
theorem dX3_copyFrom_11 : decode cX3_copyFrom 11 = .ok (.aload_n 1, 1) := by decide +kernel
theorem dX3_copyFrom_12 : decode cX3_copyFrom 12 = .ok (.getfield 9, 3) := by decide +kernel
theorem dX3_copyFrom_15 : decode cX3_copyFrom 15 = .ok (.arraylength, 1) := by decide +kernel
theorem dX3_copyFrom_16 : decode cX3_copyFrom 16 = .ok (.invokestatic 35, 3) := by decide +kernel
theorem dX3_copyFrom_19 : decode cX3_copyFrom 19 = .ok (.invokestatic 35, 3) := by decide +kernel
theorem dX3_copyFrom_22 : decode cX3_copyFrom 22 = .ok (.invokestatic 41, 3) := by decide +kernel
theorem dX3_copyFrom_25 : decode cX3_copyFrom 25 = .ok (.putfield 18, 3) := by decide +kernel
theorem dX3_copyFrom_28 : decode cX3_copyFrom 28 = .ok (.aload_n 1, 1) := by decide +kernel
theorem dX3_copyFrom_29 : decode cX3_copyFrom 29 = .ok (.getfield 9, 3) := by decide +kernel
theorem dX3_copyFrom_32 : decode cX3_copyFrom 32 = .ok (.iconst 0, 1) := by decide +kernel
theorem dX3_copyFrom_33 : decode cX3_copyFrom 33 = .ok (.aload_n 0, 1) := by decide +kernel
theorem dX3_copyFrom_34 : decode cX3_copyFrom 34 = .ok (.getfield 9, 3) := by decide +kernel
theorem dX3_copyFrom_37 : decode cX3_copyFrom 37 = .ok (.iconst 0, 1) := by decide +kernel
def k17_0 : List (Nat × XI) := [(0, x_aload 0 1), (1, x_push (0) 2), (2, x_aload 1 3), (3, x_getI 3 2 6), (6, x_aload 0 7), (7, x_getR 3 0 10), (10, x_len 11), (11, x_aload 1 12), (12, x_getR 3 0 15), (15, x_len 16), (16, x_mmin 19), (19, x_mmin 22), (22, x_mmax 25), (25, x_putI 3 2 28), (28, x_aload 1 29), (29, x_getR 3 0 32), (32, x_push (0) 33), (33, x_aload 0 34), (34, x_getR 3 0 37), (37, x_push (0) 38)]
theorem o17_0 (scr : Nat × (Nat → Int32)) : ∀ q ∈ k17_0, XSnd xm scr Y17 q.1 q.2 := xcons (s_aload_n rfl dX3_copyFrom_0) (xcons (s_iconst dX3_copyFrom_1 rfl) (xcons (s_aload_n rfl dX3_copyFrom_2) (xcons (s_getI (f := 2) xC3 (by decide) xw_65 rfl dX3_copyFrom_3) (xcons (s_aload_n rfl dX3_copyFrom_6) (xcons (s_getR (f := 0) xC3 (by decide) xw_66 rfl dX3_copyFrom_7) (xcons (s_len dX3_copyFrom_10) (xcons (s_aload_n rfl dX3_copyFrom_11) (xcons (s_getR (f := 0) xC3 (by decide) xw_66 rfl dX3_copyFrom_12) (xcons (s_len dX3_copyFrom_15) (xcons (s_mmin xw_76 xw_53 xw_54 xw_55 dX3_copyFrom_16) (xcons (s_mmin xw_76 xw_53 xw_54 xw_55 dX3_copyFrom_19) (xcons (s_mmax xw_77 xw_57 xw_54 xw_58 dX3_copyFrom_22) (xcons (s_putI (f := 2) xC3 (by decide) xw_65 rfl (Or.inl rfl) dX3_copyFrom_25) (xcons (s_aload_n rfl dX3_copyFrom_28) (xcons (s_getR (f := 0) xC3 (by decide) xw_66 rfl dX3_copyFrom_29) (xcons (s_iconst dX3_copyFrom_32 rfl) (xcons (s_aload_n rfl dX3_copyFrom_33) (xcons (s_getR (f := 0) xC3 (by decide) xw_66 rfl dX3_copyFrom_34) (xcons (s_iconst dX3_copyFrom_37 rfl) (xnil))))))))))))))))))))
theorem dX3_copyFrom_38 : decode cX3_copyFrom 38 = .ok (.aload_n 0, 1) := by decide +kernel
theorem dX3_copyFrom_39 : decode cX3_copyFrom 39 = .ok (.getfield 18, 3) := by decide +kernel
theorem dX3_copyFrom_42 : decode cX3_copyFrom 42 = .ok (.invokestatic 29, 3) := by decide +kernel
theorem dX3_copyFrom_45 : decode cX3_copyFrom 45 = .ok (.aload_n 1, 1) := by decide +kernel
theorem dX3_copyFrom_46 : decode cX3_copyFrom 46 = .ok (.getfield 15, 3) := by decide +kernel
theorem dX3_copyFrom_49 : decode cX3_copyFrom 49 = .ok (.iconst 0, 1) := by decide +kernel
theorem dX3_copyFrom_50 : decode cX3_copyFrom 50 = .ok (.aload_n 0, 1) := by decide +kernel
theorem dX3_copyFrom_51 : decode cX3_copyFrom 51 = .ok (.getfield 15, 3) := by decide +kernel
theorem dX3_copyFrom_54 : decode cX3_copyFrom 54 = .ok (.iconst 0, 1) := by decide +kernel
theorem dX3_copyFrom_55 : decode cX3_copyFrom 55 = .ok (.aload_n 0, 1) := by decide +kernel
theorem dX3_copyFrom_56 : decode cX3_copyFrom 56 = .ok (.getfield 18, 3) := by decide +kernel
theorem dX3_copyFrom_59 : decode cX3_copyFrom 59 = .ok (.invokestatic 29, 3) := by decide +kernel
theorem dX3_copyFrom_62 : decode cX3_copyFrom 62 = .ok (.return_, 1) := by decide +kernel
def k17_1 : List (Nat × XI) := [(38, x_aload 0 39), (39, x_getI 3 2 42), (42, x_copy 45), (45, x_aload 1 46), (46, x_getR 3 1 49), (49, x_push (0) 50), (50, x_aload 0 51), (51, x_getR 3 1 54), (54, x_push (0) 55), (55, x_aload 0 56), (56, x_getI 3 2 59), (59, x_copy 62), (62, x_ret)]
theorem o17_1 (scr : Nat × (Nat → Int32)) : ∀ q ∈ k17_1, XSnd xm scr Y17 q.1 q.2 := xcons (s_aload_n rfl dX3_copyFrom_38) (xcons (s_getI (f := 2) xC3 (by decide) xw_65 rfl dX3_copyFrom_39) (xcons (s_copy xw_78 xw_60 xw_61 xw_62 dX3_copyFrom_42) (xcons (s_aload_n rfl dX3_copyFrom_45) (xcons (s_getR (f := 1) xC3 (by decide) xw_67 rfl dX3_copyFrom_46) (xcons (s_iconst dX3_copyFrom_49 rfl) (xcons (s_aload_n rfl dX3_copyFrom_50) (xcons (s_getR (f := 1) xC3 (by decide) xw_67 rfl dX3_copyFrom_51) (xcons (s_iconst dX3_copyFrom_54 rfl) (xcons (s_aload_n rfl dX3_copyFrom_55) (xcons (s_getI (f := 2) xC3 (by decide) xw_65 rfl dX3_copyFrom_56) (xcons (s_copy xw_78 xw_60 xw_61 xw_62 dX3_copyFrom_59) (xcons (s_ret dX3_copyFrom_62 rfl) (xnil)))))))))))))
def k17 (pc : Nat) : XI := if pc < 38 then xlk k17_0 pc else xlk k17_1 pc
theorem o17 (scr : Nat × (Nat → Int32)) (pc : Nat) : XSnd xm scr Y17 pc (k17 pc) := by
  unfold k17
  exact xite (xlk_ok (o17_0 scr) pc) (xlk_ok (o17_1 scr) pc)
theorem dX3_firstAt_0 : decode cX3_firstAt 0 = .ok (.iload_n 1, 1) := by decide +kernel
theorem dX3_firstAt_1 : decode cX3_firstAt 1 = .ok (.ifCond .lt 21, 3) := by decide +kernel
theorem dX3_firstAt_4 : decode cX3_firstAt 4 = .ok (.iload_n 1, 1) := by decide +kernel
theorem dX3_firstAt_5 : decode cX3_firstAt 5 = .ok (.aload_n 0, 1) := by decide +kernel
theorem dX3_firstAt_6 : decode cX3_firstAt 6 = .ok (.getfield 9, 3) := by decide +kernel
theorem dX3_firstAt_9 : decode cX3_firstAt 9 = .ok (.arraylength, 1) := by decide +kernel
theorem dX3_firstAt_10 : decode cX3_firstAt 10 = .ok (.if_icmp .ge 12, 3) := by decide +kernel
theorem dX3_firstAt_13 : decode cX3_firstAt 13 = .ok (.aload_n 0, 1) := by decide +kernel
theorem dX3_firstAt_14 : decode cX3_firstAt 14 = .ok (.getfield 9, 3) := by decide +kernel
theorem dX3_firstAt_17 : decode cX3_firstAt 17 = .ok (.iload_n 1, 1) := by decide +kernel
theorem dX3_firstAt_18 : decode cX3_firstAt 18 = .ok (.iaload, 1) := by decide +kernel
theorem dX3_firstAt_19 : decode cX3_firstAt 19 = .ok (.goto 4, 3) := by decide +kernel
theorem dX3_firstAt_22 : decode cX3_firstAt 22 = .ok (.iconst (-1), 1) := by decide +kernel
theorem dX3_firstAt_23 : decode cX3_firstAt 23 = .ok (.ireturn, 1) := by decide +kernel
def k18_0 : List (Nat × XI) := [(0, x_iload 1 1), (1, x_iflt 22 4), (4, x_iload 1 5), (5, x_aload 0 6), (6, x_getR 3 0 9), (9, x_len 10), (10, x_icge 22 13), (13, x_aload 0 14), (14, x_getR 3 0 17), (17, x_iload 1 18), (18, x_iald 19), (19, x_goto 23), (22, x_push (-1) 23), (23, x_iret)]
theorem o18_0 (scr : Nat × (Nat → Int32)) : ∀ q ∈ k18_0, XSnd xm scr Y18 q.1 q.2 := xcons (s_iload_n rfl dX3_firstAt_0) (xcons (s_iflt dX3_firstAt_1 rfl) (xcons (s_iload_n rfl dX3_firstAt_4) (xcons (s_aload_n rfl dX3_firstAt_5) (xcons (s_getR (f := 0) xC3 (by decide) xw_66 rfl dX3_firstAt_6) (xcons (s_len dX3_firstAt_9) (xcons (s_icge dX3_firstAt_10 rfl) (xcons (s_aload_n rfl dX3_firstAt_13) (xcons (s_getR (f := 0) xC3 (by decide) xw_66 rfl dX3_firstAt_14) (xcons (s_iload_n rfl dX3_firstAt_17) (xcons (s_iald dX3_firstAt_18) (xcons (s_goto dX3_firstAt_19 rfl) (xcons (s_iconst dX3_firstAt_22 rfl) (xcons (s_iret dX3_firstAt_23 rfl) (xnil))))))))))))))
def k18 (pc : Nat) : XI := xlk k18_0 pc
theorem o18 (scr : Nat × (Nat → Int32)) (pc : Nat) : XSnd xm scr Y18 pc (k18 pc) := by
  unfold k18
  exact xlk_ok (o18_0 scr) pc
theorem dX3_init_0 : decode cX3_init 0 = .ok (.aload_n 0, 1) := by decide +kernel
theorem dX3_init_1 : decode cX3_init 1 = .ok (.invokespecial 3, 3) := by decide +kernel
theorem dX3_init_4 : decode cX3_init 4 = .ok (.aload_n 0, 1) := by decide +kernel
theorem dX3_init_5 : decode cX3_init 5 = .ok (.iload_n 1, 1) := by decide +kernel
theorem dX3_init_6 : decode cX3_init 6 = .ok (.ifCond .ge 7, 3) := by decide +kernel
theorem dX3_init_9 : decode cX3_init 9 = .ok (.iconst 0, 1) := by decide +kernel
theorem dX3_init_10 : decode cX3_init 10 = .ok (.goto 4, 3) := by decide +kernel
theorem dX3_init_13 : decode cX3_init 13 = .ok (.iload_n 1, 1) := by decide +kernel
theorem dX3_init_14 : decode cX3_init 14 = .ok (.newarray .int, 2) := by decide +kernel
theorem dX3_init_16 : decode cX3_init 16 = .ok (.putfield 9, 3) := by decide +kernel
theorem dX3_init_19 : decode cX3_init 19 = .ok (.aload_n 0, 1) := by decide +kernel
theorem dX3_init_20 : decode cX3_init 20 = .ok (.iload_n 1, 1) := by decide +kernel
theorem dX3_init_21 : decode cX3_init 21 = .ok (.ifCond .ge 7, 3) := by decide +kernel
theorem dX3_init_24 : decode cX3_init 24 = .ok (.iconst 0, 1) := by decide +kernel
theorem dX3_init_25 : decode cX3_init 25 = .ok (.goto 4, 3) := by decide +kernel
theorem dX3_init_28 : decode cX3_init 28 = .ok (.iload_n 1, 1) := by decide +kernel
theorem dX3_init_29 : decode cX3_init 29 = .ok (.newarray .int, 2) := by decide +kernel
theorem dX3_init_31 : decode cX3_init 31 = .ok (.putfield 15, 3) := by decide +kernel
theorem dX3_init_34 : decode cX3_init 34 = .ok (.return_, 1) := by decide +kernel
def k19_0 : List (Nat × XI) := [(0, x_aload 0 1), (1, x_obj 4), (4, x_aload 0 5), (5, x_iload 1 6), (6, x_ifge 13 9), (9, x_push (0) 10), (10, x_goto 14), (13, x_iload 1 14), (14, x_newI 16), (16, x_putR 3 0 19), (19, x_aload 0 20), (20, x_iload 1 21), (21, x_ifge 28 24), (24, x_push (0) 25), (25, x_goto 29), (28, x_iload 1 29), (29, x_newI 31), (31, x_putR 3 1 34), (34, x_ret)]
theorem o19_0 (scr : Nat × (Nat → Int32)) : ∀ q ∈ k19_0, XSnd xm scr Y19 q.1 q.2 := xcons (s_aload_n rfl dX3_init_0) (xcons (s_obj xw_79 xw_30 xw_31 dX3_init_1) (xcons (s_aload_n rfl dX3_init_4) (xcons (s_iload_n rfl dX3_init_5) (xcons (s_ifge dX3_init_6 rfl) (xcons (s_iconst dX3_init_9 rfl) (xcons (s_goto dX3_init_10 rfl) (xcons (s_iload_n rfl dX3_init_13) (xcons (s_newI xw_64 dX3_init_14) (xcons (s_putR (f := 0) xC3 (by decide) xw_66 rfl (Or.inr ⟨rfl, rfl, rfl⟩) dX3_init_16) (xcons (s_aload_n rfl dX3_init_19) (xcons (s_iload_n rfl dX3_init_20) (xcons (s_ifge dX3_init_21 rfl) (xcons (s_iconst dX3_init_24 rfl) (xcons (s_goto dX3_init_25 rfl) (xcons (s_iload_n rfl dX3_init_28) (xcons (s_newI xw_64 dX3_init_29) (xcons (s_putR (f := 1) xC3 (by decide) xw_67 rfl (Or.inr ⟨rfl, rfl, rfl⟩) dX3_init_31) (xcons (s_ret dX3_init_34 rfl) (xnil)))))))))))))))))))
def k19 (pc : Nat) : XI := xlk k19_0 pc
theorem o19 (scr : Nat × (Nat → Int32)) (pc : Nat) : XSnd xm scr Y19 pc (k19 pc) := by
  unfold k19
  exact xlk_ok (o19_0 scr) pc
theorem dX3_putAhead_0 : decode cX3_putAhead 0 = .ok (.aload_n 1, 1) := by decide +kernel
theorem dX3_putAhead_1 : decode cX3_putAhead 1 = .ok (.getfield 18, 3) := by decide +kernel
theorem dX3_putAhead_4 : decode cX3_putAhead 4 = .ok (.aload_n 0, 1) := by decide +kernel
theorem dX3_putAhead_5 : decode cX3_putAhead 5 = .ok (.getfield 9, 3) := by decide +kernel
theorem dX3_putAhead_8 : decode cX3_putAhead 8 = .ok (.arraylength, 1) := by decide +kernel
theorem dX3_putAhead_9 : decode cX3_putAhead 9 = .ok (.aload_n 0, 1) := by decide +kernel
theorem dX3_putAhead_10 : decode cX3_putAhead 10 = .ok (.getfield 18, 3) := by decide +kernel
theorem dX3_putAhead_13 : decode cX3_putAhead 13 = .ok (.isub, 1) := by decide +kernel
theorem dX3_putAhead_14 : decode cX3_putAhead 14 = .ok (.invokestatic 35, 3) := by decide +kernel
theorem dX3_putAhead_17 : decode cX3_putAhead 17 = .ok (.istore_n 2, 1) := by decide +kernel
theorem dX3_putAhead_18 : decode cX3_putAhead 18 = .ok (.iload_n 2, 1) := by decide +kernel
theorem dX3_putAhead_19 : decode cX3_putAhead 19 = .ok (.ifCond .gt 5, 3) := by decide +kernel
theorem dX3_putAhead_22 : decode cX3_putAhead 22 = .ok (.iconst 0, 1) := by decide +kernel
theorem dX3_putAhead_23 : decode cX3_putAhead 23 = .ok (.ireturn, 1) := by decide +kernel
theorem dX3_putAhead_24 : decode cX3_putAhead 24 = .ok (.aload_n 0, 1) := by decide +kernel
theorem dX3_putAhead_25 : decode cX3_putAhead 25 = .ok (.getfield 9, 3) := by decide +kernel
theorem dX3_putAhead_28 : decode cX3_putAhead 28 = .ok (.iconst 0, 1) := by decide +kernel
theorem dX3_putAhead_29 : decode cX3_putAhead 29 = .ok (.aload_n 0, 1) := by decide +kernel
theorem dX3_putAhead_30 : decode cX3_putAhead 30 = .ok (.getfield 9, 3) := by decide +kernel
theorem dX3_putAhead_33 : decode cX3_putAhead 33 = .ok (.iload_n 2, 1) := by decide +kernel
def k20_0 : List (Nat × XI) := [(0, x_aload 1 1), (1, x_getI 3 2 4), (4, x_aload 0 5), (5, x_getR 3 0 8), (8, x_len 9), (9, x_aload 0 10), (10, x_getI 3 2 13), (13, x_isub 14), (14, x_mmin 17), (17, x_istore 2 18), (18, x_iload 2 19), (19, x_ifgt 24 22), (22, x_push (0) 23), (23, x_iret), (24, x_aload 0 25), (25, x_getR 3 0 28), (28, x_push (0) 29), (29, x_aload 0 30), (30, x_getR 3 0 33), (33, x_iload 2 34)]
theorem o20_0 (scr : Nat × (Nat → Int32)) : ∀ q ∈ k20_0, XSnd xm scr Y20 q.1 q.2 := xcons (s_aload_n rfl dX3_putAhead_0) (xcons (s_getI (f := 2) xC3 (by decide) xw_65 rfl dX3_putAhead_1) (xcons (s_aload_n rfl dX3_putAhead_4) (xcons (s_getR (f := 0) xC3 (by decide) xw_66 rfl dX3_putAhead_5) (xcons (s_len dX3_putAhead_8) (xcons (s_aload_n rfl dX3_putAhead_9) (xcons (s_getI (f := 2) xC3 (by decide) xw_65 rfl dX3_putAhead_10) (xcons (s_isub dX3_putAhead_13) (xcons (s_mmin xw_76 xw_53 xw_54 xw_55 dX3_putAhead_14) (xcons (s_istore_n rfl dX3_putAhead_17 (by decide)) (xcons (s_iload_n rfl dX3_putAhead_18) (xcons (s_ifgt dX3_putAhead_19 rfl) (xcons (s_iconst dX3_putAhead_22 rfl) (xcons (s_iret dX3_putAhead_23 rfl) (xcons (s_aload_n rfl dX3_putAhead_24) (xcons (s_getR (f := 0) xC3 (by decide) xw_66 rfl dX3_putAhead_25) (xcons (s_iconst dX3_putAhead_28 rfl) (xcons (s_aload_n rfl dX3_putAhead_29) (xcons (s_getR (f := 0) xC3 (by decide) xw_66 rfl dX3_putAhead_30) (xcons (s_iload_n rfl dX3_putAhead_33) (xnil))))))))))))))))))))
theorem dX3_putAhead_34 : decode cX3_putAhead 34 = .ok (.aload_n 0, 1) := by decide +kernel
theorem dX3_putAhead_35 : decode cX3_putAhead 35 = .ok (.getfield 18, 3) := by decide +kernel
theorem dX3_putAhead_38 : decode cX3_putAhead 38 = .ok (.invokestatic 29, 3) := by decide +kernel
theorem dX3_putAhead_41 : decode cX3_putAhead 41 = .ok (.aload_n 0, 1) := by decide +kernel
theorem dX3_putAhead_42 : decode cX3_putAhead 42 = .ok (.getfield 15, 3) := by decide +kernel
theorem dX3_putAhead_45 : decode cX3_putAhead 45 = .ok (.iconst 0, 1) := by decide +kernel
theorem dX3_putAhead_46 : decode cX3_putAhead 46 = .ok (.aload_n 0, 1) := by decide +kernel
theorem dX3_putAhead_47 : decode cX3_putAhead 47 = .ok (.getfield 15, 3) := by decide +kernel
theorem dX3_putAhead_50 : decode cX3_putAhead 50 = .ok (.iload_n 2, 1) := by decide +kernel
theorem dX3_putAhead_51 : decode cX3_putAhead 51 = .ok (.aload_n 0, 1) := by decide +kernel
theorem dX3_putAhead_52 : decode cX3_putAhead 52 = .ok (.getfield 18, 3) := by decide +kernel
theorem dX3_putAhead_55 : decode cX3_putAhead 55 = .ok (.invokestatic 29, 3) := by decide +kernel
theorem dX3_putAhead_58 : decode cX3_putAhead 58 = .ok (.aload_n 1, 1) := by decide +kernel
theorem dX3_putAhead_59 : decode cX3_putAhead 59 = .ok (.getfield 9, 3) := by decide +kernel
theorem dX3_putAhead_62 : decode cX3_putAhead 62 = .ok (.iconst 0, 1) := by decide +kernel
theorem dX3_putAhead_63 : decode cX3_putAhead 63 = .ok (.aload_n 0, 1) := by decide +kernel
theorem dX3_putAhead_64 : decode cX3_putAhead 64 = .ok (.getfield 9, 3) := by decide +kernel
theorem dX3_putAhead_67 : decode cX3_putAhead 67 = .ok (.iconst 0, 1) := by decide +kernel
theorem dX3_putAhead_68 : decode cX3_putAhead 68 = .ok (.iload_n 2, 1) := by decide +kernel
theorem dX3_putAhead_69 : decode cX3_putAhead 69 = .ok (.invokestatic 29, 3) := by decide +kernel
def k20_1 : List (Nat × XI) := [(34, x_aload 0 35), (35, x_getI 3 2 38), (38, x_copy 41), (41, x_aload 0 42), (42, x_getR 3 1 45), (45, x_push (0) 46), (46, x_aload 0 47), (47, x_getR 3 1 50), (50, x_iload 2 51), (51, x_aload 0 52), (52, x_getI 3 2 55), (55, x_copy 58), (58, x_aload 1 59), (59, x_getR 3 0 62), (62, x_push (0) 63), (63, x_aload 0 64), (64, x_getR 3 0 67), (67, x_push (0) 68), (68, x_iload 2 69), (69, x_copy 72)]
theorem o20_1 (scr : Nat × (Nat → Int32)) : ∀ q ∈ k20_1, XSnd xm scr Y20 q.1 q.2 := xcons (s_aload_n rfl dX3_putAhead_34) (xcons (s_getI (f := 2) xC3 (by decide) xw_65 rfl dX3_putAhead_35) (xcons (s_copy xw_78 xw_60 xw_61 xw_62 dX3_putAhead_38) (xcons (s_aload_n rfl dX3_putAhead_41) (xcons (s_getR (f := 1) xC3 (by decide) xw_67 rfl dX3_putAhead_42) (xcons (s_iconst dX3_putAhead_45 rfl) (xcons (s_aload_n rfl dX3_putAhead_46) (xcons (s_getR (f := 1) xC3 (by decide) xw_67 rfl dX3_putAhead_47) (xcons (s_iload_n rfl dX3_putAhead_50) (xcons (s_aload_n rfl dX3_putAhead_51) (xcons (s_getI (f := 2) xC3 (by decide) xw_65 rfl dX3_putAhead_52) (xcons (s_copy xw_78 xw_60 xw_61 xw_62 dX3_putAhead_55) (xcons (s_aload_n rfl dX3_putAhead_58) (xcons (s_getR (f := 0) xC3 (by decide) xw_66 rfl dX3_putAhead_59) (xcons (s_iconst dX3_putAhead_62 rfl) (xcons (s_aload_n rfl dX3_putAhead_63) (xcons (s_getR (f := 0) xC3 (by decide) xw_66 rfl dX3_putAhead_64) (xcons (s_iconst dX3_putAhead_67 rfl) (xcons (s_iload_n rfl dX3_putAhead_68) (xcons (s_copy xw_78 xw_60 xw_61 xw_62 dX3_putAhead_69) (xnil))))))))))))))))))))
theorem dX3_putAhead_72 : decode cX3_putAhead 72 = .ok (.aload_n 1, 1) := by decide +kernel
theorem dX3_putAhead_73 : decode cX3_putAhead 73 = .ok (.getfield 15, 3) := by decide +kernel
theorem dX3_putAhead_76 : decode cX3_putAhead 76 = .ok (.iconst 0, 1) := by decide +kernel
theorem dX3_putAhead_77 : decode cX3_putAhead 77 = .ok (.aload_n 0, 1) := by decide +kernel
theorem dX3_putAhead_78 : decode cX3_putAhead 78 = .ok (.getfield 15, 3) := by decide +kernel
theorem dX3_putAhead_81 : decode cX3_putAhead 81 = .ok (.iconst 0, 1) := by decide +kernel
theorem dX3_putAhead_82 : decode cX3_putAhead 82 = .ok (.iload_n 2, 1) := by decide +kernel
theorem dX3_putAhead_83 : decode cX3_putAhead 83 = .ok (.invokestatic 29, 3) := by decide +kernel
theorem dX3_putAhead_86 : decode cX3_putAhead 86 = .ok (.aload_n 0, 1) := by decide +kernel
theorem dX3_putAhead_87 : decode cX3_putAhead 87 = .ok (.dup, 1) := by decide +kernel
theorem dX3_putAhead_88 : decode cX3_putAhead 88 = .ok (.getfield 18, 3) := by decide +kernel
theorem dX3_putAhead_91 : decode cX3_putAhead 91 = .ok (.iload_n 2, 1) := by decide +kernel
theorem dX3_putAhead_92 : decode cX3_putAhead 92 = .ok (.iadd, 1) := by decide +kernel
theorem dX3_putAhead_93 : decode cX3_putAhead 93 = .ok (.putfield 18, 3) := by decide +kernel
theorem dX3_putAhead_96 : decode cX3_putAhead 96 = .ok (.iload_n 2, 1) := by decide +kernel
theorem dX3_putAhead_97 : decode cX3_putAhead 97 = .ok (.ireturn, 1) := by decide +kernel
def k20_2 : List (Nat × XI) := [(72, x_aload 1 73), (73, x_getR 3 1 76), (76, x_push (0) 77), (77, x_aload 0 78), (78, x_getR 3 1 81), (81, x_push (0) 82), (82, x_iload 2 83), (83, x_copy 86), (86, x_aload 0 87), (87, x_dup 88), (88, x_getI 3 2 91), (91, x_iload 2 92), (92, x_iadd 93), (93, x_putI 3 2 96), (96, x_iload 2 97), (97, x_iret)]
theorem o20_2 (scr : Nat × (Nat → Int32)) : ∀ q ∈ k20_2, XSnd xm scr Y20 q.1 q.2 := xcons (s_aload_n rfl dX3_putAhead_72) (xcons (s_getR (f := 1) xC3 (by decide) xw_67 rfl dX3_putAhead_73) (xcons (s_iconst dX3_putAhead_76 rfl) (xcons (s_aload_n rfl dX3_putAhead_77) (xcons (s_getR (f := 1) xC3 (by decide) xw_67 rfl dX3_putAhead_78) (xcons (s_iconst dX3_putAhead_81 rfl) (xcons (s_iload_n rfl dX3_putAhead_82) (xcons (s_copy xw_78 xw_60 xw_61 xw_62 dX3_putAhead_83) (xcons (s_aload_n rfl dX3_putAhead_86) (xcons (s_dup dX3_putAhead_87) (xcons (s_getI (f := 2) xC3 (by decide) xw_65 rfl dX3_putAhead_88) (xcons (s_iload_n rfl dX3_putAhead_91) (xcons (s_iadd dX3_putAhead_92) (xcons (s_putI (f := 2) xC3 (by decide) xw_65 rfl (Or.inl rfl) dX3_putAhead_93) (xcons (s_iload_n rfl dX3_putAhead_96) (xcons (s_iret dX3_putAhead_97 rfl) (xnil))))))))))))))))
def k20 (pc : Nat) : XI := if pc < 34 then xlk k20_0 pc else if pc < 72 then xlk k20_1 pc else xlk k20_2 pc
theorem o20 (scr : Nat × (Nat → Int32)) (pc : Nat) : XSnd xm scr Y20 pc (k20 pc) := by
  unfold k20
  exact xite (xlk_ok (o20_0 scr) pc) (xite (xlk_ok (o20_1 scr) pc) (xlk_ok (o20_2 scr) pc))
theorem dX3_removeFirst_0 : decode cX3_removeFirst 0 = .ok (.aload_n 0, 1) := by decide +kernel
theorem dX3_removeFirst_1 : decode cX3_removeFirst 1 = .ok (.getfield 18, 3) := by decide +kernel
theorem dX3_removeFirst_4 : decode cX3_removeFirst 4 = .ok (.ifCond .le 47, 3) := by decide +kernel
theorem dX3_removeFirst_7 : decode cX3_removeFirst 7 = .ok (.aload_n 0, 1) := by decide +kernel
theorem dX3_removeFirst_8 : decode cX3_removeFirst 8 = .ok (.dup, 1) := by decide +kernel
theorem dX3_removeFirst_9 : decode cX3_removeFirst 9 = .ok (.getfield 18, 3) := by decide +kernel
theorem dX3_removeFirst_12 : decode cX3_removeFirst 12 = .ok (.iconst 1, 1) := by decide +kernel
theorem dX3_removeFirst_13 : decode cX3_removeFirst 13 = .ok (.isub, 1) := by decide +kernel
theorem dX3_removeFirst_14 : decode cX3_removeFirst 14 = .ok (.putfield 18, 3) := by decide +kernel
theorem dX3_removeFirst_17 : decode cX3_removeFirst 17 = .ok (.aload_n 0, 1) := by decide +kernel
theorem dX3_removeFirst_18 : decode cX3_removeFirst 18 = .ok (.getfield 9, 3) := by decide +kernel
theorem dX3_removeFirst_21 : decode cX3_removeFirst 21 = .ok (.iconst 1, 1) := by decide +kernel
theorem dX3_removeFirst_22 : decode cX3_removeFirst 22 = .ok (.aload_n 0, 1) := by decide +kernel
theorem dX3_removeFirst_23 : decode cX3_removeFirst 23 = .ok (.getfield 9, 3) := by decide +kernel
theorem dX3_removeFirst_26 : decode cX3_removeFirst 26 = .ok (.iconst 0, 1) := by decide +kernel
theorem dX3_removeFirst_27 : decode cX3_removeFirst 27 = .ok (.aload_n 0, 1) := by decide +kernel
theorem dX3_removeFirst_28 : decode cX3_removeFirst 28 = .ok (.getfield 18, 3) := by decide +kernel
theorem dX3_removeFirst_31 : decode cX3_removeFirst 31 = .ok (.invokestatic 29, 3) := by decide +kernel
theorem dX3_removeFirst_34 : decode cX3_removeFirst 34 = .ok (.aload_n 0, 1) := by decide +kernel
theorem dX3_removeFirst_35 : decode cX3_removeFirst 35 = .ok (.getfield 15, 3) := by decide +kernel
def k21_0 : List (Nat × XI) := [(0, x_aload 0 1), (1, x_getI 3 2 4), (4, x_ifle 51 7), (7, x_aload 0 8), (8, x_dup 9), (9, x_getI 3 2 12), (12, x_push (1) 13), (13, x_isub 14), (14, x_putI 3 2 17), (17, x_aload 0 18), (18, x_getR 3 0 21), (21, x_push (1) 22), (22, x_aload 0 23), (23, x_getR 3 0 26), (26, x_push (0) 27), (27, x_aload 0 28), (28, x_getI 3 2 31), (31, x_copy 34), (34, x_aload 0 35), (35, x_getR 3 1 38)]
theorem o21_0 (scr : Nat × (Nat → Int32)) : ∀ q ∈ k21_0, XSnd xm scr Y21 q.1 q.2 := xcons (s_aload_n rfl dX3_removeFirst_0) (xcons (s_getI (f := 2) xC3 (by decide) xw_65 rfl dX3_removeFirst_1) (xcons (s_ifle dX3_removeFirst_4 rfl) (xcons (s_aload_n rfl dX3_removeFirst_7) (xcons (s_dup dX3_removeFirst_8) (xcons (s_getI (f := 2) xC3 (by decide) xw_65 rfl dX3_removeFirst_9) (xcons (s_iconst dX3_removeFirst_12 rfl) (xcons (s_isub dX3_removeFirst_13) (xcons (s_putI (f := 2) xC3 (by decide) xw_65 rfl (Or.inl rfl) dX3_removeFirst_14) (xcons (s_aload_n rfl dX3_removeFirst_17) (xcons (s_getR (f := 0) xC3 (by decide) xw_66 rfl dX3_removeFirst_18) (xcons (s_iconst dX3_removeFirst_21 rfl) (xcons (s_aload_n rfl dX3_removeFirst_22) (xcons (s_getR (f := 0) xC3 (by decide) xw_66 rfl dX3_removeFirst_23) (xcons (s_iconst dX3_removeFirst_26 rfl) (xcons (s_aload_n rfl dX3_removeFirst_27) (xcons (s_getI (f := 2) xC3 (by decide) xw_65 rfl dX3_removeFirst_28) (xcons (s_copy xw_78 xw_60 xw_61 xw_62 dX3_removeFirst_31) (xcons (s_aload_n rfl dX3_removeFirst_34) (xcons (s_getR (f := 1) xC3 (by decide) xw_67 rfl dX3_removeFirst_35) (xnil))))))))))))))))))))
theorem dX3_removeFirst_38 : decode cX3_removeFirst 38 = .ok (.iconst 1, 1) := by decide +kernel
theorem dX3_removeFirst_39 : decode cX3_removeFirst 39 = .ok (.aload_n 0, 1) := by decide +kernel
theorem dX3_removeFirst_40 : decode cX3_removeFirst 40 = .ok (.getfield 15, 3) := by decide +kernel
theorem dX3_removeFirst_43 : decode cX3_removeFirst 43 = .ok (.iconst 0, 1) := by decide +kernel
theorem dX3_removeFirst_44 : decode cX3_removeFirst 44 = .ok (.aload_n 0, 1) := by decide +kernel
theorem dX3_removeFirst_45 : decode cX3_removeFirst 45 = .ok (.getfield 18, 3) := by decide +kernel
theorem dX3_removeFirst_48 : decode cX3_removeFirst 48 = .ok (.invokestatic 29, 3) := by decide +kernel
theorem dX3_removeFirst_51 : decode cX3_removeFirst 51 = .ok (.return_, 1) := by decide +kernel
def k21_1 : List (Nat × XI) := [(38, x_push (1) 39), (39, x_aload 0 40), (40, x_getR 3 1 43), (43, x_push (0) 44), (44, x_aload 0 45), (45, x_getI 3 2 48), (48, x_copy 51), (51, x_ret)]
theorem o21_1 (scr : Nat × (Nat → Int32)) : ∀ q ∈ k21_1, XSnd xm scr Y21 q.1 q.2 := xcons (s_iconst dX3_removeFirst_38 rfl) (xcons (s_aload_n rfl dX3_removeFirst_39) (xcons (s_getR (f := 1) xC3 (by decide) xw_67 rfl dX3_removeFirst_40) (xcons (s_iconst dX3_removeFirst_43 rfl) (xcons (s_aload_n rfl dX3_removeFirst_44) (xcons (s_getI (f := 2) xC3 (by decide) xw_65 rfl dX3_removeFirst_45) (xcons (s_copy xw_78 xw_60 xw_61 xw_62 dX3_removeFirst_48) (xcons (s_ret dX3_removeFirst_51 rfl) (xnil))))))))
def k21 (pc : Nat) : XI := if pc < 38 then xlk k21_0 pc else xlk k21_1 pc
theorem o21 (scr : Nat × (Nat → Int32)) (pc : Nat) : XSnd xm scr Y21 pc (k21 pc) := by
  unfold k21
  exact xite (xlk_ok (o21_0 scr) pc) (xlk_ok (o21_1 scr) pc)
theorem dX3_secondAt_0 : decode cX3_secondAt 0 = .ok (.iload_n 1, 1) := by decide +kernel
theorem dX3_secondAt_1 : decode cX3_secondAt 1 = .ok (.ifCond .lt 21, 3) := by decide +kernel
theorem dX3_secondAt_4 : decode cX3_secondAt 4 = .ok (.iload_n 1, 1) := by decide +kernel
theorem dX3_secondAt_5 : decode cX3_secondAt 5 = .ok (.aload_n 0, 1) := by decide +kernel
theorem dX3_secondAt_6 : decode cX3_secondAt 6 = .ok (.getfield 15, 3) := by decide +kernel
theorem dX3_secondAt_9 : decode cX3_secondAt 9 = .ok (.arraylength, 1) := by decide +kernel
theorem dX3_secondAt_10 : decode cX3_secondAt 10 = .ok (.if_icmp .ge 12, 3) := by decide +kernel
theorem dX3_secondAt_13 : decode cX3_secondAt 13 = .ok (.aload_n 0, 1) := by decide +kernel
theorem dX3_secondAt_14 : decode cX3_secondAt 14 = .ok (.getfield 15, 3) := by decide +kernel
theorem dX3_secondAt_17 : decode cX3_secondAt 17 = .ok (.iload_n 1, 1) := by decide +kernel
theorem dX3_secondAt_18 : decode cX3_secondAt 18 = .ok (.iaload, 1) := by decide +kernel
theorem dX3_secondAt_19 : decode cX3_secondAt 19 = .ok (.goto 4, 3) := by decide +kernel
theorem dX3_secondAt_22 : decode cX3_secondAt 22 = .ok (.iconst 0, 1) := by decide +kernel
theorem dX3_secondAt_23 : decode cX3_secondAt 23 = .ok (.ireturn, 1) := by decide +kernel
def k22_0 : List (Nat × XI) := [(0, x_iload 1 1), (1, x_iflt 22 4), (4, x_iload 1 5), (5, x_aload 0 6), (6, x_getR 3 1 9), (9, x_len 10), (10, x_icge 22 13), (13, x_aload 0 14), (14, x_getR 3 1 17), (17, x_iload 1 18), (18, x_iald 19), (19, x_goto 23), (22, x_push (0) 23), (23, x_iret)]
theorem o22_0 (scr : Nat × (Nat → Int32)) : ∀ q ∈ k22_0, XSnd xm scr Y22 q.1 q.2 := xcons (s_iload_n rfl dX3_secondAt_0) (xcons (s_iflt dX3_secondAt_1 rfl) (xcons (s_iload_n rfl dX3_secondAt_4) (xcons (s_aload_n rfl dX3_secondAt_5) (xcons (s_getR (f := 1) xC3 (by decide) xw_67 rfl dX3_secondAt_6) (xcons (s_len dX3_secondAt_9) (xcons (s_icge dX3_secondAt_10 rfl) (xcons (s_aload_n rfl dX3_secondAt_13) (xcons (s_getR (f := 1) xC3 (by decide) xw_67 rfl dX3_secondAt_14) (xcons (s_iload_n rfl dX3_secondAt_17) (xcons (s_iald dX3_secondAt_18) (xcons (s_goto dX3_secondAt_19 rfl) (xcons (s_iconst dX3_secondAt_22 rfl) (xcons (s_iret dX3_secondAt_23 rfl) (xnil))))))))))))))
def k22 (pc : Nat) : XI := xlk k22_0 pc
theorem o22 (scr : Nat × (Nat → Int32)) (pc : Nat) : XSnd xm scr Y22 pc (k22 pc) := by
  unfold k22
  exact xlk_ok (o22_0 scr) pc
theorem dX4_faultOfForm_0 : decode cX4_faultOfForm 0 = .ok (.aload_n 0, 1) := by decide +kernel
theorem dX4_faultOfForm_1 : decode cX4_faultOfForm 1 = .ok (.iconst 0, 1) := by decide +kernel
theorem dX4_faultOfForm_2 : decode cX4_faultOfForm 2 = .ok (.putfield 23, 3) := by decide +kernel
theorem dX4_faultOfForm_5 : decode cX4_faultOfForm 5 = .ok (.iconst 0, 1) := by decide +kernel
theorem dX4_faultOfForm_6 : decode cX4_faultOfForm 6 = .ok (.istore_n 1, 1) := by decide +kernel
theorem dX4_faultOfForm_7 : decode cX4_faultOfForm 7 = .ok (.iload_n 1, 1) := by decide +kernel
theorem dX4_faultOfForm_8 : decode cX4_faultOfForm 8 = .ok (.bipush 120, 2) := by decide +kernel
theorem dX4_faultOfForm_10 : decode cX4_faultOfForm 10 = .ok (.if_icmp .ge 61, 3) := by decide +kernel
theorem dX4_faultOfForm_13 : decode cX4_faultOfForm 13 = .ok (.aload_n 0, 1) := by decide +kernel
theorem dX4_faultOfForm_14 : decode cX4_faultOfForm 14 = .ok (.invokevirtual 30, 3) := by decide +kernel
theorem dX4_faultOfForm_17 : decode cX4_faultOfForm 17 = .ok (.ifCond .ne 8, 3) := by decide +kernel
theorem dX4_faultOfForm_20 : decode cX4_faultOfForm 20 = .ok (.aload_n 0, 1) := by decide +kernel
theorem dX4_faultOfForm_21 : decode cX4_faultOfForm 21 = .ok (.getfield 23, 3) := by decide +kernel
theorem dX4_faultOfForm_24 : decode cX4_faultOfForm 24 = .ok (.ireturn, 1) := by decide +kernel
theorem dX4_faultOfForm_25 : decode cX4_faultOfForm 25 = .ok (.aload_n 0, 1) := by decide +kernel
theorem dX4_faultOfForm_26 : decode cX4_faultOfForm 26 = .ok (.invokevirtual 34, 3) := by decide +kernel
theorem dX4_faultOfForm_29 : decode cX4_faultOfForm 29 = .ok (.ifCond .eq 5, 3) := by decide +kernel
theorem dX4_faultOfForm_32 : decode cX4_faultOfForm 32 = .ok (.iconst (-1), 1) := by decide +kernel
theorem dX4_faultOfForm_33 : decode cX4_faultOfForm 33 = .ok (.ireturn, 1) := by decide +kernel
theorem dX4_faultOfForm_34 : decode cX4_faultOfForm 34 = .ok (.aload_n 0, 1) := by decide +kernel
def k23_0 : List (Nat × XI) := [(0, x_aload 0 1), (1, x_push (0) 2), (2, x_putI 4 3 5), (5, x_push (0) 6), (6, x_istore 1 7), (7, x_iload 1 8), (8, x_push (120) 10), (10, x_icge 71 13), (13, x_aload 0 14), (14, x_inv 28 4 0 17), (17, x_ifne 25 20), (20, x_aload 0 21), (21, x_getI 4 3 24), (24, x_iret), (25, x_aload 0 26), (26, x_inv 27 4 0 29), (29, x_ifeq 34 32), (32, x_push (-1) 33), (33, x_iret), (34, x_aload 0 35)]
theorem o23_0 (scr : Nat × (Nat → Int32)) : ∀ q ∈ k23_0, XSnd xm scr Y23 q.1 q.2 := xcons (s_aload_n rfl dX4_faultOfForm_0) (xcons (s_iconst dX4_faultOfForm_1 rfl) (xcons (s_putI (f := 3) xC4 (by decide) xw_80 rfl (Or.inl rfl) dX4_faultOfForm_2) (xcons (s_iconst dX4_faultOfForm_5 rfl) (xcons (s_istore_n rfl dX4_faultOfForm_6 (by decide)) (xcons (s_iload_n rfl dX4_faultOfForm_7) (xcons (s_bipush dX4_faultOfForm_8 rfl) (xcons (s_icge dX4_faultOfForm_10 rfl) (xcons (s_aload_n rfl dX4_faultOfForm_13) (xcons (s_inv (mid := 28) xC4 cal_28 xw_83 xw_84 xw_85 dX4_faultOfForm_14) (xcons (s_ifne dX4_faultOfForm_17 rfl) (xcons (s_aload_n rfl dX4_faultOfForm_20) (xcons (s_getI (f := 3) xC4 (by decide) xw_80 rfl dX4_faultOfForm_21) (xcons (s_iret dX4_faultOfForm_24 rfl) (xcons (s_aload_n rfl dX4_faultOfForm_25) (xcons (s_inv (mid := 27) xC4 cal_27 xw_87 xw_88 xw_89 dX4_faultOfForm_26) (xcons (s_ifeq dX4_faultOfForm_29 rfl) (xcons (s_iconst dX4_faultOfForm_32 rfl) (xcons (s_iret dX4_faultOfForm_33 rfl) (xcons (s_aload_n rfl dX4_faultOfForm_34) (xnil))))))))))))))))))))
theorem dX4_faultOfForm_35 : decode cX4_faultOfForm 35 = .ok (.getfield 14, 3) := by decide +kernel
theorem dX4_faultOfForm_38 : decode cX4_faultOfForm 38 = .ok (.aload_n 0, 1) := by decide +kernel
theorem dX4_faultOfForm_39 : decode cX4_faultOfForm 39 = .ok (.getfield 23, 3) := by decide +kernel
theorem dX4_faultOfForm_42 : decode cX4_faultOfForm 42 = .ok (.invokevirtual 37, 3) := by decide +kernel
theorem dX4_faultOfForm_45 : decode cX4_faultOfForm 45 = .ok (.bipush 59, 2) := by decide +kernel
theorem dX4_faultOfForm_47 : decode cX4_faultOfForm 47 = .ok (.if_icmp .eq 8, 3) := by decide +kernel
theorem dX4_faultOfForm_50 : decode cX4_faultOfForm 50 = .ok (.aload_n 0, 1) := by decide +kernel
theorem dX4_faultOfForm_51 : decode cX4_faultOfForm 51 = .ok (.getfield 23, 3) := by decide +kernel
theorem dX4_faultOfForm_54 : decode cX4_faultOfForm 54 = .ok (.ireturn, 1) := by decide +kernel
theorem dX4_faultOfForm_55 : decode cX4_faultOfForm 55 = .ok (.aload_n 0, 1) := by decide +kernel
theorem dX4_faultOfForm_56 : decode cX4_faultOfForm 56 = .ok (.dup, 1) := by decide +kernel
theorem dX4_faultOfForm_57 : decode cX4_faultOfForm 57 = .ok (.getfield 23, 3) := by decide +kernel
theorem dX4_faultOfForm_60 : decode cX4_faultOfForm 60 = .ok (.iconst 1, 1) := by decide +kernel
theorem dX4_faultOfForm_61 : decode cX4_faultOfForm 61 = .ok (.iadd, 1) := by decide +kernel
theorem dX4_faultOfForm_62 : decode cX4_faultOfForm 62 = .ok (.putfield 23, 3) := by decide +kernel
theorem dX4_faultOfForm_65 : decode cX4_faultOfForm 65 = .ok (.iinc 1 1, 3) := by decide +kernel
theorem dX4_faultOfForm_68 : decode cX4_faultOfForm 68 = .ok (.goto (-61), 3) := by decide +kernel
theorem dX4_faultOfForm_71 : decode cX4_faultOfForm 71 = .ok (.aload_n 0, 1) := by decide +kernel
theorem dX4_faultOfForm_72 : decode cX4_faultOfForm 72 = .ok (.getfield 23, 3) := by decide +kernel
theorem dX4_faultOfForm_75 : decode cX4_faultOfForm 75 = .ok (.ireturn, 1) := by decide +kernel
def k23_1 : List (Nat × XI) := [(35, x_getR 4 0 38), (38, x_aload 0 39), (39, x_getI 4 3 42), (42, x_inv 6 2 1 45), (45, x_push (59) 47), (47, x_iceq 55 50), (50, x_aload 0 51), (51, x_getI 4 3 54), (54, x_iret), (55, x_aload 0 56), (56, x_dup 57), (57, x_getI 4 3 60), (60, x_push (1) 61), (61, x_iadd 62), (62, x_putI 4 3 65), (65, x_iinc 1 (1) 68), (68, x_goto 7), (71, x_aload 0 72), (72, x_getI 4 3 75), (75, x_iret)]
theorem o23_1 (scr : Nat × (Nat → Int32)) : ∀ q ∈ k23_1, XSnd xm scr Y23 q.1 q.2 := xcons (s_getR (f := 0) xC4 (by decide) xw_90 rfl dX4_faultOfForm_35) (xcons (s_aload_n rfl dX4_faultOfForm_38) (xcons (s_getI (f := 3) xC4 (by decide) xw_80 rfl dX4_faultOfForm_39) (xcons (s_inv (mid := 6) xC2 cal_6 xw_92 xw_93 xw_94 dX4_faultOfForm_42) (xcons (s_bipush dX4_faultOfForm_45 rfl) (xcons (s_iceq dX4_faultOfForm_47 rfl) (xcons (s_aload_n rfl dX4_faultOfForm_50) (xcons (s_getI (f := 3) xC4 (by decide) xw_80 rfl dX4_faultOfForm_51) (xcons (s_iret dX4_faultOfForm_54 rfl) (xcons (s_aload_n rfl dX4_faultOfForm_55) (xcons (s_dup dX4_faultOfForm_56) (xcons (s_getI (f := 3) xC4 (by decide) xw_80 rfl dX4_faultOfForm_57) (xcons (s_iconst dX4_faultOfForm_60 rfl) (xcons (s_iadd dX4_faultOfForm_61) (xcons (s_putI (f := 3) xC4 (by decide) xw_80 rfl (Or.inl rfl) dX4_faultOfForm_62) (xcons (s_iinc dX4_faultOfForm_65 rfl (by decide)) (xcons (s_goto dX4_faultOfForm_68 rfl) (xcons (s_aload_n rfl dX4_faultOfForm_71) (xcons (s_getI (f := 3) xC4 (by decide) xw_80 rfl dX4_faultOfForm_72) (xcons (s_iret dX4_faultOfForm_75 rfl) (xnil))))))))))))))))))))
def k23 (pc : Nat) : XI := if pc < 35 then xlk k23_0 pc else xlk k23_1 pc
theorem o23 (scr : Nat × (Nat → Int32)) (pc : Nat) : XSnd xm scr Y23 pc (k23 pc) := by
  unfold k23
  exact xite (xlk_ok (o23_0 scr) pc) (xlk_ok (o23_1 scr) pc)
theorem dX4_init_0 : decode cX4_init 0 = .ok (.aload_n 0, 1) := by decide +kernel
theorem dX4_init_1 : decode cX4_init 1 = .ok (.invokespecial 3, 3) := by decide +kernel
theorem dX4_init_4 : decode cX4_init 4 = .ok (.aload_n 0, 1) := by decide +kernel
theorem dX4_init_5 : decode cX4_init 5 = .ok (.new 9, 3) := by decide +kernel
theorem dX4_init_8 : decode cX4_init 8 = .ok (.dup, 1) := by decide +kernel
theorem dX4_init_9 : decode cX4_init 9 = .ok (.bipush 120, 2) := by decide +kernel
theorem dX4_init_11 : decode cX4_init 11 = .ok (.invokespecial 11, 3) := by decide +kernel
theorem dX4_init_14 : decode cX4_init 14 = .ok (.putfield 14, 3) := by decide +kernel
theorem dX4_init_17 : decode cX4_init 17 = .ok (.aload_n 0, 1) := by decide +kernel
theorem dX4_init_18 : decode cX4_init 18 = .ok (.new 9, 3) := by decide +kernel
theorem dX4_init_21 : decode cX4_init 21 = .ok (.dup, 1) := by decide +kernel
theorem dX4_init_22 : decode cX4_init 22 = .ok (.iconst 5, 1) := by decide +kernel
theorem dX4_init_23 : decode cX4_init 23 = .ok (.invokespecial 11, 3) := by decide +kernel
theorem dX4_init_26 : decode cX4_init 26 = .ok (.putfield 20, 3) := by decide +kernel
theorem dX4_init_29 : decode cX4_init 29 = .ok (.return_, 1) := by decide +kernel
def k24_0 : List (Nat × XI) := [(0, x_aload 0 1), (1, x_obj 4), (4, x_aload 0 5), (5, x_new 2 8), (8, x_dup 9), (9, x_push (120) 11), (11, x_inv 12 2 1 14), (14, x_putR 4 0 17), (17, x_aload 0 18), (18, x_new 2 21), (21, x_dup 22), (22, x_push (5) 23), (23, x_inv 12 2 1 26), (26, x_putR 4 1 29), (29, x_ret)]
theorem o24_0 (scr : Nat × (Nat → Int32)) : ∀ q ∈ k24_0, XSnd xm scr Y24 q.1 q.2 := xcons (s_aload_n rfl dX4_init_0) (xcons (s_obj xw_95 xw_30 xw_31 dX4_init_1) (xcons (s_aload_n rfl dX4_init_4) (xcons (s_new xC2 xw_96 xw_33 xw_19 (by decide +kernel) dX4_init_5) (xcons (s_dup dX4_init_8) (xcons (s_bipush dX4_init_9 rfl) (xcons (s_init (mid := 12) xC2 cal_12 rfl rfl xw_97 xw_36 dX4_init_11) (xcons (s_putR (f := 0) xC4 (by decide) xw_90 rfl (Or.inr ⟨rfl, rfl, rfl⟩) dX4_init_14) (xcons (s_aload_n rfl dX4_init_17) (xcons (s_new xC2 xw_96 xw_33 xw_19 (by decide +kernel) dX4_init_18) (xcons (s_dup dX4_init_21) (xcons (s_iconst dX4_init_22 rfl) (xcons (s_init (mid := 12) xC2 cal_12 rfl rfl xw_97 xw_36 dX4_init_23) (xcons (s_putR (f := 1) xC4 (by decide) xw_98 rfl (Or.inr ⟨rfl, rfl, rfl⟩) dX4_init_26) (xcons (s_ret dX4_init_29 rfl) (xnil)))))))))))))))
def k24 (pc : Nat) : XI := xlk k24_0 pc
theorem o24 (scr : Nat × (Nat → Int32)) (pc : Nat) : XSnd xm scr Y24 pc (k24 pc) := by
  unfold k24
  exact xlk_ok (o24_0 scr) pc
theorem dX4_isDigitNext_0 : decode cX4_isDigitNext 0 = .ok (.aload_n 0, 1) := by decide +kernel
theorem dX4_isDigitNext_1 : decode cX4_isDigitNext 1 = .ok (.invokevirtual 34, 3) := by decide +kernel
theorem dX4_isDigitNext_4 : decode cX4_isDigitNext 4 = .ok (.ifCond .ne 39, 3) := by decide +kernel
theorem dX4_isDigitNext_7 : decode cX4_isDigitNext 7 = .ok (.aload_n 0, 1) := by decide +kernel
theorem dX4_isDigitNext_8 : decode cX4_isDigitNext 8 = .ok (.getfield 14, 3) := by decide +kernel
theorem dX4_isDigitNext_11 : decode cX4_isDigitNext 11 = .ok (.aload_n 0, 1) := by decide +kernel
theorem dX4_isDigitNext_12 : decode cX4_isDigitNext 12 = .ok (.getfield 23, 3) := by decide +kernel
theorem dX4_isDigitNext_15 : decode cX4_isDigitNext 15 = .ok (.invokevirtual 37, 3) := by decide +kernel
theorem dX4_isDigitNext_18 : decode cX4_isDigitNext 18 = .ok (.bipush 48, 2) := by decide +kernel
theorem dX4_isDigitNext_20 : decode cX4_isDigitNext 20 = .ok (.if_icmp .lt 23, 3) := by decide +kernel
theorem dX4_isDigitNext_23 : decode cX4_isDigitNext 23 = .ok (.aload_n 0, 1) := by decide +kernel
theorem dX4_isDigitNext_24 : decode cX4_isDigitNext 24 = .ok (.getfield 14, 3) := by decide +kernel
theorem dX4_isDigitNext_27 : decode cX4_isDigitNext 27 = .ok (.aload_n 0, 1) := by decide +kernel
theorem dX4_isDigitNext_28 : decode cX4_isDigitNext 28 = .ok (.getfield 23, 3) := by decide +kernel
theorem dX4_isDigitNext_31 : decode cX4_isDigitNext 31 = .ok (.invokevirtual 37, 3) := by decide +kernel
theorem dX4_isDigitNext_34 : decode cX4_isDigitNext 34 = .ok (.bipush 57, 2) := by decide +kernel
theorem dX4_isDigitNext_36 : decode cX4_isDigitNext 36 = .ok (.if_icmp .gt 7, 3) := by decide +kernel
theorem dX4_isDigitNext_39 : decode cX4_isDigitNext 39 = .ok (.iconst 1, 1) := by decide +kernel
theorem dX4_isDigitNext_40 : decode cX4_isDigitNext 40 = .ok (.goto 4, 3) := by decide +kernel
theorem dX4_isDigitNext_43 : decode cX4_isDigitNext 43 = .ok (.iconst 0, 1) := by decide +kernel
def k25_0 : List (Nat × XI) := [(0, x_aload 0 1), (1, x_inv 27 4 0 4), (4, x_ifne 43 7), (7, x_aload 0 8), (8, x_getR 4 0 11), (11, x_aload 0 12), (12, x_getI 4 3 15), (15, x_inv 6 2 1 18), (18, x_push (48) 20), (20, x_iclt 43 23), (23, x_aload 0 24), (24, x_getR 4 0 27), (27, x_aload 0 28), (28, x_getI 4 3 31), (31, x_inv 6 2 1 34), (34, x_push (57) 36), (36, x_icgt 43 39), (39, x_push (1) 40), (40, x_goto 44), (43, x_push (0) 44)]
theorem o25_0 (scr : Nat × (Nat → Int32)) : ∀ q ∈ k25_0, XSnd xm scr Y25 q.1 q.2 := xcons (s_aload_n rfl dX4_isDigitNext_0) (xcons (s_inv (mid := 27) xC4 cal_27 xw_87 xw_88 xw_89 dX4_isDigitNext_1) (xcons (s_ifne dX4_isDigitNext_4 rfl) (xcons (s_aload_n rfl dX4_isDigitNext_7) (xcons (s_getR (f := 0) xC4 (by decide) xw_90 rfl dX4_isDigitNext_8) (xcons (s_aload_n rfl dX4_isDigitNext_11) (xcons (s_getI (f := 3) xC4 (by decide) xw_80 rfl dX4_isDigitNext_12) (xcons (s_inv (mid := 6) xC2 cal_6 xw_92 xw_93 xw_94 dX4_isDigitNext_15) (xcons (s_bipush dX4_isDigitNext_18 rfl) (xcons (s_iclt dX4_isDigitNext_20 rfl) (xcons (s_aload_n rfl dX4_isDigitNext_23) (xcons (s_getR (f := 0) xC4 (by decide) xw_90 rfl dX4_isDigitNext_24) (xcons (s_aload_n rfl dX4_isDigitNext_27) (xcons (s_getI (f := 3) xC4 (by decide) xw_80 rfl dX4_isDigitNext_28) (xcons (s_inv (mid := 6) xC2 cal_6 xw_92 xw_93 xw_94 dX4_isDigitNext_31) (xcons (s_bipush dX4_isDigitNext_34 rfl) (xcons (s_icgt dX4_isDigitNext_36 rfl) (xcons (s_iconst dX4_isDigitNext_39 rfl) (xcons (s_goto dX4_isDigitNext_40 rfl) (xcons (s_iconst dX4_isDigitNext_43 rfl) (xnil))))))))))))))))))))
theorem dX4_isDigitNext_44 : decode cX4_isDigitNext 44 = .ok (.ireturn, 1) := by decide +kernel
def k25_1 : List (Nat × XI) := [(44, x_zret)]
theorem o25_1 (scr : Nat × (Nat → Int32)) : ∀ q ∈ k25_1, XSnd xm scr Y25 q.1 q.2 := xcons (s_zret dX4_isDigitNext_44 rfl) (xnil)
def k25 (pc : Nat) : XI := if pc < 44 then xlk k25_0 pc else xlk k25_1 pc
theorem o25 (scr : Nat × (Nat → Int32)) (pc : Nat) : XSnd xm scr Y25 pc (k25 pc) := by
  unfold k25
  exact xite (xlk_ok (o25_0 scr) pc) (xlk_ok (o25_1 scr) pc)
theorem dX4_isNext_0 : decode cX4_isNext 0 = .ok (.aload_n 0, 1) := by decide +kernel
theorem dX4_isNext_1 : decode cX4_isNext 1 = .ok (.invokevirtual 34, 3) := by decide +kernel
theorem dX4_isNext_4 : decode cX4_isNext 4 = .ok (.ifCond .ne 22, 3) := by decide +kernel
theorem dX4_isNext_7 : decode cX4_isNext 7 = .ok (.aload_n 0, 1) := by decide +kernel
theorem dX4_isNext_8 : decode cX4_isNext 8 = .ok (.getfield 14, 3) := by decide +kernel
theorem dX4_isNext_11 : decode cX4_isNext 11 = .ok (.aload_n 0, 1) := by decide +kernel
theorem dX4_isNext_12 : decode cX4_isNext 12 = .ok (.getfield 23, 3) := by decide +kernel
theorem dX4_isNext_15 : decode cX4_isNext 15 = .ok (.invokevirtual 37, 3) := by decide +kernel
theorem dX4_isNext_18 : decode cX4_isNext 18 = .ok (.iload_n 1, 1) := by decide +kernel
theorem dX4_isNext_19 : decode cX4_isNext 19 = .ok (.if_icmp .ne 7, 3) := by decide +kernel
theorem dX4_isNext_22 : decode cX4_isNext 22 = .ok (.iconst 1, 1) := by decide +kernel
theorem dX4_isNext_23 : decode cX4_isNext 23 = .ok (.goto 4, 3) := by decide +kernel
theorem dX4_isNext_26 : decode cX4_isNext 26 = .ok (.iconst 0, 1) := by decide +kernel
theorem dX4_isNext_27 : decode cX4_isNext 27 = .ok (.ireturn, 1) := by decide +kernel
def k26_0 : List (Nat × XI) := [(0, x_aload 0 1), (1, x_inv 27 4 0 4), (4, x_ifne 26 7), (7, x_aload 0 8), (8, x_getR 4 0 11), (11, x_aload 0 12), (12, x_getI 4 3 15), (15, x_inv 6 2 1 18), (18, x_iload 1 19), (19, x_icne 26 22), (22, x_push (1) 23), (23, x_goto 27), (26, x_push (0) 27), (27, x_zret)]
theorem o26_0 (scr : Nat × (Nat → Int32)) : ∀ q ∈ k26_0, XSnd xm scr Y26 q.1 q.2 := xcons (s_aload_n rfl dX4_isNext_0) (xcons (s_inv (mid := 27) xC4 cal_27 xw_87 xw_88 xw_89 dX4_isNext_1) (xcons (s_ifne dX4_isNext_4 rfl) (xcons (s_aload_n rfl dX4_isNext_7) (xcons (s_getR (f := 0) xC4 (by decide) xw_90 rfl dX4_isNext_8) (xcons (s_aload_n rfl dX4_isNext_11) (xcons (s_getI (f := 3) xC4 (by decide) xw_80 rfl dX4_isNext_12) (xcons (s_inv (mid := 6) xC2 cal_6 xw_92 xw_93 xw_94 dX4_isNext_15) (xcons (s_iload_n rfl dX4_isNext_18) (xcons (s_icne dX4_isNext_19 rfl) (xcons (s_iconst dX4_isNext_22 rfl) (xcons (s_goto dX4_isNext_23 rfl) (xcons (s_iconst dX4_isNext_26 rfl) (xcons (s_zret dX4_isNext_27 rfl) (xnil))))))))))))))
def k26 (pc : Nat) : XI := xlk k26_0 pc
theorem o26 (scr : Nat × (Nat → Int32)) (pc : Nat) : XSnd xm scr Y26 pc (k26 pc) := by
  unfold k26
  exact xlk_ok (o26_0 scr) pc
theorem dX4_isRead_0 : decode cX4_isRead 0 = .ok (.aload_n 0, 1) := by decide +kernel
theorem dX4_isRead_1 : decode cX4_isRead 1 = .ok (.getfield 23, 3) := by decide +kernel
theorem dX4_isRead_4 : decode cX4_isRead 4 = .ok (.aload_n 0, 1) := by decide +kernel
theorem dX4_isRead_5 : decode cX4_isRead 5 = .ok (.getfield 14, 3) := by decide +kernel
theorem dX4_isRead_8 : decode cX4_isRead 8 = .ok (.getfield 27, 3) := by decide +kernel
theorem dX4_isRead_11 : decode cX4_isRead 11 = .ok (.if_icmp .lt 7, 3) := by decide +kernel
theorem dX4_isRead_14 : decode cX4_isRead 14 = .ok (.iconst 1, 1) := by decide +kernel
theorem dX4_isRead_15 : decode cX4_isRead 15 = .ok (.goto 4, 3) := by decide +kernel
theorem dX4_isRead_18 : decode cX4_isRead 18 = .ok (.iconst 0, 1) := by decide +kernel
theorem dX4_isRead_19 : decode cX4_isRead 19 = .ok (.ireturn, 1) := by decide +kernel
def k27_0 : List (Nat × XI) := [(0, x_aload 0 1), (1, x_getI 4 3 4), (4, x_aload 0 5), (5, x_getR 4 0 8), (8, x_getI 2 1 11), (11, x_iclt 18 14), (14, x_push (1) 15), (15, x_goto 19), (18, x_push (0) 19), (19, x_zret)]
theorem o27_0 (scr : Nat × (Nat → Int32)) : ∀ q ∈ k27_0, XSnd xm scr Y27 q.1 q.2 := xcons (s_aload_n rfl dX4_isRead_0) (xcons (s_getI (f := 3) xC4 (by decide) xw_80 rfl dX4_isRead_1) (xcons (s_aload_n rfl dX4_isRead_4) (xcons (s_getR (f := 0) xC4 (by decide) xw_90 rfl dX4_isRead_5) (xcons (s_getI (f := 1) xC2 (by decide) xw_99 rfl dX4_isRead_8) (xcons (s_iclt dX4_isRead_11 rfl) (xcons (s_iconst dX4_isRead_14 rfl) (xcons (s_goto dX4_isRead_15 rfl) (xcons (s_iconst dX4_isRead_18 rfl) (xcons (s_zret dX4_isRead_19 rfl) (xnil))))))))))
def k27 (pc : Nat) : XI := xlk k27_0 pc
theorem o27 (scr : Nat × (Nat → Int32)) (pc : Nat) : XSnd xm scr Y27 pc (k27 pc) := by
  unfold k27
  exact xlk_ok (o27_0 scr) pc
theorem dX4_readLine_0 : decode cX4_readLine 0 = .ok (.aload_n 0, 1) := by decide +kernel
theorem dX4_readLine_1 : decode cX4_readLine 1 = .ok (.getfield 20, 3) := by decide +kernel
theorem dX4_readLine_4 : decode cX4_readLine 4 = .ok (.iconst 0, 1) := by decide +kernel
theorem dX4_readLine_5 : decode cX4_readLine 5 = .ok (.putfield 27, 3) := by decide +kernel
theorem dX4_readLine_8 : decode cX4_readLine 8 = .ok (.aload_n 0, 1) := by decide +kernel
theorem dX4_readLine_9 : decode cX4_readLine 9 = .ok (.aload_n 0, 1) := by decide +kernel
theorem dX4_readLine_10 : decode cX4_readLine 10 = .ok (.invokevirtual 34, 3) := by decide +kernel
theorem dX4_readLine_13 : decode cX4_readLine 13 = .ok (.ifCond .eq 7, 3) := by decide +kernel
theorem dX4_readLine_16 : decode cX4_readLine 16 = .ok (.iconst (-1), 1) := by decide +kernel
theorem dX4_readLine_17 : decode cX4_readLine 17 = .ok (.goto 14, 3) := by decide +kernel
theorem dX4_readLine_20 : decode cX4_readLine 20 = .ok (.aload_n 0, 1) := by decide +kernel
theorem dX4_readLine_21 : decode cX4_readLine 21 = .ok (.getfield 14, 3) := by decide +kernel
theorem dX4_readLine_24 : decode cX4_readLine 24 = .ok (.aload_n 0, 1) := by decide +kernel
theorem dX4_readLine_25 : decode cX4_readLine 25 = .ok (.getfield 23, 3) := by decide +kernel
theorem dX4_readLine_28 : decode cX4_readLine 28 = .ok (.invokevirtual 37, 3) := by decide +kernel
theorem dX4_readLine_31 : decode cX4_readLine 31 = .ok (.putfield 41, 3) := by decide +kernel
theorem dX4_readLine_34 : decode cX4_readLine 34 = .ok (.aload_n 0, 1) := by decide +kernel
theorem dX4_readLine_35 : decode cX4_readLine 35 = .ok (.getfield 41, 3) := by decide +kernel
theorem dX4_readLine_38 : decode cX4_readLine 38 = .ok (.bipush 97, 2) := by decide +kernel
theorem dX4_readLine_40 : decode cX4_readLine 40 = .ok (.if_icmp .ne 7, 3) := by decide +kernel
def k28_0 : List (Nat × XI) := [(0, x_aload 0 1), (1, x_getR 4 1 4), (4, x_push (0) 5), (5, x_putI 2 1 8), (8, x_aload 0 9), (9, x_aload 0 10), (10, x_inv 27 4 0 13), (13, x_ifeq 20 16), (16, x_push (-1) 17), (17, x_goto 31), (20, x_aload 0 21), (21, x_getR 4 0 24), (24, x_aload 0 25), (25, x_getI 4 3 28), (28, x_inv 6 2 1 31), (31, x_putI 4 2 34), (34, x_aload 0 35), (35, x_getI 4 2 38), (38, x_push (97) 40), (40, x_icne 47 43)]
theorem o28_0 (scr : Nat × (Nat → Int32)) : ∀ q ∈ k28_0, XSnd xm scr Y28 q.1 q.2 := xcons (s_aload_n rfl dX4_readLine_0) (xcons (s_getR (f := 1) xC4 (by decide) xw_98 rfl dX4_readLine_1) (xcons (s_iconst dX4_readLine_4 rfl) (xcons (s_putI (f := 1) xC2 (by decide) xw_99 rfl (Or.inl rfl) dX4_readLine_5) (xcons (s_aload_n rfl dX4_readLine_8) (xcons (s_aload_n rfl dX4_readLine_9) (xcons (s_inv (mid := 27) xC4 cal_27 xw_87 xw_88 xw_89 dX4_readLine_10) (xcons (s_ifeq dX4_readLine_13 rfl) (xcons (s_iconst dX4_readLine_16 rfl) (xcons (s_goto dX4_readLine_17 rfl) (xcons (s_aload_n rfl dX4_readLine_20) (xcons (s_getR (f := 0) xC4 (by decide) xw_90 rfl dX4_readLine_21) (xcons (s_aload_n rfl dX4_readLine_24) (xcons (s_getI (f := 3) xC4 (by decide) xw_80 rfl dX4_readLine_25) (xcons (s_inv (mid := 6) xC2 cal_6 xw_92 xw_93 xw_94 dX4_readLine_28) (xcons (s_putI (f := 2) xC4 (by decide) xw_100 rfl (Or.inl rfl) dX4_readLine_31) (xcons (s_aload_n rfl dX4_readLine_34) (xcons (s_getI (f := 2) xC4 (by decide) xw_100 rfl dX4_readLine_35) (xcons (s_bipush dX4_readLine_38 rfl) (xcons (s_icne dX4_readLine_40 rfl) (xnil))))))))))))))))))))
theorem dX4_readLine_43 : decode cX4_readLine 43 = .ok (.iconst 5, 1) := by decide +kernel
theorem dX4_readLine_44 : decode cX4_readLine 44 = .ok (.goto 30, 3) := by decide +kernel
theorem dX4_readLine_47 : decode cX4_readLine 47 = .ok (.aload_n 0, 1) := by decide +kernel
theorem dX4_readLine_48 : decode cX4_readLine 48 = .ok (.getfield 41, 3) := by decide +kernel
theorem dX4_readLine_51 : decode cX4_readLine 51 = .ok (.bipush 109, 2) := by decide +kernel
theorem dX4_readLine_53 : decode cX4_readLine 53 = .ok (.if_icmp .ne 7, 3) := by decide +kernel
theorem dX4_readLine_56 : decode cX4_readLine 56 = .ok (.iconst 2, 1) := by decide +kernel
theorem dX4_readLine_57 : decode cX4_readLine 57 = .ok (.goto 17, 3) := by decide +kernel
theorem dX4_readLine_60 : decode cX4_readLine 60 = .ok (.aload_n 0, 1) := by decide +kernel
theorem dX4_readLine_61 : decode cX4_readLine 61 = .ok (.getfield 41, 3) := by decide +kernel
theorem dX4_readLine_64 : decode cX4_readLine 64 = .ok (.bipush 115, 2) := by decide +kernel
theorem dX4_readLine_66 : decode cX4_readLine 66 = .ok (.if_icmp .ne 7, 3) := by decide +kernel
theorem dX4_readLine_69 : decode cX4_readLine 69 = .ok (.iconst 1, 1) := by decide +kernel
theorem dX4_readLine_70 : decode cX4_readLine 70 = .ok (.goto 4, 3) := by decide +kernel
theorem dX4_readLine_73 : decode cX4_readLine 73 = .ok (.iconst 0, 1) := by decide +kernel
theorem dX4_readLine_74 : decode cX4_readLine 74 = .ok (.istore_n 1, 1) := by decide +kernel
theorem dX4_readLine_75 : decode cX4_readLine 75 = .ok (.iload_n 1, 1) := by decide +kernel
theorem dX4_readLine_76 : decode cX4_readLine 76 = .ok (.ifCond .ne 5, 3) := by decide +kernel
theorem dX4_readLine_79 : decode cX4_readLine 79 = .ok (.iconst 0, 1) := by decide +kernel
theorem dX4_readLine_80 : decode cX4_readLine 80 = .ok (.ireturn, 1) := by decide +kernel
def k28_1 : List (Nat × XI) := [(43, x_push (5) 44), (44, x_goto 74), (47, x_aload 0 48), (48, x_getI 4 2 51), (51, x_push (109) 53), (53, x_icne 60 56), (56, x_push (2) 57), (57, x_goto 74), (60, x_aload 0 61), (61, x_getI 4 2 64), (64, x_push (115) 66), (66, x_icne 73 69), (69, x_push (1) 70), (70, x_goto 74), (73, x_push (0) 74), (74, x_istore 1 75), (75, x_iload 1 76), (76, x_ifne 81 79), (79, x_push (0) 80), (80, x_zret)]
theorem o28_1 (scr : Nat × (Nat → Int32)) : ∀ q ∈ k28_1, XSnd xm scr Y28 q.1 q.2 := xcons (s_iconst dX4_readLine_43 rfl) (xcons (s_goto dX4_readLine_44 rfl) (xcons (s_aload_n rfl dX4_readLine_47) (xcons (s_getI (f := 2) xC4 (by decide) xw_100 rfl dX4_readLine_48) (xcons (s_bipush dX4_readLine_51 rfl) (xcons (s_icne dX4_readLine_53 rfl) (xcons (s_iconst dX4_readLine_56 rfl) (xcons (s_goto dX4_readLine_57 rfl) (xcons (s_aload_n rfl dX4_readLine_60) (xcons (s_getI (f := 2) xC4 (by decide) xw_100 rfl dX4_readLine_61) (xcons (s_bipush dX4_readLine_64 rfl) (xcons (s_icne dX4_readLine_66 rfl) (xcons (s_iconst dX4_readLine_69 rfl) (xcons (s_goto dX4_readLine_70 rfl) (xcons (s_iconst dX4_readLine_73 rfl) (xcons (s_istore_n rfl dX4_readLine_74 (by decide)) (xcons (s_iload_n rfl dX4_readLine_75) (xcons (s_ifne dX4_readLine_76 rfl) (xcons (s_iconst dX4_readLine_79 rfl) (xcons (s_zret dX4_readLine_80 rfl) (xnil))))))))))))))))))))
theorem dX4_readLine_81 : decode cX4_readLine 81 = .ok (.aload_n 0, 1) := by decide +kernel
theorem dX4_readLine_82 : decode cX4_readLine 82 = .ok (.dup, 1) := by decide +kernel
theorem dX4_readLine_83 : decode cX4_readLine 83 = .ok (.getfield 23, 3) := by decide +kernel
theorem dX4_readLine_86 : decode cX4_readLine 86 = .ok (.iconst 1, 1) := by decide +kernel
theorem dX4_readLine_87 : decode cX4_readLine 87 = .ok (.iadd, 1) := by decide +kernel
theorem dX4_readLine_88 : decode cX4_readLine 88 = .ok (.putfield 23, 3) := by decide +kernel
theorem dX4_readLine_91 : decode cX4_readLine 91 = .ok (.iconst 1, 1) := by decide +kernel
theorem dX4_readLine_92 : decode cX4_readLine 92 = .ok (.istore_n 2, 1) := by decide +kernel
theorem dX4_readLine_93 : decode cX4_readLine 93 = .ok (.iload_n 2, 1) := by decide +kernel
theorem dX4_readLine_94 : decode cX4_readLine 94 = .ok (.iload_n 1, 1) := by decide +kernel
theorem dX4_readLine_95 : decode cX4_readLine 95 = .ok (.if_icmp .gt 37, 3) := by decide +kernel
theorem dX4_readLine_98 : decode cX4_readLine 98 = .ok (.aload_n 0, 1) := by decide +kernel
theorem dX4_readLine_99 : decode cX4_readLine 99 = .ok (.aload_n 0, 1) := by decide +kernel
theorem dX4_readLine_100 : decode cX4_readLine 100 = .ok (.getfield 41, 3) := by decide +kernel
theorem dX4_readLine_103 : decode cX4_readLine 103 = .ok (.bipush 97, 2) := by decide +kernel
theorem dX4_readLine_105 : decode cX4_readLine 105 = .ok (.if_icmp .eq 12, 3) := by decide +kernel
theorem dX4_readLine_108 : decode cX4_readLine 108 = .ok (.iload_n 2, 1) := by decide +kernel
theorem dX4_readLine_109 : decode cX4_readLine 109 = .ok (.iload_n 1, 1) := by decide +kernel
theorem dX4_readLine_110 : decode cX4_readLine 110 = .ok (.if_icmp .ne 7, 3) := by decide +kernel
theorem dX4_readLine_113 : decode cX4_readLine 113 = .ok (.iconst 1, 1) := by decide +kernel
def k28_2 : List (Nat × XI) := [(81, x_aload 0 82), (82, x_dup 83), (83, x_getI 4 3 86), (86, x_push (1) 87), (87, x_iadd 88), (88, x_putI 4 3 91), (91, x_push (1) 92), (92, x_istore 2 93), (93, x_iload 2 94), (94, x_iload 1 95), (95, x_icgt 132 98), (98, x_aload 0 99), (99, x_aload 0 100), (100, x_getI 4 2 103), (103, x_push (97) 105), (105, x_iceq 117 108), (108, x_iload 2 109), (109, x_iload 1 110), (110, x_icne 117 113), (113, x_push (1) 114)]
theorem o28_2 (scr : Nat × (Nat → Int32)) : ∀ q ∈ k28_2, XSnd xm scr Y28 q.1 q.2 := xcons (s_aload_n rfl dX4_readLine_81) (xcons (s_dup dX4_readLine_82) (xcons (s_getI (f := 3) xC4 (by decide) xw_80 rfl dX4_readLine_83) (xcons (s_iconst dX4_readLine_86 rfl) (xcons (s_iadd dX4_readLine_87) (xcons (s_putI (f := 3) xC4 (by decide) xw_80 rfl (Or.inl rfl) dX4_readLine_88) (xcons (s_iconst dX4_readLine_91 rfl) (xcons (s_istore_n rfl dX4_readLine_92 (by decide)) (xcons (s_iload_n rfl dX4_readLine_93) (xcons (s_iload_n rfl dX4_readLine_94) (xcons (s_icgt dX4_readLine_95 rfl) (xcons (s_aload_n rfl dX4_readLine_98) (xcons (s_aload_n rfl dX4_readLine_99) (xcons (s_getI (f := 2) xC4 (by decide) xw_100 rfl dX4_readLine_100) (xcons (s_bipush dX4_readLine_103 rfl) (xcons (s_iceq dX4_readLine_105 rfl) (xcons (s_iload_n rfl dX4_readLine_108) (xcons (s_iload_n rfl dX4_readLine_109) (xcons (s_icne dX4_readLine_110 rfl) (xcons (s_iconst dX4_readLine_113 rfl) (xnil))))))))))))))))))))
theorem dX4_readLine_114 : decode cX4_readLine 114 = .ok (.goto 4, 3) := by decide +kernel
theorem dX4_readLine_117 : decode cX4_readLine 117 = .ok (.iconst 0, 1) := by decide +kernel
theorem dX4_readLine_118 : decode cX4_readLine 118 = .ok (.invokevirtual 44, 3) := by decide +kernel
theorem dX4_readLine_121 : decode cX4_readLine 121 = .ok (.ifCond .ne 5, 3) := by decide +kernel
theorem dX4_readLine_124 : decode cX4_readLine 124 = .ok (.iconst 0, 1) := by decide +kernel
theorem dX4_readLine_125 : decode cX4_readLine 125 = .ok (.ireturn, 1) := by decide +kernel
theorem dX4_readLine_126 : decode cX4_readLine 126 = .ok (.iinc 2 1, 3) := by decide +kernel
theorem dX4_readLine_129 : decode cX4_readLine 129 = .ok (.goto (-36), 3) := by decide +kernel
theorem dX4_readLine_132 : decode cX4_readLine 132 = .ok (.iconst 1, 1) := by decide +kernel
theorem dX4_readLine_133 : decode cX4_readLine 133 = .ok (.ireturn, 1) := by decide +kernel
def k28_3 : List (Nat × XI) := [(114, x_goto 118), (117, x_push (0) 118), (118, x_inv 29 4 1 121), (121, x_ifne 126 124), (124, x_push (0) 125), (125, x_zret), (126, x_iinc 2 (1) 129), (129, x_goto 93), (132, x_push (1) 133), (133, x_zret)]
theorem o28_3 (scr : Nat × (Nat → Int32)) : ∀ q ∈ k28_3, XSnd xm scr Y28 q.1 q.2 := xcons (s_goto dX4_readLine_114 rfl) (xcons (s_iconst dX4_readLine_117 rfl) (xcons (s_inv (mid := 29) xC4 cal_29 xw_102 xw_103 xw_104 dX4_readLine_118) (xcons (s_ifne dX4_readLine_121 rfl) (xcons (s_iconst dX4_readLine_124 rfl) (xcons (s_zret dX4_readLine_125 rfl) (xcons (s_iinc dX4_readLine_126 rfl (by decide)) (xcons (s_goto dX4_readLine_129 rfl) (xcons (s_iconst dX4_readLine_132 rfl) (xcons (s_zret dX4_readLine_133 rfl) (xnil))))))))))
def k28 (pc : Nat) : XI := if pc < 81 then if pc < 43 then xlk k28_0 pc else xlk k28_1 pc else if pc < 114 then xlk k28_2 pc else xlk k28_3 pc
theorem o28 (scr : Nat × (Nat → Int32)) (pc : Nat) : XSnd xm scr Y28 pc (k28 pc) := by
  unfold k28
  exact xite (xite (xlk_ok (o28_0 scr) pc) (xlk_ok (o28_1 scr) pc)) (xite (xlk_ok (o28_2 scr) pc) (xlk_ok (o28_3 scr) pc))
theorem dX4_readNumber_0 : decode cX4_readNumber 0 = .ok (.aload_n 0, 1) := by decide +kernel
theorem dX4_readNumber_1 : decode cX4_readNumber 1 = .ok (.bipush 32, 2) := by decide +kernel
theorem dX4_readNumber_3 : decode cX4_readNumber 3 = .ok (.invokevirtual 48, 3) := by decide +kernel
theorem dX4_readNumber_6 : decode cX4_readNumber 6 = .ok (.ifCond .ne 5, 3) := by decide +kernel
theorem dX4_readNumber_9 : decode cX4_readNumber 9 = .ok (.iconst 0, 1) := by decide +kernel
theorem dX4_readNumber_10 : decode cX4_readNumber 10 = .ok (.ireturn, 1) := by decide +kernel
theorem dX4_readNumber_11 : decode cX4_readNumber 11 = .ok (.aload_n 0, 1) := by decide +kernel
theorem dX4_readNumber_12 : decode cX4_readNumber 12 = .ok (.dup, 1) := by decide +kernel
theorem dX4_readNumber_13 : decode cX4_readNumber 13 = .ok (.getfield 23, 3) := by decide +kernel
theorem dX4_readNumber_16 : decode cX4_readNumber 16 = .ok (.iconst 1, 1) := by decide +kernel
theorem dX4_readNumber_17 : decode cX4_readNumber 17 = .ok (.iadd, 1) := by decide +kernel
theorem dX4_readNumber_18 : decode cX4_readNumber 18 = .ok (.putfield 23, 3) := by decide +kernel
theorem dX4_readNumber_21 : decode cX4_readNumber 21 = .ok (.iload_n 1, 1) := by decide +kernel
theorem dX4_readNumber_22 : decode cX4_readNumber 22 = .ok (.ifCond .eq 16, 3) := by decide +kernel
theorem dX4_readNumber_25 : decode cX4_readNumber 25 = .ok (.aload_n 0, 1) := by decide +kernel
theorem dX4_readNumber_26 : decode cX4_readNumber 26 = .ok (.bipush 45, 2) := by decide +kernel
theorem dX4_readNumber_28 : decode cX4_readNumber 28 = .ok (.invokevirtual 48, 3) := by decide +kernel
theorem dX4_readNumber_31 : decode cX4_readNumber 31 = .ok (.ifCond .eq 7, 3) := by decide +kernel
theorem dX4_readNumber_34 : decode cX4_readNumber 34 = .ok (.iconst 1, 1) := by decide +kernel
theorem dX4_readNumber_35 : decode cX4_readNumber 35 = .ok (.goto 4, 3) := by decide +kernel
def k29_0 : List (Nat × XI) := [(0, x_aload 0 1), (1, x_push (32) 3), (3, x_inv 26 4 1 6), (6, x_ifne 11 9), (9, x_push (0) 10), (10, x_zret), (11, x_aload 0 12), (12, x_dup 13), (13, x_getI 4 3 16), (16, x_push (1) 17), (17, x_iadd 18), (18, x_putI 4 3 21), (21, x_iload 1 22), (22, x_ifeq 38 25), (25, x_aload 0 26), (26, x_push (45) 28), (28, x_inv 26 4 1 31), (31, x_ifeq 38 34), (34, x_push (1) 35), (35, x_goto 39)]
theorem o29_0 (scr : Nat × (Nat → Int32)) : ∀ q ∈ k29_0, XSnd xm scr Y29 q.1 q.2 := xcons (s_aload_n rfl dX4_readNumber_0) (xcons (s_bipush dX4_readNumber_1 rfl) (xcons (s_inv (mid := 26) xC4 cal_26 xw_106 xw_107 xw_108 dX4_readNumber_3) (xcons (s_ifne dX4_readNumber_6 rfl) (xcons (s_iconst dX4_readNumber_9 rfl) (xcons (s_zret dX4_readNumber_10 rfl) (xcons (s_aload_n rfl dX4_readNumber_11) (xcons (s_dup dX4_readNumber_12) (xcons (s_getI (f := 3) xC4 (by decide) xw_80 rfl dX4_readNumber_13) (xcons (s_iconst dX4_readNumber_16 rfl) (xcons (s_iadd dX4_readNumber_17) (xcons (s_putI (f := 3) xC4 (by decide) xw_80 rfl (Or.inl rfl) dX4_readNumber_18) (xcons (s_iload_n rfl dX4_readNumber_21) (xcons (s_ifeq dX4_readNumber_22 rfl) (xcons (s_aload_n rfl dX4_readNumber_25) (xcons (s_bipush dX4_readNumber_26 rfl) (xcons (s_inv (mid := 26) xC4 cal_26 xw_106 xw_107 xw_108 dX4_readNumber_28) (xcons (s_ifeq dX4_readNumber_31 rfl) (xcons (s_iconst dX4_readNumber_34 rfl) (xcons (s_goto dX4_readNumber_35 rfl) (xnil))))))))))))))))))))
theorem dX4_readNumber_38 : decode cX4_readNumber 38 = .ok (.iconst 0, 1) := by decide +kernel
theorem dX4_readNumber_39 : decode cX4_readNumber 39 = .ok (.istore_n 2, 1) := by decide +kernel
theorem dX4_readNumber_40 : decode cX4_readNumber 40 = .ok (.aload_n 0, 1) := by decide +kernel
theorem dX4_readNumber_41 : decode cX4_readNumber 41 = .ok (.dup, 1) := by decide +kernel
theorem dX4_readNumber_42 : decode cX4_readNumber 42 = .ok (.getfield 23, 3) := by decide +kernel
theorem dX4_readNumber_45 : decode cX4_readNumber 45 = .ok (.iload_n 2, 1) := by decide +kernel
theorem dX4_readNumber_46 : decode cX4_readNumber 46 = .ok (.ifCond .eq 7, 3) := by decide +kernel
theorem dX4_readNumber_49 : decode cX4_readNumber 49 = .ok (.iconst 1, 1) := by decide +kernel
theorem dX4_readNumber_50 : decode cX4_readNumber 50 = .ok (.goto 4, 3) := by decide +kernel
theorem dX4_readNumber_53 : decode cX4_readNumber 53 = .ok (.iconst 0, 1) := by decide +kernel
theorem dX4_readNumber_54 : decode cX4_readNumber 54 = .ok (.iadd, 1) := by decide +kernel
theorem dX4_readNumber_55 : decode cX4_readNumber 55 = .ok (.putfield 23, 3) := by decide +kernel
theorem dX4_readNumber_58 : decode cX4_readNumber 58 = .ok (.aload_n 0, 1) := by decide +kernel
theorem dX4_readNumber_59 : decode cX4_readNumber 59 = .ok (.invokevirtual 52, 3) := by decide +kernel
theorem dX4_readNumber_62 : decode cX4_readNumber 62 = .ok (.ifCond .ne 5, 3) := by decide +kernel
theorem dX4_readNumber_65 : decode cX4_readNumber 65 = .ok (.iconst 0, 1) := by decide +kernel
theorem dX4_readNumber_66 : decode cX4_readNumber 66 = .ok (.ireturn, 1) := by decide +kernel
theorem dX4_readNumber_67 : decode cX4_readNumber 67 = .ok (.aload_n 0, 1) := by decide +kernel
theorem dX4_readNumber_68 : decode cX4_readNumber 68 = .ok (.getfield 14, 3) := by decide +kernel
theorem dX4_readNumber_71 : decode cX4_readNumber 71 = .ok (.aload_n 0, 1) := by decide +kernel
def k29_1 : List (Nat × XI) := [(38, x_push (0) 39), (39, x_istore 2 40), (40, x_aload 0 41), (41, x_dup 42), (42, x_getI 4 3 45), (45, x_iload 2 46), (46, x_ifeq 53 49), (49, x_push (1) 50), (50, x_goto 54), (53, x_push (0) 54), (54, x_iadd 55), (55, x_putI 4 3 58), (58, x_aload 0 59), (59, x_inv 25 4 0 62), (62, x_ifne 67 65), (65, x_push (0) 66), (66, x_zret), (67, x_aload 0 68), (68, x_getR 4 0 71), (71, x_aload 0 72)]
theorem o29_1 (scr : Nat × (Nat → Int32)) : ∀ q ∈ k29_1, XSnd xm scr Y29 q.1 q.2 := xcons (s_iconst dX4_readNumber_38 rfl) (xcons (s_istore_n rfl dX4_readNumber_39 (by decide)) (xcons (s_aload_n rfl dX4_readNumber_40) (xcons (s_dup dX4_readNumber_41) (xcons (s_getI (f := 3) xC4 (by decide) xw_80 rfl dX4_readNumber_42) (xcons (s_iload_n rfl dX4_readNumber_45) (xcons (s_ifeq dX4_readNumber_46 rfl) (xcons (s_iconst dX4_readNumber_49 rfl) (xcons (s_goto dX4_readNumber_50 rfl) (xcons (s_iconst dX4_readNumber_53 rfl) (xcons (s_iadd dX4_readNumber_54) (xcons (s_putI (f := 3) xC4 (by decide) xw_80 rfl (Or.inl rfl) dX4_readNumber_55) (xcons (s_aload_n rfl dX4_readNumber_58) (xcons (s_inv (mid := 25) xC4 cal_25 xw_110 xw_111 xw_112 dX4_readNumber_59) (xcons (s_ifne dX4_readNumber_62 rfl) (xcons (s_iconst dX4_readNumber_65 rfl) (xcons (s_zret dX4_readNumber_66 rfl) (xcons (s_aload_n rfl dX4_readNumber_67) (xcons (s_getR (f := 0) xC4 (by decide) xw_90 rfl dX4_readNumber_68) (xcons (s_aload_n rfl dX4_readNumber_71) (xnil))))))))))))))))))))
theorem dX4_readNumber_72 : decode cX4_readNumber 72 = .ok (.getfield 23, 3) := by decide +kernel
theorem dX4_readNumber_75 : decode cX4_readNumber 75 = .ok (.invokevirtual 37, 3) := by decide +kernel
theorem dX4_readNumber_78 : decode cX4_readNumber 78 = .ok (.bipush 48, 2) := by decide +kernel
theorem dX4_readNumber_80 : decode cX4_readNumber 80 = .ok (.isub, 1) := by decide +kernel
theorem dX4_readNumber_81 : decode cX4_readNumber 81 = .ok (.istore_n 3, 1) := by decide +kernel
theorem dX4_readNumber_82 : decode cX4_readNumber 82 = .ok (.aload_n 0, 1) := by decide +kernel
theorem dX4_readNumber_83 : decode cX4_readNumber 83 = .ok (.dup, 1) := by decide +kernel
theorem dX4_readNumber_84 : decode cX4_readNumber 84 = .ok (.getfield 23, 3) := by decide +kernel
theorem dX4_readNumber_87 : decode cX4_readNumber 87 = .ok (.iconst 1, 1) := by decide +kernel
theorem dX4_readNumber_88 : decode cX4_readNumber 88 = .ok (.iadd, 1) := by decide +kernel
theorem dX4_readNumber_89 : decode cX4_readNumber 89 = .ok (.putfield 23, 3) := by decide +kernel
theorem dX4_readNumber_92 : decode cX4_readNumber 92 = .ok (.aload_n 0, 1) := by decide +kernel
theorem dX4_readNumber_93 : decode cX4_readNumber 93 = .ok (.invokevirtual 52, 3) := by decide +kernel
theorem dX4_readNumber_96 : decode cX4_readNumber 96 = .ok (.ifCond .eq 33, 3) := by decide +kernel
theorem dX4_readNumber_99 : decode cX4_readNumber 99 = .ok (.bipush 10, 2) := by decide +kernel
theorem dX4_readNumber_101 : decode cX4_readNumber 101 = .ok (.iload_n 3, 1) := by decide +kernel
theorem dX4_readNumber_102 : decode cX4_readNumber 102 = .ok (.imul, 1) := by decide +kernel
theorem dX4_readNumber_103 : decode cX4_readNumber 103 = .ok (.aload_n 0, 1) := by decide +kernel
theorem dX4_readNumber_104 : decode cX4_readNumber 104 = .ok (.getfield 14, 3) := by decide +kernel
theorem dX4_readNumber_107 : decode cX4_readNumber 107 = .ok (.aload_n 0, 1) := by decide +kernel
def k29_2 : List (Nat × XI) := [(72, x_getI 4 3 75), (75, x_inv 6 2 1 78), (78, x_push (48) 80), (80, x_isub 81), (81, x_istore 3 82), (82, x_aload 0 83), (83, x_dup 84), (84, x_getI 4 3 87), (87, x_push (1) 88), (88, x_iadd 89), (89, x_putI 4 3 92), (92, x_aload 0 93), (93, x_inv 25 4 0 96), (96, x_ifeq 129 99), (99, x_push (10) 101), (101, x_iload 3 102), (102, x_imul 103), (103, x_aload 0 104), (104, x_getR 4 0 107), (107, x_aload 0 108)]
theorem o29_2 (scr : Nat × (Nat → Int32)) : ∀ q ∈ k29_2, XSnd xm scr Y29 q.1 q.2 := xcons (s_getI (f := 3) xC4 (by decide) xw_80 rfl dX4_readNumber_72) (xcons (s_inv (mid := 6) xC2 cal_6 xw_92 xw_93 xw_94 dX4_readNumber_75) (xcons (s_bipush dX4_readNumber_78 rfl) (xcons (s_isub dX4_readNumber_80) (xcons (s_istore_n rfl dX4_readNumber_81 (by decide)) (xcons (s_aload_n rfl dX4_readNumber_82) (xcons (s_dup dX4_readNumber_83) (xcons (s_getI (f := 3) xC4 (by decide) xw_80 rfl dX4_readNumber_84) (xcons (s_iconst dX4_readNumber_87 rfl) (xcons (s_iadd dX4_readNumber_88) (xcons (s_putI (f := 3) xC4 (by decide) xw_80 rfl (Or.inl rfl) dX4_readNumber_89) (xcons (s_aload_n rfl dX4_readNumber_92) (xcons (s_inv (mid := 25) xC4 cal_25 xw_110 xw_111 xw_112 dX4_readNumber_93) (xcons (s_ifeq dX4_readNumber_96 rfl) (xcons (s_bipush dX4_readNumber_99 rfl) (xcons (s_iload_n rfl dX4_readNumber_101) (xcons (s_imul dX4_readNumber_102) (xcons (s_aload_n rfl dX4_readNumber_103) (xcons (s_getR (f := 0) xC4 (by decide) xw_90 rfl dX4_readNumber_104) (xcons (s_aload_n rfl dX4_readNumber_107) (xnil))))))))))))))))))))
theorem dX4_readNumber_108 : decode cX4_readNumber 108 = .ok (.getfield 23, 3) := by decide +kernel
theorem dX4_readNumber_111 : decode cX4_readNumber 111 = .ok (.invokevirtual 37, 3) := by decide +kernel
theorem dX4_readNumber_114 : decode cX4_readNumber 114 = .ok (.iadd, 1) := by decide +kernel
theorem dX4_readNumber_115 : decode cX4_readNumber 115 = .ok (.bipush 48, 2) := by decide +kernel
theorem dX4_readNumber_117 : decode cX4_readNumber 117 = .ok (.isub, 1) := by decide +kernel
theorem dX4_readNumber_118 : decode cX4_readNumber 118 = .ok (.istore_n 3, 1) := by decide +kernel
theorem dX4_readNumber_119 : decode cX4_readNumber 119 = .ok (.aload_n 0, 1) := by decide +kernel
theorem dX4_readNumber_120 : decode cX4_readNumber 120 = .ok (.dup, 1) := by decide +kernel
theorem dX4_readNumber_121 : decode cX4_readNumber 121 = .ok (.getfield 23, 3) := by decide +kernel
theorem dX4_readNumber_124 : decode cX4_readNumber 124 = .ok (.iconst 1, 1) := by decide +kernel
theorem dX4_readNumber_125 : decode cX4_readNumber 125 = .ok (.iadd, 1) := by decide +kernel
theorem dX4_readNumber_126 : decode cX4_readNumber 126 = .ok (.putfield 23, 3) := by decide +kernel
theorem dX4_readNumber_129 : decode cX4_readNumber 129 = .ok (.aload_n 0, 1) := by decide +kernel
theorem dX4_readNumber_130 : decode cX4_readNumber 130 = .ok (.getfield 20, 3) := by decide +kernel
theorem dX4_readNumber_133 : decode cX4_readNumber 133 = .ok (.iload_n 2, 1) := by decide +kernel
theorem dX4_readNumber_134 : decode cX4_readNumber 134 = .ok (.ifCond .eq 8, 3) := by decide +kernel
theorem dX4_readNumber_137 : decode cX4_readNumber 137 = .ok (.iload_n 3, 1) := by decide +kernel
theorem dX4_readNumber_138 : decode cX4_readNumber 138 = .ok (.ineg, 1) := by decide +kernel
theorem dX4_readNumber_139 : decode cX4_readNumber 139 = .ok (.goto 4, 3) := by decide +kernel
theorem dX4_readNumber_142 : decode cX4_readNumber 142 = .ok (.iload_n 3, 1) := by decide +kernel
def k29_3 : List (Nat × XI) := [(108, x_getI 4 3 111), (111, x_inv 6 2 1 114), (114, x_iadd 115), (115, x_push (48) 117), (117, x_isub 118), (118, x_istore 3 119), (119, x_aload 0 120), (120, x_dup 121), (121, x_getI 4 3 124), (124, x_push (1) 125), (125, x_iadd 126), (126, x_putI 4 3 129), (129, x_aload 0 130), (130, x_getR 4 1 133), (133, x_iload 2 134), (134, x_ifeq 142 137), (137, x_iload 3 138), (138, x_ineg 139), (139, x_goto 143), (142, x_iload 3 143)]
theorem o29_3 (scr : Nat × (Nat → Int32)) : ∀ q ∈ k29_3, XSnd xm scr Y29 q.1 q.2 := xcons (s_getI (f := 3) xC4 (by decide) xw_80 rfl dX4_readNumber_108) (xcons (s_inv (mid := 6) xC2 cal_6 xw_92 xw_93 xw_94 dX4_readNumber_111) (xcons (s_iadd dX4_readNumber_114) (xcons (s_bipush dX4_readNumber_115 rfl) (xcons (s_isub dX4_readNumber_117) (xcons (s_istore_n rfl dX4_readNumber_118 (by decide)) (xcons (s_aload_n rfl dX4_readNumber_119) (xcons (s_dup dX4_readNumber_120) (xcons (s_getI (f := 3) xC4 (by decide) xw_80 rfl dX4_readNumber_121) (xcons (s_iconst dX4_readNumber_124 rfl) (xcons (s_iadd dX4_readNumber_125) (xcons (s_putI (f := 3) xC4 (by decide) xw_80 rfl (Or.inl rfl) dX4_readNumber_126) (xcons (s_aload_n rfl dX4_readNumber_129) (xcons (s_getR (f := 1) xC4 (by decide) xw_98 rfl dX4_readNumber_130) (xcons (s_iload_n rfl dX4_readNumber_133) (xcons (s_ifeq dX4_readNumber_134 rfl) (xcons (s_iload_n rfl dX4_readNumber_137) (xcons (s_ineg dX4_readNumber_138) (xcons (s_goto dX4_readNumber_139 rfl) (xcons (s_iload_n rfl dX4_readNumber_142) (xnil))))))))))))))))))))
theorem dX4_readNumber_143 : decode cX4_readNumber 143 = .ok (.invokevirtual 55, 3) := by decide +kernel
theorem dX4_readNumber_146 : decode cX4_readNumber 146 = .ok (.pop, 1) := by decide +kernel
theorem dX4_readNumber_147 : decode cX4_readNumber 147 = .ok (.iconst 1, 1) := by decide +kernel
theorem dX4_readNumber_148 : decode cX4_readNumber 148 = .ok (.ireturn, 1) := by decide +kernel
def k29_4 : List (Nat × XI) := [(143, x_inv 5 2 1 146), (146, x_pop 147), (147, x_push (1) 148), (148, x_zret)]
theorem o29_4 (scr : Nat × (Nat → Int32)) : ∀ q ∈ k29_4, XSnd xm scr Y29 q.1 q.2 := xcons (s_inv (mid := 5) xC2 cal_5 xw_113 xw_44 xw_45 dX4_readNumber_143) (xcons (s_pop dX4_readNumber_146) (xcons (s_iconst dX4_readNumber_147 rfl) (xcons (s_zret dX4_readNumber_148 rfl) (xnil))))
def k29 (pc : Nat) : XI := if pc < 72 then if pc < 38 then xlk k29_0 pc else xlk k29_1 pc else if pc < 108 then xlk k29_2 pc else if pc < 143 then xlk k29_3 pc else xlk k29_4 pc
theorem o29 (scr : Nat × (Nat → Int32)) (pc : Nat) : XSnd xm scr Y29 pc (k29 pc) := by
  unfold k29
  exact xite (xite (xlk_ok (o29_0 scr) pc) (xlk_ok (o29_1 scr) pc)) (xite (xlk_ok (o29_2 scr) pc) (xite (xlk_ok (o29_3 scr) pc) (xlk_ok (o29_4 scr) pc)))
theorem dX5_copyFrom_0 : decode cX5_copyFrom 0 = .ok (.aload_n 0, 1) := by decide +kernel
theorem dX5_copyFrom_1 : decode cX5_copyFrom 1 = .ok (.iconst 0, 1) := by decide +kernel
theorem dX5_copyFrom_2 : decode cX5_copyFrom 2 = .ok (.aload_n 1, 1) := by decide +kernel
theorem dX5_copyFrom_3 : decode cX5_copyFrom 3 = .ok (.getfield 21, 3) := by decide +kernel
theorem dX5_copyFrom_6 : decode cX5_copyFrom 6 = .ok (.bipush 10, 2) := by decide +kernel
theorem dX5_copyFrom_8 : decode cX5_copyFrom 8 = .ok (.invokestatic 29, 3) := by decide +kernel
theorem dX5_copyFrom_11 : decode cX5_copyFrom 11 = .ok (.invokestatic 35, 3) := by decide +kernel
theorem dX5_copyFrom_14 : decode cX5_copyFrom 14 = .ok (.putfield 21, 3) := by decide +kernel
theorem dX5_copyFrom_17 : decode cX5_copyFrom 17 = .ok (.aload_n 1, 1) := by decide +kernel
theorem dX5_copyFrom_18 : decode cX5_copyFrom 18 = .ok (.getfield 9, 3) := by decide +kernel
theorem dX5_copyFrom_21 : decode cX5_copyFrom 21 = .ok (.iconst 0, 1) := by decide +kernel
theorem dX5_copyFrom_22 : decode cX5_copyFrom 22 = .ok (.aload_n 0, 1) := by decide +kernel
theorem dX5_copyFrom_23 : decode cX5_copyFrom 23 = .ok (.getfield 9, 3) := by decide +kernel
theorem dX5_copyFrom_26 : decode cX5_copyFrom 26 = .ok (.iconst 0, 1) := by decide +kernel
theorem dX5_copyFrom_27 : decode cX5_copyFrom 27 = .ok (.aload_n 0, 1) := by decide +kernel
theorem dX5_copyFrom_28 : decode cX5_copyFrom 28 = .ok (.getfield 21, 3) := by decide +kernel
theorem dX5_copyFrom_31 : decode cX5_copyFrom 31 = .ok (.invokestatic 38, 3) := by decide +kernel
theorem dX5_copyFrom_34 : decode cX5_copyFrom 34 = .ok (.aload_n 1, 1) := by decide +kernel
theorem dX5_copyFrom_35 : decode cX5_copyFrom 35 = .ok (.getfield 15, 3) := by decide +kernel
theorem dX5_copyFrom_38 : decode cX5_copyFrom 38 = .ok (.iconst 0, 1) := by decide +kernel
def k30_0 : List (Nat × XI) := [(0, x_aload 0 1), (1, x_push (0) 2), (2, x_aload 1 3), (3, x_getI 5 3 6), (6, x_push (10) 8), (8, x_mmin 11), (11, x_mmax 14), (14, x_putI 5 3 17), (17, x_aload 1 18), (18, x_getR 5 0 21), (21, x_push (0) 22), (22, x_aload 0 23), (23, x_getR 5 0 26), (26, x_push (0) 27), (27, x_aload 0 28), (28, x_getI 5 3 31), (31, x_copy 34), (34, x_aload 1 35), (35, x_getR 5 1 38), (38, x_push (0) 39)]
theorem o30_0 (scr : Nat × (Nat → Int32)) : ∀ q ∈ k30_0, XSnd xm scr Y30 q.1 q.2 := xcons (s_aload_n rfl dX5_copyFrom_0) (xcons (s_iconst dX5_copyFrom_1 rfl) (xcons (s_aload_n rfl dX5_copyFrom_2) (xcons (s_getI (f := 3) xC5 (by decide) xw_114 rfl dX5_copyFrom_3) (xcons (s_bipush dX5_copyFrom_6 rfl) (xcons (s_mmin xw_115 xw_53 xw_54 xw_55 dX5_copyFrom_8) (xcons (s_mmax xw_116 xw_57 xw_54 xw_58 dX5_copyFrom_11) (xcons (s_putI (f := 3) xC5 (by decide) xw_114 rfl (Or.inl rfl) dX5_copyFrom_14) (xcons (s_aload_n rfl dX5_copyFrom_17) (xcons (s_getR (f := 0) xC5 (by decide) xw_117 rfl dX5_copyFrom_18) (xcons (s_iconst dX5_copyFrom_21 rfl) (xcons (s_aload_n rfl dX5_copyFrom_22) (xcons (s_getR (f := 0) xC5 (by decide) xw_117 rfl dX5_copyFrom_23) (xcons (s_iconst dX5_copyFrom_26 rfl) (xcons (s_aload_n rfl dX5_copyFrom_27) (xcons (s_getI (f := 3) xC5 (by decide) xw_114 rfl dX5_copyFrom_28) (xcons (s_copy xw_118 xw_60 xw_61 xw_62 dX5_copyFrom_31) (xcons (s_aload_n rfl dX5_copyFrom_34) (xcons (s_getR (f := 1) xC5 (by decide) xw_119 rfl dX5_copyFrom_35) (xcons (s_iconst dX5_copyFrom_38 rfl) (xnil))))))))))))))))))))
theorem dX5_copyFrom_39 : decode cX5_copyFrom 39 = .ok (.aload_n 0, 1) := by decide +kernel
theorem dX5_copyFrom_40 : decode cX5_copyFrom 40 = .ok (.getfield 15, 3) := by decide +kernel
theorem dX5_copyFrom_43 : decode cX5_copyFrom 43 = .ok (.iconst 0, 1) := by decide +kernel
theorem dX5_copyFrom_44 : decode cX5_copyFrom 44 = .ok (.aload_n 0, 1) := by decide +kernel
theorem dX5_copyFrom_45 : decode cX5_copyFrom 45 = .ok (.getfield 21, 3) := by decide +kernel
theorem dX5_copyFrom_48 : decode cX5_copyFrom 48 = .ok (.invokestatic 38, 3) := by decide +kernel
theorem dX5_copyFrom_51 : decode cX5_copyFrom 51 = .ok (.aload_n 1, 1) := by decide +kernel
theorem dX5_copyFrom_52 : decode cX5_copyFrom 52 = .ok (.getfield 18, 3) := by decide +kernel
theorem dX5_copyFrom_55 : decode cX5_copyFrom 55 = .ok (.iconst 0, 1) := by decide +kernel
theorem dX5_copyFrom_56 : decode cX5_copyFrom 56 = .ok (.aload_n 0, 1) := by decide +kernel
theorem dX5_copyFrom_57 : decode cX5_copyFrom 57 = .ok (.getfield 18, 3) := by decide +kernel
theorem dX5_copyFrom_60 : decode cX5_copyFrom 60 = .ok (.iconst 0, 1) := by decide +kernel
theorem dX5_copyFrom_61 : decode cX5_copyFrom 61 = .ok (.aload_n 0, 1) := by decide +kernel
theorem dX5_copyFrom_62 : decode cX5_copyFrom 62 = .ok (.getfield 21, 3) := by decide +kernel
theorem dX5_copyFrom_65 : decode cX5_copyFrom 65 = .ok (.invokestatic 38, 3) := by decide +kernel
theorem dX5_copyFrom_68 : decode cX5_copyFrom 68 = .ok (.return_, 1) := by decide +kernel
def k30_1 : List (Nat × XI) := [(39, x_aload 0 40), (40, x_getR 5 1 43), (43, x_push (0) 44), (44, x_aload 0 45), (45, x_getI 5 3 48), (48, x_copy 51), (51, x_aload 1 52), (52, x_getR 5 2 55), (55, x_push (0) 56), (56, x_aload 0 57), (57, x_getR 5 2 60), (60, x_push (0) 61), (61, x_aload 0 62), (62, x_getI 5 3 65), (65, x_copy 68), (68, x_ret)]
theorem o30_1 (scr : Nat × (Nat → Int32)) : ∀ q ∈ k30_1, XSnd xm scr Y30 q.1 q.2 := xcons (s_aload_n rfl dX5_copyFrom_39) (xcons (s_getR (f := 1) xC5 (by decide) xw_119 rfl dX5_copyFrom_40) (xcons (s_iconst dX5_copyFrom_43 rfl) (xcons (s_aload_n rfl dX5_copyFrom_44) (xcons (s_getI (f := 3) xC5 (by decide) xw_114 rfl dX5_copyFrom_45) (xcons (s_copy xw_118 xw_60 xw_61 xw_62 dX5_copyFrom_48) (xcons (s_aload_n rfl dX5_copyFrom_51) (xcons (s_getR (f := 2) xC5 (by decide) xw_120 rfl dX5_copyFrom_52) (xcons (s_iconst dX5_copyFrom_55 rfl) (xcons (s_aload_n rfl dX5_copyFrom_56) (xcons (s_getR (f := 2) xC5 (by decide) xw_120 rfl dX5_copyFrom_57) (xcons (s_iconst dX5_copyFrom_60 rfl) (xcons (s_aload_n rfl dX5_copyFrom_61) (xcons (s_getI (f := 3) xC5 (by decide) xw_114 rfl dX5_copyFrom_62) (xcons (s_copy xw_118 xw_60 xw_61 xw_62 dX5_copyFrom_65) (xcons (s_ret dX5_copyFrom_68 rfl) (xnil))))))))))))))))
def k30 (pc : Nat) : XI := if pc < 39 then xlk k30_0 pc else xlk k30_1 pc
theorem o30 (scr : Nat × (Nat → Int32)) (pc : Nat) : XSnd xm scr Y30 pc (k30 pc) := by
  unfold k30
  exact xite (xlk_ok (o30_0 scr) pc) (xlk_ok (o30_1 scr) pc)
theorem dX5_countOf_0 : decode cX5_countOf 0 = .ok (.iconst 0, 1) := by decide +kernel
theorem dX5_countOf_1 : decode cX5_countOf 1 = .ok (.istore_n 2, 1) := by decide +kernel
theorem dX5_countOf_2 : decode cX5_countOf 2 = .ok (.iconst 0, 1) := by decide +kernel
theorem dX5_countOf_3 : decode cX5_countOf 3 = .ok (.istore_n 3, 1) := by decide +kernel
theorem dX5_countOf_4 : decode cX5_countOf 4 = .ok (.iload_n 3, 1) := by decide +kernel
theorem dX5_countOf_5 : decode cX5_countOf 5 = .ok (.aload_n 0, 1) := by decide +kernel
theorem dX5_countOf_6 : decode cX5_countOf 6 = .ok (.getfield 21, 3) := by decide +kernel
theorem dX5_countOf_9 : decode cX5_countOf 9 = .ok (.if_icmp .ge 33, 3) := by decide +kernel
theorem dX5_countOf_12 : decode cX5_countOf 12 = .ok (.iload_n 3, 1) := by decide +kernel
theorem dX5_countOf_13 : decode cX5_countOf 13 = .ok (.bipush 10, 2) := by decide +kernel
theorem dX5_countOf_15 : decode cX5_countOf 15 = .ok (.if_icmp .ge 27, 3) := by decide +kernel
theorem dX5_countOf_18 : decode cX5_countOf 18 = .ok (.iload_n 2, 1) := by decide +kernel
theorem dX5_countOf_19 : decode cX5_countOf 19 = .ok (.aload_n 0, 1) := by decide +kernel
theorem dX5_countOf_20 : decode cX5_countOf 20 = .ok (.getfield 9, 3) := by decide +kernel
theorem dX5_countOf_23 : decode cX5_countOf 23 = .ok (.iload_n 3, 1) := by decide +kernel
theorem dX5_countOf_24 : decode cX5_countOf 24 = .ok (.iaload, 1) := by decide +kernel
theorem dX5_countOf_25 : decode cX5_countOf 25 = .ok (.iload_n 1, 1) := by decide +kernel
theorem dX5_countOf_26 : decode cX5_countOf 26 = .ok (.if_icmp .ne 7, 3) := by decide +kernel
theorem dX5_countOf_29 : decode cX5_countOf 29 = .ok (.iconst 1, 1) := by decide +kernel
theorem dX5_countOf_30 : decode cX5_countOf 30 = .ok (.goto 4, 3) := by decide +kernel
def k31_0 : List (Nat × XI) := [(0, x_push (0) 1), (1, x_istore 2 2), (2, x_push (0) 3), (3, x_istore 3 4), (4, x_iload 3 5), (5, x_aload 0 6), (6, x_getI 5 3 9), (9, x_icge 42 12), (12, x_iload 3 13), (13, x_push (10) 15), (15, x_icge 42 18), (18, x_iload 2 19), (19, x_aload 0 20), (20, x_getR 5 0 23), (23, x_iload 3 24), (24, x_iald 25), (25, x_iload 1 26), (26, x_icne 33 29), (29, x_push (1) 30), (30, x_goto 34)]
theorem o31_0 (scr : Nat × (Nat → Int32)) : ∀ q ∈ k31_0, XSnd xm scr Y31 q.1 q.2 := xcons (s_iconst dX5_countOf_0 rfl) (xcons (s_istore_n rfl dX5_countOf_1 (by decide)) (xcons (s_iconst dX5_countOf_2 rfl) (xcons (s_istore_n rfl dX5_countOf_3 (by decide)) (xcons (s_iload_n rfl dX5_countOf_4) (xcons (s_aload_n rfl dX5_countOf_5) (xcons (s_getI (f := 3) xC5 (by decide) xw_114 rfl dX5_countOf_6) (xcons (s_icge dX5_countOf_9 rfl) (xcons (s_iload_n rfl dX5_countOf_12) (xcons (s_bipush dX5_countOf_13 rfl) (xcons (s_icge dX5_countOf_15 rfl) (xcons (s_iload_n rfl dX5_countOf_18) (xcons (s_aload_n rfl dX5_countOf_19) (xcons (s_getR (f := 0) xC5 (by decide) xw_117 rfl dX5_countOf_20) (xcons (s_iload_n rfl dX5_countOf_23) (xcons (s_iald dX5_countOf_24) (xcons (s_iload_n rfl dX5_countOf_25) (xcons (s_icne dX5_countOf_26 rfl) (xcons (s_iconst dX5_countOf_29 rfl) (xcons (s_goto dX5_countOf_30 rfl) (xnil))))))))))))))))))))
theorem dX5_countOf_33 : decode cX5_countOf 33 = .ok (.iconst 0, 1) := by decide +kernel
theorem dX5_countOf_34 : decode cX5_countOf 34 = .ok (.iadd, 1) := by decide +kernel
theorem dX5_countOf_35 : decode cX5_countOf 35 = .ok (.istore_n 2, 1) := by decide +kernel
theorem dX5_countOf_36 : decode cX5_countOf 36 = .ok (.iinc 3 1, 3) := by decide +kernel
theorem dX5_countOf_39 : decode cX5_countOf 39 = .ok (.goto (-35), 3) := by decide +kernel
theorem dX5_countOf_42 : decode cX5_countOf 42 = .ok (.iload_n 2, 1) := by decide +kernel
theorem dX5_countOf_43 : decode cX5_countOf 43 = .ok (.ireturn, 1) := by decide +kernel
def k31_1 : List (Nat × XI) := [(33, x_push (0) 34), (34, x_iadd 35), (35, x_istore 2 36), (36, x_iinc 3 (1) 39), (39, x_goto 4), (42, x_iload 2 43), (43, x_iret)]
theorem o31_1 (scr : Nat × (Nat → Int32)) : ∀ q ∈ k31_1, XSnd xm scr Y31 q.1 q.2 := xcons (s_iconst dX5_countOf_33 rfl) (xcons (s_iadd dX5_countOf_34) (xcons (s_istore_n rfl dX5_countOf_35 (by decide)) (xcons (s_iinc dX5_countOf_36 rfl (by decide)) (xcons (s_goto dX5_countOf_39 rfl) (xcons (s_iload_n rfl dX5_countOf_42) (xcons (s_iret dX5_countOf_43 rfl) (xnil)))))))
def k31 (pc : Nat) : XI := if pc < 33 then xlk k31_0 pc else xlk k31_1 pc
theorem o31 (scr : Nat × (Nat → Int32)) (pc : Nat) : XSnd xm scr Y31 pc (k31 pc) := by
  unfold k31
  exact xite (xlk_ok (o31_0 scr) pc) (xlk_ok (o31_1 scr) pc)
theorem dX5_dueAt_0 : decode cX5_dueAt 0 = .ok (.iload_n 1, 1) := by decide +kernel
theorem dX5_dueAt_1 : decode cX5_dueAt 1 = .ok (.ifCond .lt 21, 3) := by decide +kernel
theorem dX5_dueAt_4 : decode cX5_dueAt 4 = .ok (.iload_n 1, 1) := by decide +kernel
theorem dX5_dueAt_5 : decode cX5_dueAt 5 = .ok (.aload_n 0, 1) := by decide +kernel
theorem dX5_dueAt_6 : decode cX5_dueAt 6 = .ok (.getfield 15, 3) := by decide +kernel
theorem dX5_dueAt_9 : decode cX5_dueAt 9 = .ok (.arraylength, 1) := by decide +kernel
theorem dX5_dueAt_10 : decode cX5_dueAt 10 = .ok (.if_icmp .ge 12, 3) := by decide +kernel
theorem dX5_dueAt_13 : decode cX5_dueAt 13 = .ok (.aload_n 0, 1) := by decide +kernel
theorem dX5_dueAt_14 : decode cX5_dueAt 14 = .ok (.getfield 15, 3) := by decide +kernel
theorem dX5_dueAt_17 : decode cX5_dueAt 17 = .ok (.iload_n 1, 1) := by decide +kernel
theorem dX5_dueAt_18 : decode cX5_dueAt 18 = .ok (.iaload, 1) := by decide +kernel
theorem dX5_dueAt_19 : decode cX5_dueAt 19 = .ok (.goto 4, 3) := by decide +kernel
theorem dX5_dueAt_22 : decode cX5_dueAt 22 = .ok (.iconst 0, 1) := by decide +kernel
theorem dX5_dueAt_23 : decode cX5_dueAt 23 = .ok (.ireturn, 1) := by decide +kernel
def k32_0 : List (Nat × XI) := [(0, x_iload 1 1), (1, x_iflt 22 4), (4, x_iload 1 5), (5, x_aload 0 6), (6, x_getR 5 1 9), (9, x_len 10), (10, x_icge 22 13), (13, x_aload 0 14), (14, x_getR 5 1 17), (17, x_iload 1 18), (18, x_iald 19), (19, x_goto 23), (22, x_push (0) 23), (23, x_iret)]
theorem o32_0 (scr : Nat × (Nat → Int32)) : ∀ q ∈ k32_0, XSnd xm scr Y32 q.1 q.2 := xcons (s_iload_n rfl dX5_dueAt_0) (xcons (s_iflt dX5_dueAt_1 rfl) (xcons (s_iload_n rfl dX5_dueAt_4) (xcons (s_aload_n rfl dX5_dueAt_5) (xcons (s_getR (f := 1) xC5 (by decide) xw_119 rfl dX5_dueAt_6) (xcons (s_len dX5_dueAt_9) (xcons (s_icge dX5_dueAt_10 rfl) (xcons (s_aload_n rfl dX5_dueAt_13) (xcons (s_getR (f := 1) xC5 (by decide) xw_119 rfl dX5_dueAt_14) (xcons (s_iload_n rfl dX5_dueAt_17) (xcons (s_iald dX5_dueAt_18) (xcons (s_goto dX5_dueAt_19 rfl) (xcons (s_iconst dX5_dueAt_22 rfl) (xcons (s_iret dX5_dueAt_23 rfl) (xnil))))))))))))))
def k32 (pc : Nat) : XI := xlk k32_0 pc
theorem o32 (scr : Nat × (Nat → Int32)) (pc : Nat) : XSnd xm scr Y32 pc (k32 pc) := by
  unfold k32
  exact xlk_ok (o32_0 scr) pc
theorem dX5_init_0 : decode cX5_init 0 = .ok (.aload_n 0, 1) := by decide +kernel
theorem dX5_init_1 : decode cX5_init 1 = .ok (.invokespecial 3, 3) := by decide +kernel
theorem dX5_init_4 : decode cX5_init 4 = .ok (.aload_n 0, 1) := by decide +kernel
theorem dX5_init_5 : decode cX5_init 5 = .ok (.bipush 10, 2) := by decide +kernel
theorem dX5_init_7 : decode cX5_init 7 = .ok (.newarray .int, 2) := by decide +kernel
theorem dX5_init_9 : decode cX5_init 9 = .ok (.putfield 9, 3) := by decide +kernel
theorem dX5_init_12 : decode cX5_init 12 = .ok (.aload_n 0, 1) := by decide +kernel
theorem dX5_init_13 : decode cX5_init 13 = .ok (.bipush 10, 2) := by decide +kernel
theorem dX5_init_15 : decode cX5_init 15 = .ok (.newarray .int, 2) := by decide +kernel
theorem dX5_init_17 : decode cX5_init 17 = .ok (.putfield 15, 3) := by decide +kernel
theorem dX5_init_20 : decode cX5_init 20 = .ok (.aload_n 0, 1) := by decide +kernel
theorem dX5_init_21 : decode cX5_init 21 = .ok (.bipush 10, 2) := by decide +kernel
theorem dX5_init_23 : decode cX5_init 23 = .ok (.newarray .int, 2) := by decide +kernel
theorem dX5_init_25 : decode cX5_init 25 = .ok (.putfield 18, 3) := by decide +kernel
theorem dX5_init_28 : decode cX5_init 28 = .ok (.return_, 1) := by decide +kernel
def k33_0 : List (Nat × XI) := [(0, x_aload 0 1), (1, x_obj 4), (4, x_aload 0 5), (5, x_push (10) 7), (7, x_newI 9), (9, x_putR 5 0 12), (12, x_aload 0 13), (13, x_push (10) 15), (15, x_newI 17), (17, x_putR 5 1 20), (20, x_aload 0 21), (21, x_push (10) 23), (23, x_newI 25), (25, x_putR 5 2 28), (28, x_ret)]
theorem o33_0 (scr : Nat × (Nat → Int32)) : ∀ q ∈ k33_0, XSnd xm scr Y33 q.1 q.2 := xcons (s_aload_n rfl dX5_init_0) (xcons (s_obj xw_121 xw_30 xw_31 dX5_init_1) (xcons (s_aload_n rfl dX5_init_4) (xcons (s_bipush dX5_init_5 rfl) (xcons (s_newI xw_64 dX5_init_7) (xcons (s_putR (f := 0) xC5 (by decide) xw_117 rfl (Or.inr ⟨rfl, rfl, rfl⟩) dX5_init_9) (xcons (s_aload_n rfl dX5_init_12) (xcons (s_bipush dX5_init_13 rfl) (xcons (s_newI xw_64 dX5_init_15) (xcons (s_putR (f := 1) xC5 (by decide) xw_119 rfl (Or.inr ⟨rfl, rfl, rfl⟩) dX5_init_17) (xcons (s_aload_n rfl dX5_init_20) (xcons (s_bipush dX5_init_21 rfl) (xcons (s_newI xw_64 dX5_init_23) (xcons (s_putR (f := 2) xC5 (by decide) xw_120 rfl (Or.inr ⟨rfl, rfl, rfl⟩) dX5_init_25) (xcons (s_ret dX5_init_28 rfl) (xnil)))))))))))))))
def k33 (pc : Nat) : XI := xlk k33_0 pc
theorem o33 (scr : Nat × (Nat → Int32)) (pc : Nat) : XSnd xm scr Y33 pc (k33 pc) := by
  unfold k33
  exact xlk_ok (o33_0 scr) pc
theorem dX5_move_0 : decode cX5_move 0 = .ok (.iload_n 1, 1) := by decide +kernel
theorem dX5_move_1 : decode cX5_move 1 = .ok (.ifCond .lt 55, 3) := by decide +kernel
theorem dX5_move_4 : decode cX5_move 4 = .ok (.iload_n 1, 1) := by decide +kernel
theorem dX5_move_5 : decode cX5_move 5 = .ok (.bipush 10, 2) := by decide +kernel
theorem dX5_move_7 : decode cX5_move 7 = .ok (.if_icmp .ge 49, 3) := by decide +kernel
theorem dX5_move_10 : decode cX5_move 10 = .ok (.iload_n 2, 1) := by decide +kernel
theorem dX5_move_11 : decode cX5_move 11 = .ok (.ifCond .lt 45, 3) := by decide +kernel
theorem dX5_move_14 : decode cX5_move 14 = .ok (.iload_n 2, 1) := by decide +kernel
theorem dX5_move_15 : decode cX5_move 15 = .ok (.bipush 10, 2) := by decide +kernel
theorem dX5_move_17 : decode cX5_move 17 = .ok (.if_icmp .ge 39, 3) := by decide +kernel
theorem dX5_move_20 : decode cX5_move 20 = .ok (.aload_n 0, 1) := by decide +kernel
theorem dX5_move_21 : decode cX5_move 21 = .ok (.getfield 9, 3) := by decide +kernel
theorem dX5_move_24 : decode cX5_move 24 = .ok (.iload_n 2, 1) := by decide +kernel
theorem dX5_move_25 : decode cX5_move 25 = .ok (.aload_n 0, 1) := by decide +kernel
theorem dX5_move_26 : decode cX5_move 26 = .ok (.getfield 9, 3) := by decide +kernel
theorem dX5_move_29 : decode cX5_move 29 = .ok (.iload_n 1, 1) := by decide +kernel
theorem dX5_move_30 : decode cX5_move 30 = .ok (.iaload, 1) := by decide +kernel
theorem dX5_move_31 : decode cX5_move 31 = .ok (.iastore, 1) := by decide +kernel
theorem dX5_move_32 : decode cX5_move 32 = .ok (.aload_n 0, 1) := by decide +kernel
theorem dX5_move_33 : decode cX5_move 33 = .ok (.getfield 15, 3) := by decide +kernel
def k34_0 : List (Nat × XI) := [(0, x_iload 1 1), (1, x_iflt 56 4), (4, x_iload 1 5), (5, x_push (10) 7), (7, x_icge 56 10), (10, x_iload 2 11), (11, x_iflt 56 14), (14, x_iload 2 15), (15, x_push (10) 17), (17, x_icge 56 20), (20, x_aload 0 21), (21, x_getR 5 0 24), (24, x_iload 2 25), (25, x_aload 0 26), (26, x_getR 5 0 29), (29, x_iload 1 30), (30, x_iald 31), (31, x_iast 32), (32, x_aload 0 33), (33, x_getR 5 1 36)]
theorem o34_0 (scr : Nat × (Nat → Int32)) : ∀ q ∈ k34_0, XSnd xm scr Y34 q.1 q.2 := xcons (s_iload_n rfl dX5_move_0) (xcons (s_iflt dX5_move_1 rfl) (xcons (s_iload_n rfl dX5_move_4) (xcons (s_bipush dX5_move_5 rfl) (xcons (s_icge dX5_move_7 rfl) (xcons (s_iload_n rfl dX5_move_10) (xcons (s_iflt dX5_move_11 rfl) (xcons (s_iload_n rfl dX5_move_14) (xcons (s_bipush dX5_move_15 rfl) (xcons (s_icge dX5_move_17 rfl) (xcons (s_aload_n rfl dX5_move_20) (xcons (s_getR (f := 0) xC5 (by decide) xw_117 rfl dX5_move_21) (xcons (s_iload_n rfl dX5_move_24) (xcons (s_aload_n rfl dX5_move_25) (xcons (s_getR (f := 0) xC5 (by decide) xw_117 rfl dX5_move_26) (xcons (s_iload_n rfl dX5_move_29) (xcons (s_iald dX5_move_30) (xcons (s_iast dX5_move_31) (xcons (s_aload_n rfl dX5_move_32) (xcons (s_getR (f := 1) xC5 (by decide) xw_119 rfl dX5_move_33) (xnil))))))))))))))))))))
theorem dX5_move_36 : decode cX5_move 36 = .ok (.iload_n 2, 1) := by decide +kernel
theorem dX5_move_37 : decode cX5_move 37 = .ok (.aload_n 0, 1) := by decide +kernel
theorem dX5_move_38 : decode cX5_move 38 = .ok (.getfield 15, 3) := by decide +kernel
theorem dX5_move_41 : decode cX5_move 41 = .ok (.iload_n 1, 1) := by decide +kernel
theorem dX5_move_42 : decode cX5_move 42 = .ok (.iaload, 1) := by decide +kernel
theorem dX5_move_43 : decode cX5_move 43 = .ok (.iastore, 1) := by decide +kernel
theorem dX5_move_44 : decode cX5_move 44 = .ok (.aload_n 0, 1) := by decide +kernel
theorem dX5_move_45 : decode cX5_move 45 = .ok (.getfield 18, 3) := by decide +kernel
theorem dX5_move_48 : decode cX5_move 48 = .ok (.iload_n 2, 1) := by decide +kernel
theorem dX5_move_49 : decode cX5_move 49 = .ok (.aload_n 0, 1) := by decide +kernel
theorem dX5_move_50 : decode cX5_move 50 = .ok (.getfield 18, 3) := by decide +kernel
theorem dX5_move_53 : decode cX5_move 53 = .ok (.iload_n 1, 1) := by decide +kernel
theorem dX5_move_54 : decode cX5_move 54 = .ok (.iaload, 1) := by decide +kernel
theorem dX5_move_55 : decode cX5_move 55 = .ok (.iastore, 1) := by decide +kernel
theorem dX5_move_56 : decode cX5_move 56 = .ok (.return_, 1) := by decide +kernel
def k34_1 : List (Nat × XI) := [(36, x_iload 2 37), (37, x_aload 0 38), (38, x_getR 5 1 41), (41, x_iload 1 42), (42, x_iald 43), (43, x_iast 44), (44, x_aload 0 45), (45, x_getR 5 2 48), (48, x_iload 2 49), (49, x_aload 0 50), (50, x_getR 5 2 53), (53, x_iload 1 54), (54, x_iald 55), (55, x_iast 56), (56, x_ret)]
theorem o34_1 (scr : Nat × (Nat → Int32)) : ∀ q ∈ k34_1, XSnd xm scr Y34 q.1 q.2 := xcons (s_iload_n rfl dX5_move_36) (xcons (s_aload_n rfl dX5_move_37) (xcons (s_getR (f := 1) xC5 (by decide) xw_119 rfl dX5_move_38) (xcons (s_iload_n rfl dX5_move_41) (xcons (s_iald dX5_move_42) (xcons (s_iast dX5_move_43) (xcons (s_aload_n rfl dX5_move_44) (xcons (s_getR (f := 2) xC5 (by decide) xw_120 rfl dX5_move_45) (xcons (s_iload_n rfl dX5_move_48) (xcons (s_aload_n rfl dX5_move_49) (xcons (s_getR (f := 2) xC5 (by decide) xw_120 rfl dX5_move_50) (xcons (s_iload_n rfl dX5_move_53) (xcons (s_iald dX5_move_54) (xcons (s_iast dX5_move_55) (xcons (s_ret dX5_move_56 rfl) (xnil)))))))))))))))
def k34 (pc : Nat) : XI := if pc < 36 then xlk k34_0 pc else xlk k34_1 pc
theorem o34 (scr : Nat × (Nat → Int32)) (pc : Nat) : XSnd xm scr Y34 pc (k34 pc) := by
  unfold k34
  exact xite (xlk_ok (o34_0 scr) pc) (xlk_ok (o34_1 scr) pc)
theorem dX5_numberAt_0 : decode cX5_numberAt 0 = .ok (.iload_n 1, 1) := by decide +kernel
theorem dX5_numberAt_1 : decode cX5_numberAt 1 = .ok (.ifCond .lt 21, 3) := by decide +kernel
theorem dX5_numberAt_4 : decode cX5_numberAt 4 = .ok (.iload_n 1, 1) := by decide +kernel
theorem dX5_numberAt_5 : decode cX5_numberAt 5 = .ok (.aload_n 0, 1) := by decide +kernel
theorem dX5_numberAt_6 : decode cX5_numberAt 6 = .ok (.getfield 18, 3) := by decide +kernel
theorem dX5_numberAt_9 : decode cX5_numberAt 9 = .ok (.arraylength, 1) := by decide +kernel
theorem dX5_numberAt_10 : decode cX5_numberAt 10 = .ok (.if_icmp .ge 12, 3) := by decide +kernel
theorem dX5_numberAt_13 : decode cX5_numberAt 13 = .ok (.aload_n 0, 1) := by decide +kernel
theorem dX5_numberAt_14 : decode cX5_numberAt 14 = .ok (.getfield 18, 3) := by decide +kernel
theorem dX5_numberAt_17 : decode cX5_numberAt 17 = .ok (.iload_n 1, 1) := by decide +kernel
theorem dX5_numberAt_18 : decode cX5_numberAt 18 = .ok (.iaload, 1) := by decide +kernel
theorem dX5_numberAt_19 : decode cX5_numberAt 19 = .ok (.goto 4, 3) := by decide +kernel
theorem dX5_numberAt_22 : decode cX5_numberAt 22 = .ok (.iconst 0, 1) := by decide +kernel
theorem dX5_numberAt_23 : decode cX5_numberAt 23 = .ok (.ireturn, 1) := by decide +kernel
def k35_0 : List (Nat × XI) := [(0, x_iload 1 1), (1, x_iflt 22 4), (4, x_iload 1 5), (5, x_aload 0 6), (6, x_getR 5 2 9), (9, x_len 10), (10, x_icge 22 13), (13, x_aload 0 14), (14, x_getR 5 2 17), (17, x_iload 1 18), (18, x_iald 19), (19, x_goto 23), (22, x_push (0) 23), (23, x_iret)]
theorem o35_0 (scr : Nat × (Nat → Int32)) : ∀ q ∈ k35_0, XSnd xm scr Y35 q.1 q.2 := xcons (s_iload_n rfl dX5_numberAt_0) (xcons (s_iflt dX5_numberAt_1 rfl) (xcons (s_iload_n rfl dX5_numberAt_4) (xcons (s_aload_n rfl dX5_numberAt_5) (xcons (s_getR (f := 2) xC5 (by decide) xw_120 rfl dX5_numberAt_6) (xcons (s_len dX5_numberAt_9) (xcons (s_icge dX5_numberAt_10 rfl) (xcons (s_aload_n rfl dX5_numberAt_13) (xcons (s_getR (f := 2) xC5 (by decide) xw_120 rfl dX5_numberAt_14) (xcons (s_iload_n rfl dX5_numberAt_17) (xcons (s_iald dX5_numberAt_18) (xcons (s_goto dX5_numberAt_19 rfl) (xcons (s_iconst dX5_numberAt_22 rfl) (xcons (s_iret dX5_numberAt_23 rfl) (xnil))))))))))))))
def k35 (pc : Nat) : XI := xlk k35_0 pc
theorem o35 (scr : Nat × (Nat → Int32)) (pc : Nat) : XSnd xm scr Y35 pc (k35 pc) := by
  unfold k35
  exact xlk_ok (o35_0 scr) pc
theorem dX5_ownerAt_0 : decode cX5_ownerAt 0 = .ok (.iload_n 1, 1) := by decide +kernel
theorem dX5_ownerAt_1 : decode cX5_ownerAt 1 = .ok (.ifCond .lt 21, 3) := by decide +kernel
theorem dX5_ownerAt_4 : decode cX5_ownerAt 4 = .ok (.iload_n 1, 1) := by decide +kernel
theorem dX5_ownerAt_5 : decode cX5_ownerAt 5 = .ok (.aload_n 0, 1) := by decide +kernel
theorem dX5_ownerAt_6 : decode cX5_ownerAt 6 = .ok (.getfield 9, 3) := by decide +kernel
theorem dX5_ownerAt_9 : decode cX5_ownerAt 9 = .ok (.arraylength, 1) := by decide +kernel
theorem dX5_ownerAt_10 : decode cX5_ownerAt 10 = .ok (.if_icmp .ge 12, 3) := by decide +kernel
theorem dX5_ownerAt_13 : decode cX5_ownerAt 13 = .ok (.aload_n 0, 1) := by decide +kernel
theorem dX5_ownerAt_14 : decode cX5_ownerAt 14 = .ok (.getfield 9, 3) := by decide +kernel
theorem dX5_ownerAt_17 : decode cX5_ownerAt 17 = .ok (.iload_n 1, 1) := by decide +kernel
theorem dX5_ownerAt_18 : decode cX5_ownerAt 18 = .ok (.iaload, 1) := by decide +kernel
theorem dX5_ownerAt_19 : decode cX5_ownerAt 19 = .ok (.goto 4, 3) := by decide +kernel
theorem dX5_ownerAt_22 : decode cX5_ownerAt 22 = .ok (.iconst (-1), 1) := by decide +kernel
theorem dX5_ownerAt_23 : decode cX5_ownerAt 23 = .ok (.ireturn, 1) := by decide +kernel
def k36_0 : List (Nat × XI) := [(0, x_iload 1 1), (1, x_iflt 22 4), (4, x_iload 1 5), (5, x_aload 0 6), (6, x_getR 5 0 9), (9, x_len 10), (10, x_icge 22 13), (13, x_aload 0 14), (14, x_getR 5 0 17), (17, x_iload 1 18), (18, x_iald 19), (19, x_goto 23), (22, x_push (-1) 23), (23, x_iret)]
theorem o36_0 (scr : Nat × (Nat → Int32)) : ∀ q ∈ k36_0, XSnd xm scr Y36 q.1 q.2 := xcons (s_iload_n rfl dX5_ownerAt_0) (xcons (s_iflt dX5_ownerAt_1 rfl) (xcons (s_iload_n rfl dX5_ownerAt_4) (xcons (s_aload_n rfl dX5_ownerAt_5) (xcons (s_getR (f := 0) xC5 (by decide) xw_117 rfl dX5_ownerAt_6) (xcons (s_len dX5_ownerAt_9) (xcons (s_icge dX5_ownerAt_10 rfl) (xcons (s_aload_n rfl dX5_ownerAt_13) (xcons (s_getR (f := 0) xC5 (by decide) xw_117 rfl dX5_ownerAt_14) (xcons (s_iload_n rfl dX5_ownerAt_17) (xcons (s_iald dX5_ownerAt_18) (xcons (s_goto dX5_ownerAt_19 rfl) (xcons (s_iconst dX5_ownerAt_22 rfl) (xcons (s_iret dX5_ownerAt_23 rfl) (xnil))))))))))))))
def k36 (pc : Nat) : XI := xlk k36_0 pc
theorem o36 (scr : Nat × (Nat → Int32)) (pc : Nat) : XSnd xm scr Y36 pc (k36 pc) := by
  unfold k36
  exact xlk_ok (o36_0 scr) pc
end
