-- ===== PART A: goes FIRST, ahead of the names: the tables' words, and 'selects' of the private methods out of them =====
/-- a private method of a class that the tables say can be made, by its rows of tables_1 -/
def lw_okq (q : MethodName × Nat) : Prop := (q.1.cls ≠ "java/lang/invoke/MethodHandle" ∧ q.1.cls ≠ "java/lang/invoke/VarHandle") ∧ Cond.instantiable q.1.cls q.2 ∈ tables_1 ∧ Cond.privateMethod q.1 ∈ tables_1 ∧ Cond.instanceMethod q.1 ∈ tables_1
theorem lw_p0 : lw_okq (⟨"ActorTrees$World", "greatestLiveChild", "(I)I"⟩, 13) := ⟨⟨by decide +kernel, by decide +kernel⟩, List.mem_of_getElem? (i := 22) (by decide +kernel), List.mem_of_getElem? (i := 395) (by decide +kernel), List.mem_of_getElem? (i := 396) (by decide +kernel)⟩
theorem lw_p1 : lw_okq (⟨"ActorTrees$Timers", "move", "(II)V"⟩, 4) := ⟨⟨by decide +kernel, by decide +kernel⟩, List.mem_of_getElem? (i := 30) (by decide +kernel), List.mem_of_getElem? (i := 408) (by decide +kernel), List.mem_of_getElem? (i := 409) (by decide +kernel)⟩
theorem lw_p2 : lw_okq (⟨"ActorTrees$World", "howItStands", "()I"⟩, 13) := ⟨⟨by decide +kernel, by decide +kernel⟩, List.mem_of_getElem? (i := 22) (by decide +kernel), List.mem_of_getElem? (i := 429) (by decide +kernel), List.mem_of_getElem? (i := 430) (by decide +kernel)⟩
theorem lw_p3 : lw_okq (⟨"ActorTrees$World", "nextDealer", "()I"⟩, 13) := ⟨⟨by decide +kernel, by decide +kernel⟩, List.mem_of_getElem? (i := 22) (by decide +kernel), List.mem_of_getElem? (i := 437) (by decide +kernel), List.mem_of_getElem? (i := 438) (by decide +kernel)⟩
theorem lw_p4 : lw_okq (⟨"ActorTrees$World", "fireTimer", "()Z"⟩, 13) := ⟨⟨by decide +kernel, by decide +kernel⟩, List.mem_of_getElem? (i := 22) (by decide +kernel), List.mem_of_getElem? (i := 445) (by decide +kernel), List.mem_of_getElem? (i := 446) (by decide +kernel)⟩
theorem lw_p5 : lw_okq (⟨"ActorTrees$World", "dealLater", "(III)I"⟩, 13) := ⟨⟨by decide +kernel, by decide +kernel⟩, List.mem_of_getElem? (i := 22) (by decide +kernel), List.mem_of_getElem? (i := 475) (by decide +kernel), List.mem_of_getElem? (i := 476) (by decide +kernel)⟩
theorem lw_p6 : lw_okq (⟨"ActorTrees$World", "sendDown", "(III)V"⟩, 13) := ⟨⟨by decide +kernel, by decide +kernel⟩, List.mem_of_getElem? (i := 22) (by decide +kernel), List.mem_of_getElem? (i := 483) (by decide +kernel), List.mem_of_getElem? (i := 484) (by decide +kernel)⟩
theorem lw_p7 : lw_okq (⟨"ActorTrees$World", "watch", "(II)V"⟩, 13) := ⟨⟨by decide +kernel, by decide +kernel⟩, List.mem_of_getElem? (i := 22) (by decide +kernel), List.mem_of_getElem? (i := 487) (by decide +kernel), List.mem_of_getElem? (i := 488) (by decide +kernel)⟩
theorem lw_p8 : lw_okq (⟨"ActorTrees$World", "dealEarlier", "(IIII)I"⟩, 13) := ⟨⟨by decide +kernel, by decide +kernel⟩, List.mem_of_getElem? (i := 22) (by decide +kernel), List.mem_of_getElem? (i := 497) (by decide +kernel), List.mem_of_getElem? (i := 498) (by decide +kernel)⟩
theorem lw_p9 : lw_okq (⟨"ActorTrees$World", "unstash", "(LActorTrees$Actor;)V"⟩, 13) := ⟨⟨by decide +kernel, by decide +kernel⟩, List.mem_of_getElem? (i := 22) (by decide +kernel), List.mem_of_getElem? (i := 501) (by decide +kernel), List.mem_of_getElem? (i := 502) (by decide +kernel)⟩
theorem lw_p10 : lw_okq (⟨"ActorTrees$World", "isOverBudgetAbove", "(I)Z"⟩, 13) := ⟨⟨by decide +kernel, by decide +kernel⟩, List.mem_of_getElem? (i := 22) (by decide +kernel), List.mem_of_getElem? (i := 516) (by decide +kernel), List.mem_of_getElem? (i := 517) (by decide +kernel)⟩
theorem lw_p11 : lw_okq (⟨"ActorTrees$World", "isRestartedWith", "(II)Z"⟩, 13) := ⟨⟨by decide +kernel, by decide +kernel⟩, List.mem_of_getElem? (i := 22) (by decide +kernel), List.mem_of_getElem? (i := 524) (by decide +kernel), List.mem_of_getElem? (i := 525) (by decide +kernel)⟩
theorem lw_p12 : lw_okq (⟨"ActorTrees$World", "restart", "(I)V"⟩, 13) := ⟨⟨by decide +kernel, by decide +kernel⟩, List.mem_of_getElem? (i := 22) (by decide +kernel), List.mem_of_getElem? (i := 528) (by decide +kernel), List.mem_of_getElem? (i := 529) (by decide +kernel)⟩
theorem lw_p13 : lw_okq (⟨"ActorTrees$Tape", "readNumber", "(Z)Z"⟩, 4) := ⟨⟨by decide +kernel, by decide +kernel⟩, List.mem_of_getElem? (i := 207) (by decide +kernel), List.mem_of_getElem? (i := 628) (by decide +kernel), List.mem_of_getElem? (i := 629) (by decide +kernel)⟩
theorem lw_p14 : lw_okq (⟨"ActorTrees$Tape", "isNext", "(C)Z"⟩, 4) := ⟨⟨by decide +kernel, by decide +kernel⟩, List.mem_of_getElem? (i := 207) (by decide +kernel), List.mem_of_getElem? (i := 632) (by decide +kernel), List.mem_of_getElem? (i := 633) (by decide +kernel)⟩
theorem lw_p15 : lw_okq (⟨"ActorTrees$Tape", "isDigitNext", "()Z"⟩, 4) := ⟨⟨by decide +kernel, by decide +kernel⟩, List.mem_of_getElem? (i := 207) (by decide +kernel), List.mem_of_getElem? (i := 636) (by decide +kernel), List.mem_of_getElem? (i := 637) (by decide +kernel)⟩
def lw_privs_1 : List (MethodName × Nat) := [(⟨"ActorTrees$World", "greatestLiveChild", "(I)I"⟩, 13), (⟨"ActorTrees$Timers", "move", "(II)V"⟩, 4), (⟨"ActorTrees$World", "howItStands", "()I"⟩, 13), (⟨"ActorTrees$World", "nextDealer", "()I"⟩, 13), (⟨"ActorTrees$World", "fireTimer", "()Z"⟩, 13), (⟨"ActorTrees$World", "dealLater", "(III)I"⟩, 13), (⟨"ActorTrees$World", "sendDown", "(III)V"⟩, 13), (⟨"ActorTrees$World", "watch", "(II)V"⟩, 13), (⟨"ActorTrees$World", "dealEarlier", "(IIII)I"⟩, 13), (⟨"ActorTrees$World", "unstash", "(LActorTrees$Actor;)V"⟩, 13), (⟨"ActorTrees$World", "isOverBudgetAbove", "(I)Z"⟩, 13), (⟨"ActorTrees$World", "isRestartedWith", "(II)Z"⟩, 13), (⟨"ActorTrees$World", "restart", "(I)V"⟩, 13), (⟨"ActorTrees$Tape", "readNumber", "(Z)Z"⟩, 4), (⟨"ActorTrees$Tape", "isNext", "(C)Z"⟩, 4), (⟨"ActorTrees$Tape", "isDigitNext", "()Z"⟩, 4)]
theorem lw_r1 : ∀ q ∈ lw_privs_1, lw_okq q := List.forall_mem_cons.mpr ⟨lw_p0, List.forall_mem_cons.mpr ⟨lw_p1, List.forall_mem_cons.mpr ⟨lw_p2, List.forall_mem_cons.mpr ⟨lw_p3, List.forall_mem_cons.mpr ⟨lw_p4, List.forall_mem_cons.mpr ⟨lw_p5, List.forall_mem_cons.mpr ⟨lw_p6, List.forall_mem_cons.mpr ⟨lw_p7, List.forall_mem_cons.mpr ⟨lw_p8, List.forall_mem_cons.mpr ⟨lw_p9, List.forall_mem_cons.mpr ⟨lw_p10, List.forall_mem_cons.mpr ⟨lw_p11, List.forall_mem_cons.mpr ⟨lw_p12, List.forall_mem_cons.mpr ⟨lw_p13, List.forall_mem_cons.mpr ⟨lw_p14, List.forall_mem_cons.mpr ⟨lw_p15, fun _ h => absurd h List.not_mem_nil⟩⟩⟩⟩⟩⟩⟩⟩⟩⟩⟩⟩⟩⟩⟩⟩
theorem lw_p16 : lw_okq (⟨"ActorTrees", "doLineButSteps", "()I"⟩, 7) := ⟨⟨by decide +kernel, by decide +kernel⟩, List.mem_of_getElem? (i := 14) (by decide +kernel), List.mem_of_getElem? (i := 642) (by decide +kernel), List.mem_of_getElem? (i := 643) (by decide +kernel)⟩
theorem lw_p17 : lw_okq (⟨"ActorTrees", "firstOtherwise", "(LActorTrees$Numbers;I)I"⟩, 7) := ⟨⟨by decide +kernel, by decide +kernel⟩, List.mem_of_getElem? (i := 14) (by decide +kernel), List.mem_of_getElem? (i := 663) (by decide +kernel), List.mem_of_getElem? (i := 664) (by decide +kernel)⟩
theorem lw_p18 : lw_okq (⟨"ActorTreesModel", "canBe", "(III)I"⟩, 22) := ⟨⟨by decide +kernel, by decide +kernel⟩, List.mem_of_getElem? (i := 714) (by decide +kernel), List.mem_of_getElem? (i := 793) (by decide +kernel), List.mem_of_getElem? (i := 794) (by decide +kernel)⟩
theorem lw_p19 : lw_okq (⟨"ActorTreesModel", "isActor", "(I)Z"⟩, 22) := ⟨⟨by decide +kernel, by decide +kernel⟩, List.mem_of_getElem? (i := 714) (by decide +kernel), List.mem_of_getElem? (i := 797) (by decide +kernel), List.mem_of_getElem? (i := 798) (by decide +kernel)⟩
theorem lw_p20 : lw_okq (⟨"ActorTreesModel", "isLive", "(I)Z"⟩, 22) := ⟨⟨by decide +kernel, by decide +kernel⟩, List.mem_of_getElem? (i := 714) (by decide +kernel), List.mem_of_getElem? (i := 807) (by decide +kernel), List.mem_of_getElem? (i := 808) (by decide +kernel)⟩
theorem lw_p21 : lw_okq (⟨"ActorTreesModel", "at", "(II)I"⟩, 22) := ⟨⟨by decide +kernel, by decide +kernel⟩, List.mem_of_getElem? (i := 714) (by decide +kernel), List.mem_of_getElem? (i := 811) (by decide +kernel), List.mem_of_getElem? (i := 812) (by decide +kernel)⟩
theorem lw_p22 : lw_okq (⟨"ActorTreesModel", "sets", "(III)V"⟩, 22) := ⟨⟨by decide +kernel, by decide +kernel⟩, List.mem_of_getElem? (i := 714) (by decide +kernel), List.mem_of_getElem? (i := 815) (by decide +kernel), List.mem_of_getElem? (i := 816) (by decide +kernel)⟩
theorem lw_p23 : lw_okq (⟨"ActorTreesModel", "sends", "(III)Z"⟩, 22) := ⟨⟨by decide +kernel, by decide +kernel⟩, List.mem_of_getElem? (i := 714) (by decide +kernel), List.mem_of_getElem? (i := 826) (by decide +kernel), List.mem_of_getElem? (i := 827) (by decide +kernel)⟩
theorem lw_p24 : lw_okq (⟨"ActorTreesModel", "doing", "(I)I"⟩, 22) := ⟨⟨by decide +kernel, by decide +kernel⟩, List.mem_of_getElem? (i := 714) (by decide +kernel), List.mem_of_getElem? (i := 834) (by decide +kernel), List.mem_of_getElem? (i := 835) (by decide +kernel)⟩
theorem lw_p25 : lw_okq (⟨"ActorTreesModel", "timersOf", "(I)I"⟩, 22) := ⟨⟨by decide +kernel, by decide +kernel⟩, List.mem_of_getElem? (i := 714) (by decide +kernel), List.mem_of_getElem? (i := 838) (by decide +kernel), List.mem_of_getElem? (i := 839) (by decide +kernel)⟩
theorem lw_p26 : lw_okq (⟨"ActorTreesModel", "noted", "(IZ)I"⟩, 22) := ⟨⟨by decide +kernel, by decide +kernel⟩, List.mem_of_getElem? (i := 714) (by decide +kernel), List.mem_of_getElem? (i := 842) (by decide +kernel), List.mem_of_getElem? (i := 843) (by decide +kernel)⟩
theorem lw_p27 : lw_okq (⟨"ActorTreesModel", "childrenOf", "(I)I"⟩, 22) := ⟨⟨by decide +kernel, by decide +kernel⟩, List.mem_of_getElem? (i := 714) (by decide +kernel), List.mem_of_getElem? (i := 846) (by decide +kernel), List.mem_of_getElem? (i := 847) (by decide +kernel)⟩
theorem lw_p28 : lw_okq (⟨"ActorTreesModel", "messageAt", "(IIZ)I"⟩, 22) := ⟨⟨by decide +kernel, by decide +kernel⟩, List.mem_of_getElem? (i := 714) (by decide +kernel), List.mem_of_getElem? (i := 859) (by decide +kernel), List.mem_of_getElem? (i := 860) (by decide +kernel)⟩
theorem lw_p29 : lw_okq (⟨"ActorTreesModel", "liveOnes", "()I"⟩, 22) := ⟨⟨by decide +kernel, by decide +kernel⟩, List.mem_of_getElem? (i := 714) (by decide +kernel), List.mem_of_getElem? (i := 883) (by decide +kernel), List.mem_of_getElem? (i := 884) (by decide +kernel)⟩
theorem lw_p30 : lw_okq (⟨"ActorTreesModel", "stops", "(I)V"⟩, 22) := ⟨⟨by decide +kernel, by decide +kernel⟩, List.mem_of_getElem? (i := 714) (by decide +kernel), List.mem_of_getElem? (i := 890) (by decide +kernel), List.mem_of_getElem? (i := 891) (by decide +kernel)⟩
theorem lw_p31 : lw_okq (⟨"ActorTreesModel", "stopsChildren", "(I)V"⟩, 22) := ⟨⟨by decide +kernel, by decide +kernel⟩, List.mem_of_getElem? (i := 714) (by decide +kernel), List.mem_of_getElem? (i := 894) (by decide +kernel), List.mem_of_getElem? (i := 895) (by decide +kernel)⟩
def lw_privs_2 : List (MethodName × Nat) := [(⟨"ActorTrees", "doLineButSteps", "()I"⟩, 7), (⟨"ActorTrees", "firstOtherwise", "(LActorTrees$Numbers;I)I"⟩, 7), (⟨"ActorTreesModel", "canBe", "(III)I"⟩, 22), (⟨"ActorTreesModel", "isActor", "(I)Z"⟩, 22), (⟨"ActorTreesModel", "isLive", "(I)Z"⟩, 22), (⟨"ActorTreesModel", "at", "(II)I"⟩, 22), (⟨"ActorTreesModel", "sets", "(III)V"⟩, 22), (⟨"ActorTreesModel", "sends", "(III)Z"⟩, 22), (⟨"ActorTreesModel", "doing", "(I)I"⟩, 22), (⟨"ActorTreesModel", "timersOf", "(I)I"⟩, 22), (⟨"ActorTreesModel", "noted", "(IZ)I"⟩, 22), (⟨"ActorTreesModel", "childrenOf", "(I)I"⟩, 22), (⟨"ActorTreesModel", "messageAt", "(IIZ)I"⟩, 22), (⟨"ActorTreesModel", "liveOnes", "()I"⟩, 22), (⟨"ActorTreesModel", "stops", "(I)V"⟩, 22), (⟨"ActorTreesModel", "stopsChildren", "(I)V"⟩, 22)]
theorem lw_r2 : ∀ q ∈ lw_privs_2, lw_okq q := List.forall_mem_cons.mpr ⟨lw_p16, List.forall_mem_cons.mpr ⟨lw_p17, List.forall_mem_cons.mpr ⟨lw_p18, List.forall_mem_cons.mpr ⟨lw_p19, List.forall_mem_cons.mpr ⟨lw_p20, List.forall_mem_cons.mpr ⟨lw_p21, List.forall_mem_cons.mpr ⟨lw_p22, List.forall_mem_cons.mpr ⟨lw_p23, List.forall_mem_cons.mpr ⟨lw_p24, List.forall_mem_cons.mpr ⟨lw_p25, List.forall_mem_cons.mpr ⟨lw_p26, List.forall_mem_cons.mpr ⟨lw_p27, List.forall_mem_cons.mpr ⟨lw_p28, List.forall_mem_cons.mpr ⟨lw_p29, List.forall_mem_cons.mpr ⟨lw_p30, List.forall_mem_cons.mpr ⟨lw_p31, fun _ h => absurd h List.not_mem_nil⟩⟩⟩⟩⟩⟩⟩⟩⟩⟩⟩⟩⟩⟩⟩⟩
theorem lw_p32 : lw_okq (⟨"ActorTreesModel", "isLiveChild", "(II)Z"⟩, 22) := ⟨⟨by decide +kernel, by decide +kernel⟩, List.mem_of_getElem? (i := 714) (by decide +kernel), List.mem_of_getElem? (i := 898) (by decide +kernel), List.mem_of_getElem? (i := 899) (by decide +kernel)⟩
theorem lw_p33 : lw_okq (⟨"ActorTreesModel", "forgets", "(I)V"⟩, 22) := ⟨⟨by decide +kernel, by decide +kernel⟩, List.mem_of_getElem? (i := 714) (by decide +kernel), List.mem_of_getElem? (i := 902) (by decide +kernel), List.mem_of_getElem? (i := 903) (by decide +kernel)⟩
theorem lw_p34 : lw_okq (⟨"ActorTreesModel", "unwatches", "(I)V"⟩, 22) := ⟨⟨by decide +kernel, by decide +kernel⟩, List.mem_of_getElem? (i := 714) (by decide +kernel), List.mem_of_getElem? (i := 906) (by decide +kernel), List.mem_of_getElem? (i := 907) (by decide +kernel)⟩
theorem lw_p35 : lw_okq (⟨"ActorTreesModel", "runs", "(I)I"⟩, 22) := ⟨⟨by decide +kernel, by decide +kernel⟩, List.mem_of_getElem? (i := 714) (by decide +kernel), List.mem_of_getElem? (i := 914) (by decide +kernel), List.mem_of_getElem? (i := 915) (by decide +kernel)⟩
theorem lw_p36 : lw_okq (⟨"ActorTreesModel", "isEnd", "(II)Z"⟩, 22) := ⟨⟨by decide +kernel, by decide +kernel⟩, List.mem_of_getElem? (i := 714) (by decide +kernel), List.mem_of_getElem? (i := 918) (by decide +kernel), List.mem_of_getElem? (i := 919) (by decide +kernel)⟩
theorem lw_p37 : lw_okq (⟨"ActorTreesModel", "hasStep", "()Z"⟩, 22) := ⟨⟨by decide +kernel, by decide +kernel⟩, List.mem_of_getElem? (i := 714) (by decide +kernel), List.mem_of_getElem? (i := 922) (by decide +kernel), List.mem_of_getElem? (i := 923) (by decide +kernel)⟩
theorem lw_p38 : lw_okq (⟨"ActorTreesModel", "nextActor", "()I"⟩, 22) := ⟨⟨by decide +kernel, by decide +kernel⟩, List.mem_of_getElem? (i := 714) (by decide +kernel), List.mem_of_getElem? (i := 926) (by decide +kernel), List.mem_of_getElem? (i := 927) (by decide +kernel)⟩
theorem lw_p39 : lw_okq (⟨"ActorTreesModel", "step", "()V"⟩, 22) := ⟨⟨by decide +kernel, by decide +kernel⟩, List.mem_of_getElem? (i := 714) (by decide +kernel), List.mem_of_getElem? (i := 930) (by decide +kernel), List.mem_of_getElem? (i := 931) (by decide +kernel)⟩
theorem lw_p40 : lw_okq (⟨"ActorTreesModel", "logs", "(II)V"⟩, 22) := ⟨⟨by decide +kernel, by decide +kernel⟩, List.mem_of_getElem? (i := 714) (by decide +kernel), List.mem_of_getElem? (i := 934) (by decide +kernel), List.mem_of_getElem? (i := 935) (by decide +kernel)⟩
theorem lw_p41 : lw_okq (⟨"ActorTreesModel", "deals", "(III)V"⟩, 22) := ⟨⟨by decide +kernel, by decide +kernel⟩, List.mem_of_getElem? (i := 714) (by decide +kernel), List.mem_of_getElem? (i := 941) (by decide +kernel), List.mem_of_getElem? (i := 942) (by decide +kernel)⟩
theorem lw_p42 : lw_okq (⟨"ActorTreesModel", "fails", "(II)V"⟩, 22) := ⟨⟨by decide +kernel, by decide +kernel⟩, List.mem_of_getElem? (i := 714) (by decide +kernel), List.mem_of_getElem? (i := 945) (by decide +kernel), List.mem_of_getElem? (i := 946) (by decide +kernel)⟩
theorem lw_p43 : lw_okq (⟨"ActorTreesModel", "isOverBudget", "(I)Z"⟩, 22) := ⟨⟨by decide +kernel, by decide +kernel⟩, List.mem_of_getElem? (i := 714) (by decide +kernel), List.mem_of_getElem? (i := 949) (by decide +kernel), List.mem_of_getElem? (i := 950) (by decide +kernel)⟩
theorem lw_p44 : lw_okq (⟨"ActorTreesModel", "restarts", "(I)V"⟩, 22) := ⟨⟨by decide +kernel, by decide +kernel⟩, List.mem_of_getElem? (i := 714) (by decide +kernel), List.mem_of_getElem? (i := 953) (by decide +kernel), List.mem_of_getElem? (i := 954) (by decide +kernel)⟩
theorem lw_p45 : lw_okq (⟨"ActorTreesModel", "comesBack", "(I)V"⟩, 22) := ⟨⟨by decide +kernel, by decide +kernel⟩, List.mem_of_getElem? (i := 714) (by decide +kernel), List.mem_of_getElem? (i := 957) (by decide +kernel), List.mem_of_getElem? (i := 958) (by decide +kernel)⟩
theorem lw_p46 : lw_okq (⟨"ActorTreesModel", "pass", "(IIZ)V"⟩, 22) := ⟨⟨by decide +kernel, by decide +kernel⟩, List.mem_of_getElem? (i := 714) (by decide +kernel), List.mem_of_getElem? (i := 961) (by decide +kernel), List.mem_of_getElem? (i := 962) (by decide +kernel)⟩
theorem lw_p47 : lw_okq (⟨"ActorTreesModel", "holds", "(III)V"⟩, 22) := ⟨⟨by decide +kernel, by decide +kernel⟩, List.mem_of_getElem? (i := 714) (by decide +kernel), List.mem_of_getElem? (i := 965) (by decide +kernel), List.mem_of_getElem? (i := 966) (by decide +kernel)⟩
def lw_privs_3 : List (MethodName × Nat) := [(⟨"ActorTreesModel", "isLiveChild", "(II)Z"⟩, 22), (⟨"ActorTreesModel", "forgets", "(I)V"⟩, 22), (⟨"ActorTreesModel", "unwatches", "(I)V"⟩, 22), (⟨"ActorTreesModel", "runs", "(I)I"⟩, 22), (⟨"ActorTreesModel", "isEnd", "(II)Z"⟩, 22), (⟨"ActorTreesModel", "hasStep", "()Z"⟩, 22), (⟨"ActorTreesModel", "nextActor", "()I"⟩, 22), (⟨"ActorTreesModel", "step", "()V"⟩, 22), (⟨"ActorTreesModel", "logs", "(II)V"⟩, 22), (⟨"ActorTreesModel", "deals", "(III)V"⟩, 22), (⟨"ActorTreesModel", "fails", "(II)V"⟩, 22), (⟨"ActorTreesModel", "isOverBudget", "(I)Z"⟩, 22), (⟨"ActorTreesModel", "restarts", "(I)V"⟩, 22), (⟨"ActorTreesModel", "comesBack", "(I)V"⟩, 22), (⟨"ActorTreesModel", "pass", "(IIZ)V"⟩, 22), (⟨"ActorTreesModel", "holds", "(III)V"⟩, 22)]
theorem lw_r3 : ∀ q ∈ lw_privs_3, lw_okq q := List.forall_mem_cons.mpr ⟨lw_p32, List.forall_mem_cons.mpr ⟨lw_p33, List.forall_mem_cons.mpr ⟨lw_p34, List.forall_mem_cons.mpr ⟨lw_p35, List.forall_mem_cons.mpr ⟨lw_p36, List.forall_mem_cons.mpr ⟨lw_p37, List.forall_mem_cons.mpr ⟨lw_p38, List.forall_mem_cons.mpr ⟨lw_p39, List.forall_mem_cons.mpr ⟨lw_p40, List.forall_mem_cons.mpr ⟨lw_p41, List.forall_mem_cons.mpr ⟨lw_p42, List.forall_mem_cons.mpr ⟨lw_p43, List.forall_mem_cons.mpr ⟨lw_p44, List.forall_mem_cons.mpr ⟨lw_p45, List.forall_mem_cons.mpr ⟨lw_p46, List.forall_mem_cons.mpr ⟨lw_p47, fun _ h => absurd h List.not_mem_nil⟩⟩⟩⟩⟩⟩⟩⟩⟩⟩⟩⟩⟩⟩⟩⟩
theorem lw_p48 : lw_okq (⟨"ActorTreesModel", "switches", "(II)V"⟩, 22) := ⟨⟨by decide +kernel, by decide +kernel⟩, List.mem_of_getElem? (i := 714) (by decide +kernel), List.mem_of_getElem? (i := 969) (by decide +kernel), List.mem_of_getElem? (i := 970) (by decide +kernel)⟩
theorem lw_p49 : lw_okq (⟨"ActorTreesModel", "delays", "(II)V"⟩, 22) := ⟨⟨by decide +kernel, by decide +kernel⟩, List.mem_of_getElem? (i := 714) (by decide +kernel), List.mem_of_getElem? (i := 973) (by decide +kernel), List.mem_of_getElem? (i := 974) (by decide +kernel)⟩
theorem lw_p50 : lw_okq (⟨"ActorTreesModel", "watches", "(II)V"⟩, 22) := ⟨⟨by decide +kernel, by decide +kernel⟩, List.mem_of_getElem? (i := 714) (by decide +kernel), List.mem_of_getElem? (i := 977) (by decide +kernel), List.mem_of_getElem? (i := 978) (by decide +kernel)⟩
theorem lw_p51 : lw_okq (⟨"ActorTreesModel", "firstTimer", "()I"⟩, 22) := ⟨⟨by decide +kernel, by decide +kernel⟩, List.mem_of_getElem? (i := 714) (by decide +kernel), List.mem_of_getElem? (i := 981) (by decide +kernel), List.mem_of_getElem? (i := 982) (by decide +kernel)⟩
theorem lw_p52 : lw_okq (⟨"ActorTreesModel", "isNext", "(II)Z"⟩, 22) := ⟨⟨by decide +kernel, by decide +kernel⟩, List.mem_of_getElem? (i := 714) (by decide +kernel), List.mem_of_getElem? (i := 1024) (by decide +kernel), List.mem_of_getElem? (i := 1025) (by decide +kernel)⟩
theorem lw_p53 : lw_okq (⟨"ActorTreesModel", "isForm", "()Z"⟩, 22) := ⟨⟨by decide +kernel, by decide +kernel⟩, List.mem_of_getElem? (i := 714) (by decide +kernel), List.mem_of_getElem? (i := 1036) (by decide +kernel), List.mem_of_getElem? (i := 1037) (by decide +kernel)⟩
theorem lw_p54 : lw_okq (⟨"ActorTreesModel", "line", "()I"⟩, 22) := ⟨⟨by decide +kernel, by decide +kernel⟩, List.mem_of_getElem? (i := 714) (by decide +kernel), List.mem_of_getElem? (i := 1040) (by decide +kernel), List.mem_of_getElem? (i := 1041) (by decide +kernel)⟩
theorem lw_p55 : lw_okq (⟨"ActorTreesModel", "sees", "(II)Z"⟩, 22) := ⟨⟨by decide +kernel, by decide +kernel⟩, List.mem_of_getElem? (i := 714) (by decide +kernel), List.mem_of_getElem? (i := 1044) (by decide +kernel), List.mem_of_getElem? (i := 1045) (by decide +kernel)⟩
theorem lw_p56 : lw_okq (⟨"ActorTreesModel", "must", "(II)I"⟩, 22) := ⟨⟨by decide +kernel, by decide +kernel⟩, List.mem_of_getElem? (i := 714) (by decide +kernel), List.mem_of_getElem? (i := 1048) (by decide +kernel), List.mem_of_getElem? (i := 1049) (by decide +kernel)⟩
theorem lw_p57 : lw_okq (⟨"ActorTreesModel", "number", "(Z)I"⟩, 22) := ⟨⟨by decide +kernel, by decide +kernel⟩, List.mem_of_getElem? (i := 714) (by decide +kernel), List.mem_of_getElem? (i := 1052) (by decide +kernel), List.mem_of_getElem? (i := 1053) (by decide +kernel)⟩
theorem lw_p58 : lw_okq (⟨"ActorTreesModel", "does", "(I)Z"⟩, 22) := ⟨⟨by decide +kernel, by decide +kernel⟩, List.mem_of_getElem? (i := 714) (by decide +kernel), List.mem_of_getElem? (i := 1056) (by decide +kernel), List.mem_of_getElem? (i := 1057) (by decide +kernel)⟩
theorem lw_p59 : lw_okq (⟨"ActorTreesModel", "isHandle", "(I)Z"⟩, 22) := ⟨⟨by decide +kernel, by decide +kernel⟩, List.mem_of_getElem? (i := 714) (by decide +kernel), List.mem_of_getElem? (i := 1075) (by decide +kernel), List.mem_of_getElem? (i := 1076) (by decide +kernel)⟩
theorem lw_p60 : lw_okq (⟨"ActorTreesModel", "ordered", "(II)I"⟩, 22) := ⟨⟨by decide +kernel, by decide +kernel⟩, List.mem_of_getElem? (i := 714) (by decide +kernel), List.mem_of_getElem? (i := 1079) (by decide +kernel), List.mem_of_getElem? (i := 1080) (by decide +kernel)⟩
def lw_privs_4 : List (MethodName × Nat) := [(⟨"ActorTreesModel", "switches", "(II)V"⟩, 22), (⟨"ActorTreesModel", "delays", "(II)V"⟩, 22), (⟨"ActorTreesModel", "watches", "(II)V"⟩, 22), (⟨"ActorTreesModel", "firstTimer", "()I"⟩, 22), (⟨"ActorTreesModel", "isNext", "(II)Z"⟩, 22), (⟨"ActorTreesModel", "isForm", "()Z"⟩, 22), (⟨"ActorTreesModel", "line", "()I"⟩, 22), (⟨"ActorTreesModel", "sees", "(II)Z"⟩, 22), (⟨"ActorTreesModel", "must", "(II)I"⟩, 22), (⟨"ActorTreesModel", "number", "(Z)I"⟩, 22), (⟨"ActorTreesModel", "does", "(I)Z"⟩, 22), (⟨"ActorTreesModel", "isHandle", "(I)Z"⟩, 22), (⟨"ActorTreesModel", "ordered", "(II)I"⟩, 22)]
theorem lw_r4 : ∀ q ∈ lw_privs_4, lw_okq q := List.forall_mem_cons.mpr ⟨lw_p48, List.forall_mem_cons.mpr ⟨lw_p49, List.forall_mem_cons.mpr ⟨lw_p50, List.forall_mem_cons.mpr ⟨lw_p51, List.forall_mem_cons.mpr ⟨lw_p52, List.forall_mem_cons.mpr ⟨lw_p53, List.forall_mem_cons.mpr ⟨lw_p54, List.forall_mem_cons.mpr ⟨lw_p55, List.forall_mem_cons.mpr ⟨lw_p56, List.forall_mem_cons.mpr ⟨lw_p57, List.forall_mem_cons.mpr ⟨lw_p58, List.forall_mem_cons.mpr ⟨lw_p59, List.forall_mem_cons.mpr ⟨lw_p60, fun _ h => absurd h List.not_mem_nil⟩⟩⟩⟩⟩⟩⟩⟩⟩⟩⟩⟩⟩
def lw_privs : List (MethodName × Nat) := lw_privs_1 ++ (lw_privs_2 ++ (lw_privs_3 ++ (lw_privs_4)))
def lw_tbl : List Cond := k2_sels lw_privs ++ tables_1
theorem lw_privs_ok : ∀ q ∈ lw_privs, lw_okq q := by
  show ∀ q ∈ lw_privs_1 ++ (lw_privs_2 ++ (lw_privs_3 ++ (lw_privs_4))), lw_okq q
  exact List.forall_mem_append.mpr ⟨lw_r1, List.forall_mem_append.mpr ⟨lw_r2, List.forall_mem_append.mpr ⟨lw_r3, lw_r4⟩⟩⟩
-- ===== end of PART A; then your names; then what follows =====
/-! ===== BEGIN words of one list among another's, by their places ===== -/
theorem goodIn_r {big : List Cond} (ws : List Cond) (ps : List Nat) (hp : ws = ps.filterMap (fun i => big[i]?)) (h : ws.all goodWord = true) : GoodIn big ws := by
  intro w hw
  have h1 := List.all_eq_true.mp h w hw
  rw [hp] at hw
  obtain ⟨i, -, hi⟩ := List.mem_filterMap.mp hw
  have hm : w ∈ big := by first | exact List.mem_of_getElem? hi | exact List.getElem?_mem hi
  exact ⟨hm, good_of_word h1⟩
theorem goodIn_app {big a b : List Cond} (ha : GoodIn big a) (hb : GoodIn big b) : GoodIn big (a ++ b) := fun w h => (List.mem_append.mp h).elim (ha w) (hb w)
theorem goodIn_ca {big a b : List Cond} {c : Cond} (ha : GoodIn big (c :: a)) (hb : GoodIn big b) : GoodIn big (c :: (a ++ b)) := fun w h => (List.mem_cons.mp h).elim (fun e => ha w (List.mem_cons.mpr (Or.inl e))) (fun h => (List.mem_append.mp h).elim (fun h => ha w (List.mem_cons.mpr (Or.inr h))) (hb w))
theorem goodIn_sub {big ws : List Cond} (hm : ∀ w ∈ ws, w ∈ big) (h : ws.all goodWord = true) : GoodIn big ws := fun w hw => ⟨hm w hw, good_of_word (List.all_eq_true.mp h w hw)⟩
/-! ===== END ===== -/

/-! ===== BEGIN new T[n][m]: the outer array a place, the inner ones among the pooled ===== -/
/-- f, but v at every address of l -/
def vr_up {α : Type} (f : Nat → α) (l : List Nat) (v : α) : Nat → α := fun a => if a ∈ l then v else f a
theorem vr_up_in {α : Type} {f : Nat → α} {l : List Nat} {v : α} {a : Nat} (h : a ∈ l) : vr_up f l v a = v := if_pos h
theorem vr_up_ne {α : Type} {f : Nat → α} {l : List Nat} {v : α} {a : Nat} (h : a ∉ l) : vr_up f l v a = f a := if_neg h
theorem vr_rows {L l : List Nat} {f : Nat → va_E} {e : va_E} (h : ∀ a, a ∈ l → a ∉ L) : va_pl L f ++ l.map (fun a => (a, e)) = va_pl (L ++ l) (vr_up f l e) := by
  unfold va_pl
  rw [List.map_append]
  congr 1
  · apply List.map_congr_left
    intro a ha
    rw [vr_up_ne (fun q => h a q ha)]
  · apply List.map_congr_left
    intro a ha
    rw [vr_up_in ha]
theorem vr_lay {X rows : va_W} {x : Nat × va_E} {pl : va_W} {D : va_G} {cl : List vw_C} {H : Heap} (hP : va_P D cl (((X ++ pl) ++ [x]) ++ rows) H) : va_P D cl ((X ++ [x]) ++ (pl ++ rows)) H := by
  rw [List.append_assoc (X ++ pl)] at hP
  have h := va_P.swap hP
  rw [← List.append_assoc X] at h
  have h2 := va_P.swap h
  rw [List.append_assoc (X ++ [x])] at h2
  exact h2
theorem vr_layD {X rows : va_W} {x : Nat × va_E} {pl : va_W} {A : Nat → Prop} (hD : va_D A (((X ++ pl) ++ [x]) ++ rows)) : va_D A ((X ++ [x]) ++ (pl ++ rows)) := by
  rw [List.append_assoc (X ++ pl)] at hD
  have h := va_D.swap hD
  rw [← List.append_assoc X] at h
  have h2 := va_D.swap h
  rw [List.append_assoc (X ++ [x])] at h2
  exact h2
theorem vr_outer (c : ClassId) (N h0 : Nat) : ∀ i : Nat, Jvm.Free.Multi.outerC c N h0 i = arrV c N (fun j => va_rf (if j < i then some (h0 + 1 + j) else none))
  | 0 => by
    show ({ cls := c, slots := Array.replicate N .null, vm := .none } : Cell) = _
    rw [arrV_new]
    refine congrArg (arrV c N) (funext fun j => ?_)
    simp [va_rf]
  | i + 1 => by
    show (Jvm.Free.Multi.outerC c N h0 i).setSlot i (.ref (h0 + 1 + i)) = _
    rw [vr_outer c N h0 i, arrV_store]
    refine congrArg (arrV c N) (funext fun j => ?_)
    by_cases e : j = i
    · subst e
      simp [updV, va_rf]
    · by_cases h : j < i
      · simp [updV, e, h, Nat.lt_succ_of_lt h]
      · simp [updV, e, h, show ¬ j < i + 1 by omega]

/-! ===== END ===== -/

/-! ===== BEGIN printed: names, fields, word lists, decode rows ===== -/
def RX0 : String := "ActorTrees$Actor"
def TX0 : u_T := fun k => match k with
  | 0 => ("ActorTrees$Actor", "parent", "I", false)
  | 1 => ("ActorTrees$Actor", "own", "I", false)
  | 2 => ("ActorTrees$Actor", "strategy", "I", false)
  | 3 => ("ActorTrees$Actor", "budget", "I", false)
  | 4 => ("ActorTrees$Actor", "window", "I", false)
  | 5 => ("ActorTrees$Actor", "count", "I", false)
  | 6 => ("ActorTrees$Actor", "live", "Z", false)
  | 7 => ("ActorTrees$Actor", "stack", "LActorTrees$Numbers;", true)
  | 8 => ("ActorTrees$Actor", "mailbox", "LActorTrees$Pairs;", true)
  | 9 => ("ActorTrees$Actor", "stash", "LActorTrees$Pairs;", true)
  | 10 => ("ActorTrees$Actor", "watchers", "LActorTrees$Numbers;", true)
  | _ => ("ActorTrees$Actor", "notes", "LActorTrees$Numbers;", true)
def tyX0 : Nat → FieldType := fun k => match k with
  | 0 => .int
  | 1 => .int
  | 2 => .int
  | 3 => .int
  | 4 => .int
  | 5 => .int
  | 6 => .boolean
  | 7 => .object "ActorTrees$Numbers"
  | 8 => .object "ActorTrees$Pairs"
  | 9 => .object "ActorTrees$Pairs"
  | 10 => .object "ActorTrees$Numbers"
  | _ => .object "ActorTrees$Numbers"
abbrev wsX00 : List Cond := u_ws RX0 TX0 12
theorem nmX0 : ∀ a, a < 12 → ∀ b, b < 12 → a ≠ b → (TX0 a).2.1 ≠ (TX0 b).2.1 := by decide +kernel
theorem tyX0_ok : ∀ k, k < 12 → parseFieldDescriptor (TX0 k).2.2.1 = some (tyX0 k) := by decide +kernel
abbrev cX0_init : ByteArray := prog_2_method_1_code
def yX0_init : MethodName := ⟨RX0, "<init>", "()V"⟩
abbrev cX0_begin : ByteArray := prog_2_method_2_code
def yX0_begin : MethodName := ⟨RX0, "begin", "(II)V"⟩
abbrev cX0_keepOwnOnly : ByteArray := prog_2_method_3_code
def yX0_keepOwnOnly : MethodName := ⟨RX0, "keepOwnOnly", "()V"⟩
abbrev cX0_copyFrom : ByteArray := prog_2_method_4_code
def yX0_copyFrom : MethodName := ⟨RX0, "copyFrom", "(LActorTrees$Actor;)V"⟩
def RX1 : String := "ActorTrees$Handle"
def TX1 : u_T := fun k => match k with
  | 0 => ("ActorTrees$Handle", "items", "LActorTrees$Numbers;", true)
  | 1 => ("ActorTrees$Handle", "sort", "I", false)
  | _ => ("ActorTrees$Handle", "actor", "I", false)
def tyX1 : Nat → FieldType := fun k => match k with
  | 0 => .object "ActorTrees$Numbers"
  | 1 => .int
  | _ => .int
abbrev wsX10 : List Cond := u_ws RX1 TX1 3
theorem nmX1 : ∀ a, a < 3 → ∀ b, b < 3 → a ≠ b → (TX1 a).2.1 ≠ (TX1 b).2.1 := by decide +kernel
theorem tyX1_ok : ∀ k, k < 3 → parseFieldDescriptor (TX1 k).2.2.1 = some (tyX1 k) := by decide +kernel
abbrev cX1_init : ByteArray := prog_3_method_1_code
def yX1_init : MethodName := ⟨RX1, "<init>", "()V"⟩
def RX2 : String := "ActorTrees$Numbers"
def TX2 : u_T := fun k => match k with
  | 0 => ("ActorTrees$Numbers", "items", "[I", true)
  | _ => ("ActorTrees$Numbers", "size", "I", false)
def tyX2 : Nat → FieldType := fun k => match k with
  | 0 => .array .int
  | _ => .int
abbrev wsX20 : List Cond := u_ws RX2 TX2 2
theorem nmX2 : ∀ a, a < 2 → ∀ b, b < 2 → a ≠ b → (TX2 a).2.1 ≠ (TX2 b).2.1 := by decide +kernel
theorem tyX2_ok : ∀ k, k < 2 → parseFieldDescriptor (TX2 k).2.2.1 = some (tyX2 k) := by decide +kernel
abbrev cX2_init : ByteArray := prog_4_method_1_code
def yX2_init : MethodName := ⟨RX2, "<init>", "(I)V"⟩
abbrev cX2_at : ByteArray := prog_4_method_2_code
def yX2_at : MethodName := ⟨RX2, "at", "(I)I"⟩
abbrev cX2_change : ByteArray := prog_4_method_3_code
def yX2_change : MethodName := ⟨RX2, "change", "(II)V"⟩
abbrev cX2_add : ByteArray := prog_4_method_4_code
def yX2_add : MethodName := ⟨RX2, "add", "(I)Z"⟩
abbrev cX2_has : ByteArray := prog_4_method_5_code
def yX2_has : MethodName := ⟨RX2, "has", "(I)Z"⟩
abbrev cX2_remove : ByteArray := prog_4_method_6_code
def yX2_remove : MethodName := ⟨RX2, "remove", "(I)V"⟩
abbrev cX2_removeBelow : ByteArray := prog_4_method_7_code
def yX2_removeBelow : MethodName := ⟨RX2, "removeBelow", "(I)V"⟩
abbrev cX2_countFrom : ByteArray := prog_4_method_8_code
def yX2_countFrom : MethodName := ⟨RX2, "countFrom", "(I)I"⟩
abbrev cX2_fillWithZeros : ByteArray := prog_4_method_9_code
def yX2_fillWithZeros : MethodName := ⟨RX2, "fillWithZeros", "(I)V"⟩
abbrev cX2_copyFrom : ByteArray := prog_4_method_10_code
def yX2_copyFrom : MethodName := ⟨RX2, "copyFrom", "(LActorTrees$Numbers;)V"⟩
def RX3 : String := "ActorTrees$Pairs"
def TX3 : u_T := fun k => match k with
  | 0 => ("ActorTrees$Pairs", "firsts", "[I", true)
  | 1 => ("ActorTrees$Pairs", "seconds", "[I", true)
  | _ => ("ActorTrees$Pairs", "size", "I", false)
def tyX3 : Nat → FieldType := fun k => match k with
  | 0 => .array .int
  | 1 => .array .int
  | _ => .int
abbrev wsX30 : List Cond := u_ws RX3 TX3 3
theorem nmX3 : ∀ a, a < 3 → ∀ b, b < 3 → a ≠ b → (TX3 a).2.1 ≠ (TX3 b).2.1 := by decide +kernel
theorem tyX3_ok : ∀ k, k < 3 → parseFieldDescriptor (TX3 k).2.2.1 = some (tyX3 k) := by decide +kernel
abbrev cX3_init : ByteArray := prog_5_method_1_code
def yX3_init : MethodName := ⟨RX3, "<init>", "(I)V"⟩
abbrev cX3_firstAt : ByteArray := prog_5_method_2_code
def yX3_firstAt : MethodName := ⟨RX3, "firstAt", "(I)I"⟩
abbrev cX3_secondAt : ByteArray := prog_5_method_3_code
def yX3_secondAt : MethodName := ⟨RX3, "secondAt", "(I)I"⟩
abbrev cX3_add : ByteArray := prog_5_method_4_code
def yX3_add : MethodName := ⟨RX3, "add", "(II)Z"⟩
abbrev cX3_addDroppingOldest : ByteArray := prog_5_method_5_code
def yX3_addDroppingOldest : MethodName := ⟨RX3, "addDroppingOldest", "(II)V"⟩
abbrev cX3_removeFirst : ByteArray := prog_5_method_6_code
def yX3_removeFirst : MethodName := ⟨RX3, "removeFirst", "()V"⟩
abbrev cX3_putAhead : ByteArray := prog_5_method_7_code
def yX3_putAhead : MethodName := ⟨RX3, "putAhead", "(LActorTrees$Pairs;)I"⟩
abbrev cX3_copyFrom : ByteArray := prog_5_method_8_code
def yX3_copyFrom : MethodName := ⟨RX3, "copyFrom", "(LActorTrees$Pairs;)V"⟩
def RX4 : String := "ActorTrees$Tape"
def TX4 : u_T := fun k => match k with
  | 0 => ("ActorTrees$Tape", "bytes", "LActorTrees$Numbers;", true)
  | 1 => ("ActorTrees$Tape", "numbers", "LActorTrees$Numbers;", true)
  | 2 => ("ActorTrees$Tape", "kind", "I", false)
  | _ => ("ActorTrees$Tape", "place", "I", false)
def tyX4 : Nat → FieldType := fun k => match k with
  | 0 => .object "ActorTrees$Numbers"
  | 1 => .object "ActorTrees$Numbers"
  | 2 => .int
  | _ => .int
abbrev wsX40 : List Cond := u_ws RX4 TX4 4
theorem nmX4 : ∀ a, a < 4 → ∀ b, b < 4 → a ≠ b → (TX4 a).2.1 ≠ (TX4 b).2.1 := by decide +kernel
theorem tyX4_ok : ∀ k, k < 4 → parseFieldDescriptor (TX4 k).2.2.1 = some (tyX4 k) := by decide +kernel
abbrev cX4_init : ByteArray := prog_6_method_1_code
def yX4_init : MethodName := ⟨RX4, "<init>", "()V"⟩
abbrev cX4_isRead : ByteArray := prog_6_method_2_code
def yX4_isRead : MethodName := ⟨RX4, "isRead", "()Z"⟩
abbrev cX4_faultOfForm : ByteArray := prog_6_method_3_code
def yX4_faultOfForm : MethodName := ⟨RX4, "faultOfForm", "()I"⟩
abbrev cX4_readLine : ByteArray := prog_6_method_4_code
def yX4_readLine : MethodName := ⟨RX4, "readLine", "()Z"⟩
abbrev cX4_readNumber : ByteArray := prog_6_method_5_code
def yX4_readNumber : MethodName := ⟨RX4, "readNumber", "(Z)Z"⟩
abbrev cX4_isNext : ByteArray := prog_6_method_6_code
def yX4_isNext : MethodName := ⟨RX4, "isNext", "(C)Z"⟩
abbrev cX4_isDigitNext : ByteArray := prog_6_method_7_code
def yX4_isDigitNext : MethodName := ⟨RX4, "isDigitNext", "()Z"⟩
def RX5 : String := "ActorTrees$Timers"
def TX5 : u_T := fun k => match k with
  | 0 => ("ActorTrees$Timers", "owners", "[I", true)
  | 1 => ("ActorTrees$Timers", "dues", "[I", true)
  | 2 => ("ActorTrees$Timers", "numbers", "[I", true)
  | _ => ("ActorTrees$Timers", "size", "I", false)
def tyX5 : Nat → FieldType := fun k => match k with
  | 0 => .array .int
  | 1 => .array .int
  | 2 => .array .int
  | _ => .int
abbrev wsX50 : List Cond := u_ws RX5 TX5 4
theorem nmX5 : ∀ a, a < 4 → ∀ b, b < 4 → a ≠ b → (TX5 a).2.1 ≠ (TX5 b).2.1 := by decide +kernel
theorem tyX5_ok : ∀ k, k < 4 → parseFieldDescriptor (TX5 k).2.2.1 = some (tyX5 k) := by decide +kernel
abbrev cX5_init : ByteArray := prog_7_method_1_code
def yX5_init : MethodName := ⟨RX5, "<init>", "()V"⟩
abbrev cX5_ownerAt : ByteArray := prog_7_method_2_code
def yX5_ownerAt : MethodName := ⟨RX5, "ownerAt", "(I)I"⟩
abbrev cX5_dueAt : ByteArray := prog_7_method_3_code
def yX5_dueAt : MethodName := ⟨RX5, "dueAt", "(I)I"⟩
abbrev cX5_numberAt : ByteArray := prog_7_method_4_code
def yX5_numberAt : MethodName := ⟨RX5, "numberAt", "(I)I"⟩
abbrev cX5_countOf : ByteArray := prog_7_method_5_code
def yX5_countOf : MethodName := ⟨RX5, "countOf", "(I)I"⟩
abbrev cX5_set : ByteArray := prog_7_method_6_code
def yX5_set : MethodName := ⟨RX5, "set", "(III)V"⟩
abbrev cX5_removeOf : ByteArray := prog_7_method_7_code
def yX5_removeOf : MethodName := ⟨RX5, "removeOf", "(I)V"⟩
abbrev cX5_removeFirst : ByteArray := prog_7_method_8_code
def yX5_removeFirst : MethodName := ⟨RX5, "removeFirst", "()V"⟩
abbrev cX5_move : ByteArray := prog_7_method_9_code
def yX5_move : MethodName := ⟨RX5, "move", "(II)V"⟩
abbrev cX5_copyFrom : ByteArray := prog_7_method_10_code
def yX5_copyFrom : MethodName := ⟨RX5, "copyFrom", "(LActorTrees$Timers;)V"⟩
def RX6 : String := "ActorTrees$World"
def TX6 : u_T := fun k => match k with
  | 0 => ("ActorTrees$World", "actors", "[LActorTrees$Actor;", true)
  | 1 => ("ActorTrees$World", "timers", "LActorTrees$Timers;", true)
  | 2 => ("ActorTrees$World", "dealt", "LActorTrees$Pairs;", true)
  | 3 => ("ActorTrees$World", "causes", "LActorTrees$Pairs;", true)
  | 4 => ("ActorTrees$World", "came", "I", false)
  | 5 => ("ActorTrees$World", "latest", "I", false)
  | 6 => ("ActorTrees$World", "time", "I", false)
  | 7 => ("ActorTrees$World", "clock", "I", false)
  | 8 => ("ActorTrees$World", "deadLetters", "I", false)
  | 9 => ("ActorTrees$World", "seed", "I", false)
  | 10 => ("ActorTrees$World", "ended", "I", false)
  | 11 => ("ActorTrees$World", "hasFailed", "Z", false)
  | _ => ("ActorTrees$World", "restarted", "I", false)
def tyX6 : Nat → FieldType := fun k => match k with
  | 0 => .array (.object "ActorTrees$Actor")
  | 1 => .object "ActorTrees$Timers"
  | 2 => .object "ActorTrees$Pairs"
  | 3 => .object "ActorTrees$Pairs"
  | 4 => .int
  | 5 => .int
  | 6 => .int
  | 7 => .int
  | 8 => .int
  | 9 => .int
  | 10 => .int
  | 11 => .boolean
  | _ => .int
abbrev wsX60 : List Cond := u_ws RX6 TX6 13
theorem nmX6 : ∀ a, a < 13 → ∀ b, b < 13 → a ≠ b → (TX6 a).2.1 ≠ (TX6 b).2.1 := by decide +kernel
theorem tyX6_ok : ∀ k, k < 13 → parseFieldDescriptor (TX6 k).2.2.1 = some (tyX6 k) := by decide +kernel
abbrev cX6_init : ByteArray := prog_8_method_1_code
def yX6_init : MethodName := ⟨RX6, "<init>", "()V"⟩
abbrev cX6_copyFrom : ByteArray := prog_8_method_2_code
def yX6_copyFrom : MethodName := ⟨RX6, "copyFrom", "(LActorTrees$World;)V"⟩
abbrev cX6_isActor : ByteArray := prog_8_method_3_code
def yX6_isActor : MethodName := ⟨RX6, "isActor", "(I)Z"⟩
abbrev cX6_isLive : ByteArray := prog_8_method_4_code
def yX6_isLive : MethodName := ⟨RX6, "isLive", "(I)Z"⟩
abbrev cX6_isLiveChild : ByteArray := prog_8_method_5_code
def yX6_isLiveChild : MethodName := ⟨RX6, "isLiveChild", "(II)Z"⟩
abbrev cX6_childBits : ByteArray := prog_8_method_6_code
def yX6_childBits : MethodName := ⟨RX6, "childBits", "(I)I"⟩
abbrev cX6_liveBits : ByteArray := prog_8_method_7_code
def yX6_liveBits : MethodName := ⟨RX6, "liveBits", "()I"⟩
abbrev cX6_mailed : ByteArray := prog_8_method_8_code
def yX6_mailed : MethodName := ⟨RX6, "mailed", "()I"⟩
abbrev cX6_addActor : ByteArray := prog_8_method_9_code
def yX6_addActor : MethodName := ⟨RX6, "addActor", "(IIIII)I"⟩
abbrev cX6_send : ByteArray := prog_8_method_10_code
def yX6_send : MethodName := ⟨RX6, "send", "(III)Z"⟩
abbrev cX6_makeSteps : ByteArray := prog_8_method_11_code
def yX6_makeSteps : MethodName := ⟨RX6, "makeSteps", "(I)I"⟩
abbrev cX6_howItStands : ByteArray := prog_8_method_12_code
def yX6_howItStands : MethodName := ⟨RX6, "howItStands", "()I"⟩
abbrev cX6_hasStep : ByteArray := prog_8_method_13_code
def yX6_hasStep : MethodName := ⟨RX6, "hasStep", "()Z"⟩
abbrev cX6_nextDealer : ByteArray := prog_8_method_14_code
def yX6_nextDealer : MethodName := ⟨RX6, "nextDealer", "()I"⟩
abbrev cX6_step : ByteArray := prog_8_method_15_code
def yX6_step : MethodName := ⟨RX6, "step", "()Z"⟩
abbrev cX6_fireTimer : ByteArray := prog_8_method_16_code
def yX6_fireTimer : MethodName := ⟨RX6, "fireTimer", "()Z"⟩
abbrev cX6_deal : ByteArray := prog_8_method_17_code
def yX6_deal : MethodName := ⟨RX6, "deal", "(III)I"⟩
abbrev cX6_dealEarlier : ByteArray := prog_8_method_18_code
def yX6_dealEarlier : MethodName := ⟨RX6, "dealEarlier", "(IIII)I"⟩
abbrev cX6_dealLater : ByteArray := prog_8_method_19_code
def yX6_dealLater : MethodName := ⟨RX6, "dealLater", "(III)I"⟩
abbrev cX6_sendDown : ByteArray := prog_8_method_20_code
def yX6_sendDown : MethodName := ⟨RX6, "sendDown", "(III)V"⟩
abbrev cX6_unstash : ByteArray := prog_8_method_21_code
def yX6_unstash : MethodName := ⟨RX6, "unstash", "(LActorTrees$Actor;)V"⟩
abbrev cX6_watch : ByteArray := prog_8_method_22_code
def yX6_watch : MethodName := ⟨RX6, "watch", "(II)V"⟩
abbrev cX6_fail : ByteArray := prog_8_method_23_code
def yX6_fail : MethodName := ⟨RX6, "fail", "(II)V"⟩
abbrev cX6_isOverBudgetAbove : ByteArray := prog_8_method_24_code
def yX6_isOverBudgetAbove : MethodName := ⟨RX6, "isOverBudgetAbove", "(I)Z"⟩
abbrev cX6_isRestartedWith : ByteArray := prog_8_method_25_code
def yX6_isRestartedWith : MethodName := ⟨RX6, "isRestartedWith", "(II)Z"⟩
abbrev cX6_restart : ByteArray := prog_8_method_26_code
def yX6_restart : MethodName := ⟨RX6, "restart", "(I)V"⟩
abbrev cX6_halt : ByteArray := prog_8_method_27_code
def yX6_halt : MethodName := ⟨RX6, "halt", "(I)I"⟩
abbrev cX6_greatestLiveChild : ByteArray := prog_8_method_28_code
def yX6_greatestLiveChild : MethodName := ⟨RX6, "greatestLiveChild", "(I)I"⟩
def RX7 : String := "ActorTrees"
def TX7 : u_T := fun k => match k with
  | 0 => ("ActorTrees", "now", "LActorTrees$World;", true)
  | 1 => ("ActorTrees", "thought", "LActorTrees$World;", true)
  | 2 => ("ActorTrees", "kept", "LActorTrees$World;", true)
  | 3 => ("ActorTrees", "ahead", "LActorTrees$World;", true)
  | 4 => ("ActorTrees", "tape", "LActorTrees$Tape;", true)
  | 5 => ("ActorTrees", "handles", "[LActorTrees$Handle;", true)
  | _ => ("ActorTrees", "hasImage", "Z", false)
def tyX7 : Nat → FieldType := fun k => match k with
  | 0 => .object "ActorTrees$World"
  | 1 => .object "ActorTrees$World"
  | 2 => .object "ActorTrees$World"
  | 3 => .object "ActorTrees$World"
  | 4 => .object "ActorTrees$Tape"
  | 5 => .array (.object "ActorTrees$Handle")
  | _ => .boolean
abbrev wsX70 : List Cond := u_ws RX7 TX7 7
theorem nmX7 : ∀ a, a < 7 → ∀ b, b < 7 → a ≠ b → (TX7 a).2.1 ≠ (TX7 b).2.1 := by decide +kernel
theorem tyX7_ok : ∀ k, k < 7 → parseFieldDescriptor (TX7 k).2.2.1 = some (tyX7 k) := by decide +kernel
abbrev cX7_init : ByteArray := prog_1_method_1_code
def yX7_init : MethodName := ⟨RX7, "<init>", "()V"⟩
abbrev cX7_actor : ByteArray := prog_1_method_2_code
def yX7_actor : MethodName := ⟨RX7, "actor", "(III)I"⟩
abbrev cX7_tell : ByteArray := prog_1_method_3_code
def yX7_tell : MethodName := ⟨RX7, "tell", "(III)I"⟩
abbrev cX7_of : ByteArray := prog_1_method_4_code
def yX7_of : MethodName := ⟨RX7, "of", "(II)I"⟩
abbrev cX7_counted : ByteArray := prog_1_method_5_code
def yX7_counted : MethodName := ⟨RX7, "counted", "(I)I"⟩
abbrev cX7_message : ByteArray := prog_1_method_6_code
def yX7_message : MethodName := ⟨RX7, "message", "(IIZ)I"⟩
abbrev cX7_sender : ByteArray := prog_1_method_7_code
def yX7_sender : MethodName := ⟨RX7, "sender", "(IIZ)I"⟩
abbrev cX7_stack : ByteArray := prog_1_method_8_code
def yX7_stack : MethodName := ⟨RX7, "stack", "(II)I"⟩
abbrev cX7_watcher : ByteArray := prog_1_method_9_code
def yX7_watcher : MethodName := ⟨RX7, "watcher", "(II)I"⟩
abbrev cX7_timer : ByteArray := prog_1_method_10_code
def yX7_timer : MethodName := ⟨RX7, "timer", "(II)I"⟩
abbrev cX7_stop : ByteArray := prog_1_method_11_code
def yX7_stop : MethodName := ⟨RX7, "stop", "(I)I"⟩
abbrev cX7_run : ByteArray := prog_1_method_12_code
def yX7_run : MethodName := ⟨RX7, "run", "(I)I"⟩
abbrev cX7_ended : ByteArray := prog_1_method_13_code
def yX7_ended : MethodName := ⟨RX7, "ended", "()I"⟩
abbrev cX7_log : ByteArray := prog_1_method_14_code
def yX7_log : MethodName := ⟨RX7, "log", "(I)I"⟩
abbrev cX7_cause : ByteArray := prog_1_method_15_code
def yX7_cause : MethodName := ⟨RX7, "cause", "(II)I"⟩
abbrev cX7_dry : ByteArray := prog_1_method_16_code
def yX7_dry : MethodName := ⟨RX7, "dry", "(II)I"⟩
abbrev cX7_first : ByteArray := prog_1_method_17_code
def yX7_first : MethodName := ⟨RX7, "first", "()I"⟩
abbrev cX7_quiet : ByteArray := prog_1_method_18_code
def yX7_quiet : MethodName := ⟨RX7, "quiet", "()I"⟩
abbrev cX7_would : ByteArray := prog_1_method_19_code
def yX7_would : MethodName := ⟨RX7, "would", "(III)I"⟩
abbrev cX7_brings : ByteArray := prog_1_method_20_code
def yX7_brings : MethodName := ⟨RX7, "brings", "(II)I"⟩
abbrev cX7_reach : ByteArray := prog_1_method_21_code
def yX7_reach : MethodName := ⟨RX7, "reach", "(II)I"⟩
abbrev cX7_feed : ByteArray := prog_1_method_22_code
def yX7_feed : MethodName := ⟨RX7, "feed", "(I)I"⟩
abbrev cX7_script : ByteArray := prog_1_method_23_code
def yX7_script : MethodName := ⟨RX7, "script", "()I"⟩
abbrev cX7_drawn : ByteArray := prog_1_method_24_code
def yX7_drawn : MethodName := ⟨RX7, "drawn", "(I)I"⟩
abbrev cX7_seed : ByteArray := prog_1_method_25_code
def yX7_seed : MethodName := ⟨RX7, "seed", "(I)I"⟩
abbrev cX7_order : ByteArray := prog_1_method_26_code
def yX7_order : MethodName := ⟨RX7, "order", "(II)I"⟩
abbrev cX7_image : ByteArray := prog_1_method_27_code
def yX7_image : MethodName := ⟨RX7, "image", "()I"⟩
abbrev cX7_back : ByteArray := prog_1_method_28_code
def yX7_back : MethodName := ⟨RX7, "back", "()I"⟩
abbrev cX7_hold : ByteArray := prog_1_method_29_code
def yX7_hold : MethodName := ⟨RX7, "hold", "(II)I"⟩
abbrev cX7_row : ByteArray := prog_1_method_30_code
def yX7_row : MethodName := ⟨RX7, "row", "(II)I"⟩
abbrev cX7_put : ByteArray := prog_1_method_31_code
def yX7_put : MethodName := ⟨RX7, "put", "(III)I"⟩
abbrev cX7_tells : ByteArray := prog_1_method_32_code
def yX7_tells : MethodName := ⟨RX7, "tells", "(II)I"⟩
abbrev cX7_count : ByteArray := prog_1_method_33_code
def yX7_count : MethodName := ⟨RX7, "count", "(I)I"⟩
abbrev cX7_isNumber : ByteArray := prog_1_method_34_code
def yX7_isNumber : MethodName := ⟨RX7, "isNumber", "(I)Z"⟩
abbrev cX7_isSteps : ByteArray := prog_1_method_35_code
def yX7_isSteps : MethodName := ⟨RX7, "isSteps", "(I)Z"⟩
abbrev cX7_isHandle : ByteArray := prog_1_method_36_code
def yX7_isHandle : MethodName := ⟨RX7, "isHandle", "(I)Z"⟩
abbrev cX7_itemOf : ByteArray := prog_1_method_37_code
def yX7_itemOf : MethodName := ⟨RX7, "itemOf", "(LActorTrees$Numbers;I)I"⟩
abbrev cX7_doLineButSteps : ByteArray := prog_1_method_38_code
def yX7_doLineButSteps : MethodName := ⟨RX7, "doLineButSteps", "()I"⟩
abbrev cX7_firstOtherwise : ByteArray := prog_1_method_39_code
def yX7_firstOtherwise : MethodName := ⟨RX7, "firstOtherwise", "(LActorTrees$Numbers;I)I"⟩
def RX8 : String := "ActorTreesModel"
def TX8 : u_T := fun k => match k with
  | 0 => ("ActorTreesModel", "g", "[I", true)
  | 1 => ("ActorTreesModel", "saved", "[I", true)
  | 2 => ("ActorTreesModel", "whole", "[I", true)
  | 3 => ("ActorTreesModel", "kept", "[I", true)
  | 4 => ("ActorTreesModel", "isKept", "Z", false)
  | 5 => ("ActorTreesModel", "hasFailed", "Z", false)
  | 6 => ("ActorTreesModel", "restarted", "I", false)
  | 7 => ("ActorTreesModel", "dealt", "I", false)
  | 8 => ("ActorTreesModel", "chain", "[I", true)
  | 9 => ("ActorTreesModel", "chained", "I", false)
  | 10 => ("ActorTreesModel", "tape", "[I", true)
  | 11 => ("ActorTreesModel", "tapeMany", "I", false)
  | 12 => ("ActorTreesModel", "held", "[I", true)
  | 13 => ("ActorTreesModel", "heldActor", "[I", true)
  | 14 => ("ActorTreesModel", "rowSize", "[I", true)
  | 15 => ("ActorTreesModel", "rows", "[[I", true)
  | 16 => ("ActorTreesModel", "queue", "[I", true)
  | 17 => ("ActorTreesModel", "ways", "[I", true)
  | 18 => ("ActorTreesModel", "how", "I", false)
  | 19 => ("ActorTreesModel", "spot", "I", false)
  | 20 => ("ActorTreesModel", "fault", "I", false)
  | _ => ("ActorTreesModel", "told", "[I", true)
def tyX8 : Nat → FieldType := fun k => match k with
  | 0 => .array .int
  | 1 => .array .int
  | 2 => .array .int
  | 3 => .array .int
  | 4 => .boolean
  | 5 => .boolean
  | 6 => .int
  | 7 => .int
  | 8 => .array .int
  | 9 => .int
  | 10 => .array .int
  | 11 => .int
  | 12 => .array .int
  | 13 => .array .int
  | 14 => .array .int
  | 15 => .array (.array .int)
  | 16 => .array .int
  | 17 => .array .int
  | 18 => .int
  | 19 => .int
  | 20 => .int
  | _ => .array .int
abbrev wsX80 : List Cond := u_ws RX8 TX8 22
theorem nmX8 : ∀ a, a < 22 → ∀ b, b < 22 → a ≠ b → (TX8 a).2.1 ≠ (TX8 b).2.1 := by decide +kernel
theorem tyX8_ok : ∀ k, k < 22 → parseFieldDescriptor (TX8 k).2.2.1 = some (tyX8 k) := by decide +kernel
abbrev cX8_init : ByteArray := prog_10_method_1_code
def yX8_init : MethodName := ⟨RX8, "<init>", "()V"⟩
abbrev cX8_in : ByteArray := prog_10_method_2_code
def yX8_in : MethodName := ⟨RX8, "in", "(III)Z"⟩
abbrev cX8_take : ByteArray := prog_10_method_3_code
def yX8_take : MethodName := ⟨RX8, "take", "([I[I)V"⟩
abbrev cX8_at : ByteArray := prog_10_method_4_code
def yX8_at : MethodName := ⟨RX8, "at", "(II)I"⟩
abbrev cX8_sets : ByteArray := prog_10_method_5_code
def yX8_sets : MethodName := ⟨RX8, "sets", "(III)V"⟩
abbrev cX8_isActor : ByteArray := prog_10_method_6_code
def yX8_isActor : MethodName := ⟨RX8, "isActor", "(I)Z"⟩
abbrev cX8_isLive : ByteArray := prog_10_method_7_code
def yX8_isLive : MethodName := ⟨RX8, "isLive", "(I)Z"⟩
abbrev cX8_isLiveChild : ByteArray := prog_10_method_8_code
def yX8_isLiveChild : MethodName := ⟨RX8, "isLiveChild", "(II)Z"⟩
abbrev cX8_sends : ByteArray := prog_10_method_9_code
def yX8_sends : MethodName := ⟨RX8, "sends", "(III)Z"⟩
abbrev cX8_comesBack : ByteArray := prog_10_method_10_code
def yX8_comesBack : MethodName := ⟨RX8, "comesBack", "(I)V"⟩
abbrev cX8_forgets : ByteArray := prog_10_method_11_code
def yX8_forgets : MethodName := ⟨RX8, "forgets", "(I)V"⟩
abbrev cX8_unwatches : ByteArray := prog_10_method_12_code
def yX8_unwatches : MethodName := ⟨RX8, "unwatches", "(I)V"⟩
abbrev cX8_stopsChildren : ByteArray := prog_10_method_13_code
def yX8_stopsChildren : MethodName := ⟨RX8, "stopsChildren", "(I)V"⟩
abbrev cX8_stops : ByteArray := prog_10_method_14_code
def yX8_stops : MethodName := ⟨RX8, "stops", "(I)V"⟩
abbrev cX8_restarts : ByteArray := prog_10_method_15_code
def yX8_restarts : MethodName := ⟨RX8, "restarts", "(I)V"⟩
abbrev cX8_noted : ByteArray := prog_10_method_16_code
def yX8_noted : MethodName := ⟨RX8, "noted", "(IZ)I"⟩
abbrev cX8_isOverBudget : ByteArray := prog_10_method_17_code
def yX8_isOverBudget : MethodName := ⟨RX8, "isOverBudget", "(I)Z"⟩
abbrev cX8_fails : ByteArray := prog_10_method_18_code
def yX8_fails : MethodName := ⟨RX8, "fails", "(II)V"⟩
abbrev cX8_pass : ByteArray := prog_10_method_19_code
def yX8_pass : MethodName := ⟨RX8, "pass", "(IIZ)V"⟩
abbrev cX8_holds : ByteArray := prog_10_method_20_code
def yX8_holds : MethodName := ⟨RX8, "holds", "(III)V"⟩
abbrev cX8_switches : ByteArray := prog_10_method_21_code
def yX8_switches : MethodName := ⟨RX8, "switches", "(II)V"⟩
abbrev cX8_delays : ByteArray := prog_10_method_22_code
def yX8_delays : MethodName := ⟨RX8, "delays", "(II)V"⟩
abbrev cX8_watches : ByteArray := prog_10_method_23_code
def yX8_watches : MethodName := ⟨RX8, "watches", "(II)V"⟩
abbrev cX8_doing : ByteArray := prog_10_method_24_code
def yX8_doing : MethodName := ⟨RX8, "doing", "(I)I"⟩
abbrev cX8_deals : ByteArray := prog_10_method_25_code
def yX8_deals : MethodName := ⟨RX8, "deals", "(III)V"⟩
abbrev cX8_nextActor : ByteArray := prog_10_method_26_code
def yX8_nextActor : MethodName := ⟨RX8, "nextActor", "()I"⟩
abbrev cX8_firstTimer : ByteArray := prog_10_method_27_code
def yX8_firstTimer : MethodName := ⟨RX8, "firstTimer", "()I"⟩
abbrev cX8_hasStep : ByteArray := prog_10_method_28_code
def yX8_hasStep : MethodName := ⟨RX8, "hasStep", "()Z"⟩
abbrev cX8_toldAs : ByteArray := prog_10_method_29_code
def yX8_toldAs : MethodName := ⟨RX8, "toldAs", "(I)I"⟩
abbrev cX8_logs : ByteArray := prog_10_method_30_code
def yX8_logs : MethodName := ⟨RX8, "logs", "(II)V"⟩
abbrev cX8_step : ByteArray := prog_10_method_31_code
def yX8_step : MethodName := ⟨RX8, "step", "()V"⟩
abbrev cX8_isEnd : ByteArray := prog_10_method_32_code
def yX8_isEnd : MethodName := ⟨RX8, "isEnd", "(II)Z"⟩
abbrev cX8_runs : ByteArray := prog_10_method_33_code
def yX8_runs : MethodName := ⟨RX8, "runs", "(I)I"⟩
abbrev cX8_isRule : ByteArray := prog_10_method_34_code
def yX8_isRule : MethodName := ⟨RX8, "isRule", "(I)Z"⟩
abbrev cX8_canBe : ByteArray := prog_10_method_35_code
def yX8_canBe : MethodName := ⟨RX8, "canBe", "(III)I"⟩
abbrev cX8_actor : ByteArray := prog_10_method_36_code
def yX8_actor : MethodName := ⟨RX8, "actor", "(III)I"⟩
abbrev cX8_isNumber : ByteArray := prog_10_method_37_code
def yX8_isNumber : MethodName := ⟨RX8, "isNumber", "(I)Z"⟩
abbrev cX8_tell : ByteArray := prog_10_method_38_code
def yX8_tell : MethodName := ⟨RX8, "tell", "(III)I"⟩
abbrev cX8_timersOf : ByteArray := prog_10_method_39_code
def yX8_timersOf : MethodName := ⟨RX8, "timersOf", "(I)I"⟩
abbrev cX8_childrenOf : ByteArray := prog_10_method_40_code
def yX8_childrenOf : MethodName := ⟨RX8, "childrenOf", "(I)I"⟩
abbrev cX8_of : ByteArray := prog_10_method_41_code
def yX8_of : MethodName := ⟨RX8, "of", "(II)I"⟩
abbrev cX8_counted : ByteArray := prog_10_method_42_code
def yX8_counted : MethodName := ⟨RX8, "counted", "(I)I"⟩
abbrev cX8_messageAt : ByteArray := prog_10_method_43_code
def yX8_messageAt : MethodName := ⟨RX8, "messageAt", "(IIZ)I"⟩
abbrev cX8_message : ByteArray := prog_10_method_44_code
def yX8_message : MethodName := ⟨RX8, "message", "(IIZ)I"⟩
abbrev cX8_sender : ByteArray := prog_10_method_45_code
def yX8_sender : MethodName := ⟨RX8, "sender", "(IIZ)I"⟩
abbrev cX8_stack : ByteArray := prog_10_method_46_code
def yX8_stack : MethodName := ⟨RX8, "stack", "(II)I"⟩
abbrev cX8_watcher : ByteArray := prog_10_method_47_code
def yX8_watcher : MethodName := ⟨RX8, "watcher", "(II)I"⟩
abbrev cX8_timer : ByteArray := prog_10_method_48_code
def yX8_timer : MethodName := ⟨RX8, "timer", "(II)I"⟩
abbrev cX8_liveOnes : ByteArray := prog_10_method_49_code
def yX8_liveOnes : MethodName := ⟨RX8, "liveOnes", "()I"⟩
abbrev cX8_bits : ByteArray := prog_10_method_50_code
def yX8_bits : MethodName := ⟨RX8, "bits", "(I)I"⟩
abbrev cX8_stop : ByteArray := prog_10_method_51_code
def yX8_stop : MethodName := ⟨RX8, "stop", "(I)I"⟩
abbrev cX8_run : ByteArray := prog_10_method_52_code
def yX8_run : MethodName := ⟨RX8, "run", "(I)I"⟩
abbrev cX8_ended : ByteArray := prog_10_method_53_code
def yX8_ended : MethodName := ⟨RX8, "ended", "()I"⟩
abbrev cX8_log : ByteArray := prog_10_method_54_code
def yX8_log : MethodName := ⟨RX8, "log", "(I)I"⟩
abbrev cX8_cause : ByteArray := prog_10_method_55_code
def yX8_cause : MethodName := ⟨RX8, "cause", "(II)I"⟩
abbrev cX8_dry : ByteArray := prog_10_method_56_code
def yX8_dry : MethodName := ⟨RX8, "dry", "(II)I"⟩
abbrev cX8_first : ByteArray := prog_10_method_57_code
def yX8_first : MethodName := ⟨RX8, "first", "()I"⟩
abbrev cX8_quiet : ByteArray := prog_10_method_58_code
def yX8_quiet : MethodName := ⟨RX8, "quiet", "()I"⟩
abbrev cX8_would : ByteArray := prog_10_method_59_code
def yX8_would : MethodName := ⟨RX8, "would", "(III)I"⟩
abbrev cX8_brings : ByteArray := prog_10_method_60_code
def yX8_brings : MethodName := ⟨RX8, "brings", "(II)I"⟩
abbrev cX8_isNext : ByteArray := prog_10_method_61_code
def yX8_isNext : MethodName := ⟨RX8, "isNext", "(II)Z"⟩
abbrev cX8_reach : ByteArray := prog_10_method_62_code
def yX8_reach : MethodName := ⟨RX8, "reach", "(II)I"⟩
abbrev cX8_feed : ByteArray := prog_10_method_63_code
def yX8_feed : MethodName := ⟨RX8, "feed", "(I)I"⟩
abbrev cX8_sees : ByteArray := prog_10_method_64_code
def yX8_sees : MethodName := ⟨RX8, "sees", "(II)Z"⟩
abbrev cX8_must : ByteArray := prog_10_method_65_code
def yX8_must : MethodName := ⟨RX8, "must", "(II)I"⟩
abbrev cX8_number : ByteArray := prog_10_method_66_code
def yX8_number : MethodName := ⟨RX8, "number", "(Z)I"⟩
abbrev cX8_line : ByteArray := prog_10_method_67_code
def yX8_line : MethodName := ⟨RX8, "line", "()I"⟩
abbrev cX8_isForm : ByteArray := prog_10_method_68_code
def yX8_isForm : MethodName := ⟨RX8, "isForm", "()Z"⟩
abbrev cX8_does : ByteArray := prog_10_method_69_code
def yX8_does : MethodName := ⟨RX8, "does", "(I)Z"⟩
abbrev cX8_script : ByteArray := prog_10_method_70_code
def yX8_script : MethodName := ⟨RX8, "script", "()I"⟩
abbrev cX8_drawn : ByteArray := prog_10_method_71_code
def yX8_drawn : MethodName := ⟨RX8, "drawn", "(I)I"⟩
abbrev cX8_seed : ByteArray := prog_10_method_72_code
def yX8_seed : MethodName := ⟨RX8, "seed", "(I)I"⟩
abbrev cX8_ordered : ByteArray := prog_10_method_73_code
def yX8_ordered : MethodName := ⟨RX8, "ordered", "(II)I"⟩
abbrev cX8_isHandle : ByteArray := prog_10_method_74_code
def yX8_isHandle : MethodName := ⟨RX8, "isHandle", "(I)Z"⟩
abbrev cX8_order : ByteArray := prog_10_method_75_code
def yX8_order : MethodName := ⟨RX8, "order", "(II)I"⟩
abbrev cX8_image : ByteArray := prog_10_method_76_code
def yX8_image : MethodName := ⟨RX8, "image", "()I"⟩
abbrev cX8_back : ByteArray := prog_10_method_77_code
def yX8_back : MethodName := ⟨RX8, "back", "()I"⟩
abbrev cX8_hold : ByteArray := prog_10_method_78_code
def yX8_hold : MethodName := ⟨RX8, "hold", "(II)I"⟩
abbrev cX8_row : ByteArray := prog_10_method_79_code
def yX8_row : MethodName := ⟨RX8, "row", "(II)I"⟩
abbrev cX8_put : ByteArray := prog_10_method_80_code
def yX8_put : MethodName := ⟨RX8, "put", "(III)I"⟩
abbrev cX8_tells : ByteArray := prog_10_method_81_code
def yX8_tells : MethodName := ⟨RX8, "tells", "(II)I"⟩
abbrev cX8_count : ByteArray := prog_10_method_82_code
def yX8_count : MethodName := ⟨RX8, "count", "(I)I"⟩
def RJ6 : String := "java/lang/Integer"
def TJ6 : u_T := fun k => match k with
  | _ => ("", "", "", false)
def tyJ6 : Nat → FieldType := fun k => match k with
  | _ => .int
abbrev wsJ60 : List Cond := u_ws RJ6 TJ6 0
theorem nmJ6 : ∀ a, a < 0 → ∀ b, b < 0 → a ≠ b → (TJ6 a).2.1 ≠ (TJ6 b).2.1 := by decide +kernel
theorem tyJ6_ok : ∀ k, k < 0 → parseFieldDescriptor (TJ6 k).2.2.1 = some (tyJ6 k) := by decide +kernel
abbrev cJ6_bitCount_0f7a4 : ByteArray := prog_11_method_49_code
def yJ6_bitCount_0f7a4 : MethodName := ⟨RJ6, "bitCount", "(I)I"⟩
def RJ9 : String := "java/lang/Math"
def TJ9 : u_T := fun k => match k with
  | _ => ("", "", "", false)
def tyJ9 : Nat → FieldType := fun k => match k with
  | _ => .int
abbrev wsJ90 : List Cond := u_ws RJ9 TJ9 0
theorem nmJ9 : ∀ a, a < 0 → ∀ b, b < 0 → a ≠ b → (TJ9 a).2.1 ≠ (TJ9 b).2.1 := by decide +kernel
theorem tyJ9_ok : ∀ k, k < 0 → parseFieldDescriptor (TJ9 k).2.2.1 = some (tyJ9 k) := by decide +kernel
abbrev cJ9_max_7cf53 : ByteArray := prog_12_method_65_code
def yJ9_max_7cf53 : MethodName := ⟨RJ9, "max", "(II)I"⟩
abbrev cJ9_min_7cf53 : ByteArray := prog_12_method_69_code
def yJ9_min_7cf53 : MethodName := ⟨RJ9, "min", "(II)I"⟩
def RJ10 : String := "java/lang/System"
def TJ10 : u_T := fun k => match k with
  | _ => ("", "", "", false)
def tyJ10 : Nat → FieldType := fun k => match k with
  | _ => .int
abbrev wsJ100 : List Cond := u_ws RJ10 TJ10 0
theorem nmJ10 : ∀ a, a < 0 → ∀ b, b < 0 → a ≠ b → (TJ10 a).2.1 ≠ (TJ10 b).2.1 := by decide +kernel
theorem tyJ10_ok : ∀ k, k < 0 → parseFieldDescriptor (TJ10 k).2.2.1 = some (tyJ10 k) := by decide +kernel
def RL : String := "ActorTreesLaw"
abbrev cL_law : ByteArray := code
def yL_law : MethodName := ⟨RL, "law", "([I)Z"⟩
abbrev xcl : List vw_C := [(RX0, TX0, 12), (RX1, TX1, 3), (RX2, TX2, 2), (RX3, TX3, 3), (RX4, TX4, 4), (RX5, TX5, 4), (RX6, TX6, 13), (RX7, TX7, 7), (RX8, TX8, 22)]
