section
-- ===== PART A: goes FIRST, ahead of the names: the tables' words, and 'selects' of the private methods out of them =====
/-- a private method of a class that the tables say can be made, by its rows of tables_1 -/
def lw_okq (q : MethodName × Nat) : Prop := (q.1.cls ≠ "java/lang/invoke/MethodHandle" ∧ q.1.cls ≠ "java/lang/invoke/VarHandle") ∧ Cond.instantiable q.1.cls q.2 ∈ tables_1 ∧ Cond.privateMethod q.1 ∈ tables_1 ∧ Cond.instanceMethod q.1 ∈ tables_1
theorem lw_p0 : lw_okq (⟨"FollowingCalf$Reader", "readItem", "(LFollowingCalf$Farm;)Z"⟩, 2) := ⟨⟨by decide +kernel, by decide +kernel⟩, List.mem_of_getElem? (i := 42) (by decide +kernel), List.mem_of_getElem? (i := 285) (by decide +kernel), List.mem_of_getElem? (i := 286) (by decide +kernel)⟩
theorem lw_p1 : lw_okq (⟨"FollowingCalf$Reader", "readLane", "(LFollowingCalf$Farm;)Z"⟩, 2) := ⟨⟨by decide +kernel, by decide +kernel⟩, List.mem_of_getElem? (i := 42) (by decide +kernel), List.mem_of_getElem? (i := 293) (by decide +kernel), List.mem_of_getElem? (i := 294) (by decide +kernel)⟩
theorem lw_p2 : lw_okq (⟨"FollowingCalf$Reader", "readNumber", "()I"⟩, 2) := ⟨⟨by decide +kernel, by decide +kernel⟩, List.mem_of_getElem? (i := 42) (by decide +kernel), List.mem_of_getElem? (i := 297) (by decide +kernel), List.mem_of_getElem? (i := 298) (by decide +kernel)⟩
theorem lw_p3 : lw_okq (⟨"FollowingCalf$Reader", "figureHere", "()I"⟩, 2) := ⟨⟨by decide +kernel, by decide +kernel⟩, List.mem_of_getElem? (i := 42) (by decide +kernel), List.mem_of_getElem? (i := 301) (by decide +kernel), List.mem_of_getElem? (i := 302) (by decide +kernel)⟩
theorem lw_p4 : lw_okq (⟨"FollowingCalf$Reader", "takes", "(I)Z"⟩, 2) := ⟨⟨by decide +kernel, by decide +kernel⟩, List.mem_of_getElem? (i := 42) (by decide +kernel), List.mem_of_getElem? (i := 305) (by decide +kernel), List.mem_of_getElem? (i := 306) (by decide +kernel)⟩
theorem lw_p5 : lw_okq (⟨"FollowingCalf$Reader", "readWay", "(LFollowingCalf$Farm;)Z"⟩, 2) := ⟨⟨by decide +kernel, by decide +kernel⟩, List.mem_of_getElem? (i := 42) (by decide +kernel), List.mem_of_getElem? (i := 317) (by decide +kernel), List.mem_of_getElem? (i := 318) (by decide +kernel)⟩
theorem lw_p6 : lw_okq (⟨"FollowingCalf$Farm", "lowestNearer", "(II)I"⟩, 10) := ⟨⟨by decide +kernel, by decide +kernel⟩, List.mem_of_getElem? (i := 55) (by decide +kernel), List.mem_of_getElem? (i := 353) (by decide +kernel), List.mem_of_getElem? (i := 354) (by decide +kernel)⟩
theorem lw_p7 : lw_okq (⟨"FollowingCalf$Moments", "dropLowest", "()V"⟩, 4) := ⟨⟨by decide +kernel, by decide +kernel⟩, List.mem_of_getElem? (i := 119) (by decide +kernel), List.mem_of_getElem? (i := 477) (by decide +kernel), List.mem_of_getElem? (i := 478) (by decide +kernel)⟩
theorem lw_p8 : lw_okq (⟨"FollowingCalf$Farm", "towards", "(II)I"⟩, 10) := ⟨⟨by decide +kernel, by decide +kernel⟩, List.mem_of_getElem? (i := 55) (by decide +kernel), List.mem_of_getElem? (i := 504) (by decide +kernel), List.mem_of_getElem? (i := 505) (by decide +kernel)⟩
theorem lw_p9 : lw_okq (⟨"FollowingCalf$Search", "begin", "(II)V"⟩, 5) := ⟨⟨by decide +kernel, by decide +kernel⟩, List.mem_of_getElem? (i := 154) (by decide +kernel), List.mem_of_getElem? (i := 551) (by decide +kernel), List.mem_of_getElem? (i := 552) (by decide +kernel)⟩
theorem lw_p10 : lw_okq (⟨"FollowingCalf$Search", "follow", "(LFollowingCalf$Farm;ILFollowingCalf$Told;)I"⟩, 5) := ⟨⟨by decide +kernel, by decide +kernel⟩, List.mem_of_getElem? (i := 154) (by decide +kernel), List.mem_of_getElem? (i := 566) (by decide +kernel), List.mem_of_getElem? (i := 567) (by decide +kernel)⟩
theorem lw_p11 : lw_okq (⟨"FollowingCalf$Search", "sieve", "(LFollowingCalf$Told;I)I"⟩, 5) := ⟨⟨by decide +kernel, by decide +kernel⟩, List.mem_of_getElem? (i := 154) (by decide +kernel), List.mem_of_getElem? (i := 577) (by decide +kernel), List.mem_of_getElem? (i := 578) (by decide +kernel)⟩
theorem lw_p12 : lw_okq (⟨"FollowingCalf$Search", "spread", "(LFollowingCalf$Farm;I)V"⟩, 5) := ⟨⟨by decide +kernel, by decide +kernel⟩, List.mem_of_getElem? (i := 154) (by decide +kernel), List.mem_of_getElem? (i := 602) (by decide +kernel), List.mem_of_getElem? (i := 603) (by decide +kernel)⟩
theorem lw_p13 : lw_okq (⟨"FollowingCalf$Search", "branch", "(LFollowingCalf$Farm;IJI)V"⟩, 5) := ⟨⟨by decide +kernel, by decide +kernel⟩, List.mem_of_getElem? (i := 154) (by decide +kernel), List.mem_of_getElem? (i := 614) (by decide +kernel), List.mem_of_getElem? (i := 615) (by decide +kernel)⟩
theorem lw_p14 : lw_okq (⟨"FollowingCalf$Search", "feedersOf", "(LFollowingCalf$Farm;II)I"⟩, 5) := ⟨⟨by decide +kernel, by decide +kernel⟩, List.mem_of_getElem? (i := 154) (by decide +kernel), List.mem_of_getElem? (i := 618) (by decide +kernel), List.mem_of_getElem? (i := 619) (by decide +kernel)⟩
theorem lw_p15 : lw_okq (⟨"FollowingCalf$Search", "whenUnfed", "(JI)J"⟩, 5) := ⟨⟨by decide +kernel, by decide +kernel⟩, List.mem_of_getElem? (i := 154) (by decide +kernel), List.mem_of_getElem? (i := 625) (by decide +kernel), List.mem_of_getElem? (i := 626) (by decide +kernel)⟩
def lw_privs_1 : List (MethodName × Nat) := [(⟨"FollowingCalf$Reader", "readItem", "(LFollowingCalf$Farm;)Z"⟩, 2), (⟨"FollowingCalf$Reader", "readLane", "(LFollowingCalf$Farm;)Z"⟩, 2), (⟨"FollowingCalf$Reader", "readNumber", "()I"⟩, 2), (⟨"FollowingCalf$Reader", "figureHere", "()I"⟩, 2), (⟨"FollowingCalf$Reader", "takes", "(I)Z"⟩, 2), (⟨"FollowingCalf$Reader", "readWay", "(LFollowingCalf$Farm;)Z"⟩, 2), (⟨"FollowingCalf$Farm", "lowestNearer", "(II)I"⟩, 10), (⟨"FollowingCalf$Moments", "dropLowest", "()V"⟩, 4), (⟨"FollowingCalf$Farm", "towards", "(II)I"⟩, 10), (⟨"FollowingCalf$Search", "begin", "(II)V"⟩, 5), (⟨"FollowingCalf$Search", "follow", "(LFollowingCalf$Farm;ILFollowingCalf$Told;)I"⟩, 5), (⟨"FollowingCalf$Search", "sieve", "(LFollowingCalf$Told;I)I"⟩, 5), (⟨"FollowingCalf$Search", "spread", "(LFollowingCalf$Farm;I)V"⟩, 5), (⟨"FollowingCalf$Search", "branch", "(LFollowingCalf$Farm;IJI)V"⟩, 5), (⟨"FollowingCalf$Search", "feedersOf", "(LFollowingCalf$Farm;II)I"⟩, 5), (⟨"FollowingCalf$Search", "whenUnfed", "(JI)J"⟩, 5)]
theorem lw_r1 : ∀ q ∈ lw_privs_1, lw_okq q := List.forall_mem_cons.mpr ⟨lw_p0, List.forall_mem_cons.mpr ⟨lw_p1, List.forall_mem_cons.mpr ⟨lw_p2, List.forall_mem_cons.mpr ⟨lw_p3, List.forall_mem_cons.mpr ⟨lw_p4, List.forall_mem_cons.mpr ⟨lw_p5, List.forall_mem_cons.mpr ⟨lw_p6, List.forall_mem_cons.mpr ⟨lw_p7, List.forall_mem_cons.mpr ⟨lw_p8, List.forall_mem_cons.mpr ⟨lw_p9, List.forall_mem_cons.mpr ⟨lw_p10, List.forall_mem_cons.mpr ⟨lw_p11, List.forall_mem_cons.mpr ⟨lw_p12, List.forall_mem_cons.mpr ⟨lw_p13, List.forall_mem_cons.mpr ⟨lw_p14, List.forall_mem_cons.mpr ⟨lw_p15, fun _ h => absurd h List.not_mem_nil⟩⟩⟩⟩⟩⟩⟩⟩⟩⟩⟩⟩⟩⟩⟩⟩
theorem lw_p16 : lw_okq (⟨"FollowingCalf$Search", "whenFed", "(LFollowingCalf$Farm;JII)J"⟩, 5) := ⟨⟨by decide +kernel, by decide +kernel⟩, List.mem_of_getElem? (i := 154) (by decide +kernel), List.mem_of_getElem? (i := 632) (by decide +kernel), List.mem_of_getElem? (i := 633) (by decide +kernel)⟩
theorem lw_p17 : lw_okq (⟨"FollowingCalf$Contest", "goForth", "(LFollowingCalf$Farm;III)V"⟩, 1) := ⟨⟨by decide +kernel, by decide +kernel⟩, List.mem_of_getElem? (i := 197) (by decide +kernel), List.mem_of_getElem? (i := 686) (by decide +kernel), List.mem_of_getElem? (i := 687) (by decide +kernel)⟩
theorem lw_p18 : lw_okq (⟨"FollowingCalf$Contest", "addNext", "(LFollowingCalf$Farm;IIII)V"⟩, 1) := ⟨⟨by decide +kernel, by decide +kernel⟩, List.mem_of_getElem? (i := 197) (by decide +kernel), List.mem_of_getElem? (i := 699) (by decide +kernel), List.mem_of_getElem? (i := 700) (by decide +kernel)⟩
theorem lw_p19 : lw_okq (⟨"FollowingCalf$Contest", "leaveThoseAt", "(LFollowingCalf$Farm;II)V"⟩, 1) := ⟨⟨by decide +kernel, by decide +kernel⟩, List.mem_of_getElem? (i := 197) (by decide +kernel), List.mem_of_getElem? (i := 707) (by decide +kernel), List.mem_of_getElem? (i := 708) (by decide +kernel)⟩
theorem lw_p20 : lw_okq (⟨"FollowingCalf$Contest", "goBack", "(LFollowingCalf$Farm;III)V"⟩, 1) := ⟨⟨by decide +kernel, by decide +kernel⟩, List.mem_of_getElem? (i := 197) (by decide +kernel), List.mem_of_getElem? (i := 716) (by decide +kernel), List.mem_of_getElem? (i := 717) (by decide +kernel)⟩
theorem lw_p21 : lw_okq (⟨"FollowingCalf$Contest", "choice", "(LFollowingCalf$Farm;IIIIZ)I"⟩, 1) := ⟨⟨by decide +kernel, by decide +kernel⟩, List.mem_of_getElem? (i := 197) (by decide +kernel), List.mem_of_getElem? (i := 720) (by decide +kernel), List.mem_of_getElem? (i := 721) (by decide +kernel)⟩
theorem lw_p22 : lw_okq (⟨"FollowingCalfModel", "link", "(III)V"⟩, 24) := ⟨⟨by decide +kernel, by decide +kernel⟩, List.mem_of_getElem? (i := 793) (by decide +kernel), List.mem_of_getElem? (i := 799) (by decide +kernel), List.mem_of_getElem? (i := 800) (by decide +kernel)⟩
theorem lw_p23 : lw_okq (⟨"FollowingCalfModel", "begin", "()V"⟩, 24) := ⟨⟨by decide +kernel, by decide +kernel⟩, List.mem_of_getElem? (i := 793) (by decide +kernel), List.mem_of_getElem? (i := 803) (by decide +kernel), List.mem_of_getElem? (i := 804) (by decide +kernel)⟩
theorem lw_p24 : lw_okq (⟨"FollowingCalfModel", "findFault", "()I"⟩, 24) := ⟨⟨by decide +kernel, by decide +kernel⟩, List.mem_of_getElem? (i := 793) (by decide +kernel), List.mem_of_getElem? (i := 898) (by decide +kernel), List.mem_of_getElem? (i := 899) (by decide +kernel)⟩
theorem lw_p25 : lw_okq (⟨"FollowingCalfModel", "readItem", "()V"⟩, 24) := ⟨⟨by decide +kernel, by decide +kernel⟩, List.mem_of_getElem? (i := 793) (by decide +kernel), List.mem_of_getElem? (i := 902) (by decide +kernel), List.mem_of_getElem? (i := 903) (by decide +kernel)⟩
theorem lw_p26 : lw_okq (⟨"FollowingCalfModel", "here", "()I"⟩, 24) := ⟨⟨by decide +kernel, by decide +kernel⟩, List.mem_of_getElem? (i := 793) (by decide +kernel), List.mem_of_getElem? (i := 906) (by decide +kernel), List.mem_of_getElem? (i := 907) (by decide +kernel)⟩
theorem lw_p27 : lw_okq (⟨"FollowingCalfModel", "number", "(II)I"⟩, 24) := ⟨⟨by decide +kernel, by decide +kernel⟩, List.mem_of_getElem? (i := 793) (by decide +kernel), List.mem_of_getElem? (i := 910) (by decide +kernel), List.mem_of_getElem? (i := 911) (by decide +kernel)⟩
theorem lw_p28 : lw_okq (⟨"FollowingCalfModel", "due", "(I)V"⟩, 24) := ⟨⟨by decide +kernel, by decide +kernel⟩, List.mem_of_getElem? (i := 793) (by decide +kernel), List.mem_of_getElem? (i := 914) (by decide +kernel), List.mem_of_getElem? (i := 915) (by decide +kernel)⟩
theorem lw_p29 : lw_okq (⟨"FollowingCalfModel", "readWay", "()V"⟩, 24) := ⟨⟨by decide +kernel, by decide +kernel⟩, List.mem_of_getElem? (i := 793) (by decide +kernel), List.mem_of_getElem? (i := 918) (by decide +kernel), List.mem_of_getElem? (i := 919) (by decide +kernel)⟩
theorem lw_p30 : lw_okq (⟨"FollowingCalfModel", "isYard", "(I)Z"⟩, 24) := ⟨⟨by decide +kernel, by decide +kernel⟩, List.mem_of_getElem? (i := 793) (by decide +kernel), List.mem_of_getElem? (i := 930) (by decide +kernel), List.mem_of_getElem? (i := 931) (by decide +kernel)⟩
theorem lw_p31 : lw_okq (⟨"FollowingCalfModel", "isPerson", "(I)Z"⟩, 24) := ⟨⟨by decide +kernel, by decide +kernel⟩, List.mem_of_getElem? (i := 793) (by decide +kernel), List.mem_of_getElem? (i := 938) (by decide +kernel), List.mem_of_getElem? (i := 939) (by decide +kernel)⟩
def lw_privs_2 : List (MethodName × Nat) := [(⟨"FollowingCalf$Search", "whenFed", "(LFollowingCalf$Farm;JII)J"⟩, 5), (⟨"FollowingCalf$Contest", "goForth", "(LFollowingCalf$Farm;III)V"⟩, 1), (⟨"FollowingCalf$Contest", "addNext", "(LFollowingCalf$Farm;IIII)V"⟩, 1), (⟨"FollowingCalf$Contest", "leaveThoseAt", "(LFollowingCalf$Farm;II)V"⟩, 1), (⟨"FollowingCalf$Contest", "goBack", "(LFollowingCalf$Farm;III)V"⟩, 1), (⟨"FollowingCalf$Contest", "choice", "(LFollowingCalf$Farm;IIIIZ)I"⟩, 1), (⟨"FollowingCalfModel", "link", "(III)V"⟩, 24), (⟨"FollowingCalfModel", "begin", "()V"⟩, 24), (⟨"FollowingCalfModel", "findFault", "()I"⟩, 24), (⟨"FollowingCalfModel", "readItem", "()V"⟩, 24), (⟨"FollowingCalfModel", "here", "()I"⟩, 24), (⟨"FollowingCalfModel", "number", "(II)I"⟩, 24), (⟨"FollowingCalfModel", "due", "(I)V"⟩, 24), (⟨"FollowingCalfModel", "readWay", "()V"⟩, 24), (⟨"FollowingCalfModel", "isYard", "(I)Z"⟩, 24), (⟨"FollowingCalfModel", "isPerson", "(I)Z"⟩, 24)]
theorem lw_r2 : ∀ q ∈ lw_privs_2, lw_okq q := List.forall_mem_cons.mpr ⟨lw_p16, List.forall_mem_cons.mpr ⟨lw_p17, List.forall_mem_cons.mpr ⟨lw_p18, List.forall_mem_cons.mpr ⟨lw_p19, List.forall_mem_cons.mpr ⟨lw_p20, List.forall_mem_cons.mpr ⟨lw_p21, List.forall_mem_cons.mpr ⟨lw_p22, List.forall_mem_cons.mpr ⟨lw_p23, List.forall_mem_cons.mpr ⟨lw_p24, List.forall_mem_cons.mpr ⟨lw_p25, List.forall_mem_cons.mpr ⟨lw_p26, List.forall_mem_cons.mpr ⟨lw_p27, List.forall_mem_cons.mpr ⟨lw_p28, List.forall_mem_cons.mpr ⟨lw_p29, List.forall_mem_cons.mpr ⟨lw_p30, List.forall_mem_cons.mpr ⟨lw_p31, fun _ h => absurd h List.not_mem_nil⟩⟩⟩⟩⟩⟩⟩⟩⟩⟩⟩⟩⟩⟩⟩⟩
theorem lw_p32 : lw_okq (⟨"FollowingCalfModel", "placeOf", "(II)I"⟩, 24) := ⟨⟨by decide +kernel, by decide +kernel⟩, List.mem_of_getElem? (i := 793) (by decide +kernel), List.mem_of_getElem? (i := 942) (by decide +kernel), List.mem_of_getElem? (i := 943) (by decide +kernel)⟩
theorem lw_p33 : lw_okq (⟨"FollowingCalfModel", "mayFeed", "(III)Z"⟩, 24) := ⟨⟨by decide +kernel, by decide +kernel⟩, List.mem_of_getElem? (i := 793) (by decide +kernel), List.mem_of_getElem? (i := 950) (by decide +kernel), List.mem_of_getElem? (i := 951) (by decide +kernel)⟩
theorem lw_p34 : lw_okq (⟨"FollowingCalfModel", "know", "()V"⟩, 24) := ⟨⟨by decide +kernel, by decide +kernel⟩, List.mem_of_getElem? (i := 793) (by decide +kernel), List.mem_of_getElem? (i := 957) (by decide +kernel), List.mem_of_getElem? (i := 958) (by decide +kernel)⟩
theorem lw_p35 : lw_okq (⟨"FollowingCalfModel", "fedBy", "(II)I"⟩, 24) := ⟨⟨by decide +kernel, by decide +kernel⟩, List.mem_of_getElem? (i := 793) (by decide +kernel), List.mem_of_getElem? (i := 961) (by decide +kernel), List.mem_of_getElem? (i := 962) (by decide +kernel)⟩
theorem lw_p36 : lw_okq (⟨"FollowingCalfModel", "gone", "(III)I"⟩, 24) := ⟨⟨by decide +kernel, by decide +kernel⟩, List.mem_of_getElem? (i := 793) (by decide +kernel), List.mem_of_getElem? (i := 969) (by decide +kernel), List.mem_of_getElem? (i := 970) (by decide +kernel)⟩
theorem lw_p37 : lw_okq (⟨"FollowingCalfModel", "after", "(II)I"⟩, 24) := ⟨⟨by decide +kernel, by decide +kernel⟩, List.mem_of_getElem? (i := 793) (by decide +kernel), List.mem_of_getElem? (i := 973) (by decide +kernel), List.mem_of_getElem? (i := 974) (by decide +kernel)⟩
theorem lw_p38 : lw_okq (⟨"FollowingCalfModel", "lastGoal", "()I"⟩, 24) := ⟨⟨by decide +kernel, by decide +kernel⟩, List.mem_of_getElem? (i := 793) (by decide +kernel), List.mem_of_getElem? (i := 1000) (by decide +kernel), List.mem_of_getElem? (i := 1001) (by decide +kernel)⟩
theorem lw_p39 : lw_okq (⟨"FollowingCalfModel", "isUpTo", "(II)Z"⟩, 24) := ⟨⟨by decide +kernel, by decide +kernel⟩, List.mem_of_getElem? (i := 793) (by decide +kernel), List.mem_of_getElem? (i := 1004) (by decide +kernel), List.mem_of_getElem? (i := 1005) (by decide +kernel)⟩
theorem lw_p40 : lw_okq (⟨"FollowingCalfModel", "priceTo", "(I)I"⟩, 24) := ⟨⟨by decide +kernel, by decide +kernel⟩, List.mem_of_getElem? (i := 793) (by decide +kernel), List.mem_of_getElem? (i := 1008) (by decide +kernel), List.mem_of_getElem? (i := 1009) (by decide +kernel)⟩
theorem lw_p41 : lw_okq (⟨"FollowingCalfModel", "isState", "(I)Z"⟩, 24) := ⟨⟨by decide +kernel, by decide +kernel⟩, List.mem_of_getElem? (i := 793) (by decide +kernel), List.mem_of_getElem? (i := 1012) (by decide +kernel), List.mem_of_getElem? (i := 1013) (by decide +kernel)⟩
theorem lw_p42 : lw_okq (⟨"FollowingCalfModel", "fits", "(III)Z"⟩, 24) := ⟨⟨by decide +kernel, by decide +kernel⟩, List.mem_of_getElem? (i := 793) (by decide +kernel), List.mem_of_getElem? (i := 1016) (by decide +kernel), List.mem_of_getElem? (i := 1017) (by decide +kernel)⟩
theorem lw_p43 : lw_okq (⟨"FollowingCalfModel", "leastOf", "(II)I"⟩, 24) := ⟨⟨by decide +kernel, by decide +kernel⟩, List.mem_of_getElem? (i := 793) (by decide +kernel), List.mem_of_getElem? (i := 1020) (by decide +kernel), List.mem_of_getElem? (i := 1021) (by decide +kernel)⟩
theorem lw_p44 : lw_okq (⟨"FollowingCalfModel", "costBy", "(III)I"⟩, 24) := ⟨⟨by decide +kernel, by decide +kernel⟩, List.mem_of_getElem? (i := 793) (by decide +kernel), List.mem_of_getElem? (i := 1024) (by decide +kernel), List.mem_of_getElem? (i := 1025) (by decide +kernel)⟩
theorem lw_p45 : lw_okq (⟨"FollowingCalfModel", "canWin", "(III)Z"⟩, 24) := ⟨⟨by decide +kernel, by decide +kernel⟩, List.mem_of_getElem? (i := 793) (by decide +kernel), List.mem_of_getElem? (i := 1040) (by decide +kernel), List.mem_of_getElem? (i := 1041) (by decide +kernel)⟩
theorem lw_p46 : lw_okq (⟨"FollowingCalfModel", "isWonBy", "(III)Z"⟩, 24) := ⟨⟨by decide +kernel, by decide +kernel⟩, List.mem_of_getElem? (i := 793) (by decide +kernel), List.mem_of_getElem? (i := 1044) (by decide +kernel), List.mem_of_getElem? (i := 1045) (by decide +kernel)⟩
theorem lw_p47 : lw_okq (⟨"FollowingCalfModel", "howBut", "(I)J"⟩, 24) := ⟨⟨by decide +kernel, by decide +kernel⟩, List.mem_of_getElem? (i := 793) (by decide +kernel), List.mem_of_getElem? (i := 1060) (by decide +kernel), List.mem_of_getElem? (i := 1061) (by decide +kernel)⟩
def lw_privs_3 : List (MethodName × Nat) := [(⟨"FollowingCalfModel", "placeOf", "(II)I"⟩, 24), (⟨"FollowingCalfModel", "mayFeed", "(III)Z"⟩, 24), (⟨"FollowingCalfModel", "know", "()V"⟩, 24), (⟨"FollowingCalfModel", "fedBy", "(II)I"⟩, 24), (⟨"FollowingCalfModel", "gone", "(III)I"⟩, 24), (⟨"FollowingCalfModel", "after", "(II)I"⟩, 24), (⟨"FollowingCalfModel", "lastGoal", "()I"⟩, 24), (⟨"FollowingCalfModel", "isUpTo", "(II)Z"⟩, 24), (⟨"FollowingCalfModel", "priceTo", "(I)I"⟩, 24), (⟨"FollowingCalfModel", "isState", "(I)Z"⟩, 24), (⟨"FollowingCalfModel", "fits", "(III)Z"⟩, 24), (⟨"FollowingCalfModel", "leastOf", "(II)I"⟩, 24), (⟨"FollowingCalfModel", "costBy", "(III)I"⟩, 24), (⟨"FollowingCalfModel", "canWin", "(III)Z"⟩, 24), (⟨"FollowingCalfModel", "isWonBy", "(III)Z"⟩, 24), (⟨"FollowingCalfModel", "howBut", "(I)J"⟩, 24)]
theorem lw_r3 : ∀ q ∈ lw_privs_3, lw_okq q := List.forall_mem_cons.mpr ⟨lw_p32, List.forall_mem_cons.mpr ⟨lw_p33, List.forall_mem_cons.mpr ⟨lw_p34, List.forall_mem_cons.mpr ⟨lw_p35, List.forall_mem_cons.mpr ⟨lw_p36, List.forall_mem_cons.mpr ⟨lw_p37, List.forall_mem_cons.mpr ⟨lw_p38, List.forall_mem_cons.mpr ⟨lw_p39, List.forall_mem_cons.mpr ⟨lw_p40, List.forall_mem_cons.mpr ⟨lw_p41, List.forall_mem_cons.mpr ⟨lw_p42, List.forall_mem_cons.mpr ⟨lw_p43, List.forall_mem_cons.mpr ⟨lw_p44, List.forall_mem_cons.mpr ⟨lw_p45, List.forall_mem_cons.mpr ⟨lw_p46, List.forall_mem_cons.mpr ⟨lw_p47, fun _ h => absurd h List.not_mem_nil⟩⟩⟩⟩⟩⟩⟩⟩⟩⟩⟩⟩⟩⟩⟩⟩
theorem lw_p48 : lw_okq (⟨"FollowingCalfModel", "startWays", "(I)V"⟩, 24) := ⟨⟨by decide +kernel, by decide +kernel⟩, List.mem_of_getElem? (i := 793) (by decide +kernel), List.mem_of_getElem? (i := 1064) (by decide +kernel), List.mem_of_getElem? (i := 1065) (by decide +kernel)⟩
theorem lw_p49 : lw_okq (⟨"FollowingCalfModel", "bar", "(I)V"⟩, 24) := ⟨⟨by decide +kernel, by decide +kernel⟩, List.mem_of_getElem? (i := 793) (by decide +kernel), List.mem_of_getElem? (i := 1068) (by decide +kernel), List.mem_of_getElem? (i := 1069) (by decide +kernel)⟩
theorem lw_p50 : lw_okq (⟨"FollowingCalfModel", "goOn", "(IIZ)V"⟩, 24) := ⟨⟨by decide +kernel, by decide +kernel⟩, List.mem_of_getElem? (i := 793) (by decide +kernel), List.mem_of_getElem? (i := 1072) (by decide +kernel), List.mem_of_getElem? (i := 1073) (by decide +kernel)⟩
def lw_privs_4 : List (MethodName × Nat) := [(⟨"FollowingCalfModel", "startWays", "(I)V"⟩, 24), (⟨"FollowingCalfModel", "bar", "(I)V"⟩, 24), (⟨"FollowingCalfModel", "goOn", "(IIZ)V"⟩, 24)]
theorem lw_r4 : ∀ q ∈ lw_privs_4, lw_okq q := List.forall_mem_cons.mpr ⟨lw_p48, List.forall_mem_cons.mpr ⟨lw_p49, List.forall_mem_cons.mpr ⟨lw_p50, fun _ h => absurd h List.not_mem_nil⟩⟩⟩
def lw_privs : List (MethodName × Nat) := lw_privs_1 ++ (lw_privs_2 ++ (lw_privs_3 ++ (lw_privs_4)))
def lw_tbl : List Cond := k2_sels lw_privs ++ tables_1
theorem lw_privs_ok : ∀ q ∈ lw_privs, lw_okq q := by
  show ∀ q ∈ lw_privs_1 ++ (lw_privs_2 ++ (lw_privs_3 ++ (lw_privs_4))), lw_okq q
  exact List.forall_mem_append.mpr ⟨lw_r1, List.forall_mem_append.mpr ⟨lw_r2, List.forall_mem_append.mpr ⟨lw_r3, lw_r4⟩⟩⟩
end
section
def RX0 : String := "FollowingCalf$Contest"
def TX0 : u_T := fun k => match k with
  | _ => ("FollowingCalf$Contest", "rounds", "LFollowingCalf$Rounds;", true)
def tyX0 : Nat → FieldType := fun k => match k with
  | _ => .object "FollowingCalf$Rounds"
abbrev wsX00 : List Cond := u_ws RX0 TX0 1
theorem nmX0 : ∀ a, a < 1 → ∀ b, b < 1 → a ≠ b → (TX0 a).2.1 ≠ (TX0 b).2.1 := by decide +kernel
theorem tyX0_ok : ∀ k, k < 1 → parseFieldDescriptor (TX0 k).2.2.1 = some (tyX0 k) := by decide +kernel
abbrev cX0_init : ByteArray := prog_2_method_1_code
def yX0_init : MethodName := ⟨RX0, "<init>", "()V"⟩
abbrev cX0_opening : ByteArray := prog_2_method_2_code
def yX0_opening : MethodName := ⟨RX0, "opening", "(LFollowingCalf$Farm;LFollowingCalf$Moment;III)I"⟩
abbrev cX0_moversIn : ByteArray := prog_2_method_3_code
def yX0_moversIn : MethodName := ⟨RX0, "moversIn", "(LFollowingCalf$Farm;II)I"⟩
abbrev cX0_goForth : ByteArray := prog_2_method_4_code
def yX0_goForth : MethodName := ⟨RX0, "goForth", "(LFollowingCalf$Farm;III)V"⟩
abbrev cX0_addNext : ByteArray := prog_2_method_5_code
def yX0_addNext : MethodName := ⟨RX0, "addNext", "(LFollowingCalf$Farm;IIII)V"⟩
abbrev cX0_leaveThoseAt : ByteArray := prog_2_method_6_code
def yX0_leaveThoseAt : MethodName := ⟨RX0, "leaveThoseAt", "(LFollowingCalf$Farm;II)V"⟩
abbrev cX0_goBack : ByteArray := prog_2_method_7_code
def yX0_goBack : MethodName := ⟨RX0, "goBack", "(LFollowingCalf$Farm;III)V"⟩
abbrev cX0_choice : ByteArray := prog_2_method_8_code
def yX0_choice : MethodName := ⟨RX0, "choice", "(LFollowingCalf$Farm;IIIIZ)I"⟩
def RX1 : String := "FollowingCalf$Farm"
def TX1 : u_T := fun k => match k with
  | 0 => ("FollowingCalf$Farm", "distances", "[I", true)
  | 1 => ("FollowingCalf$Farm", "towards", "[I", true)
  | 2 => ("FollowingCalf$Farm", "costs", "[I", true)
  | 3 => ("FollowingCalf$Farm", "ways", "[I", true)
  | 4 => ("FollowingCalf$Farm", "wayLengths", "[I", true)
  | 5 => ("FollowingCalf$Farm", "yards", "I", false)
  | 6 => ("FollowingCalf$Farm", "persons", "I", false)
  | 7 => ("FollowingCalf$Farm", "forgetting", "I", false)
  | 8 => ("FollowingCalf$Farm", "start", "I", false)
  | _ => ("FollowingCalf$Farm", "laneTold", "Z", false)
def tyX1 : Nat → FieldType := fun k => match k with
  | 0 => .array .int
  | 1 => .array .int
  | 2 => .array .int
  | 3 => .array .int
  | 4 => .array .int
  | 5 => .int
  | 6 => .int
  | 7 => .int
  | 8 => .int
  | _ => .boolean
abbrev wsX10 : List Cond := u_ws RX1 TX1 10
theorem nmX1 : ∀ a, a < 10 → ∀ b, b < 10 → a ≠ b → (TX1 a).2.1 ≠ (TX1 b).2.1 := by decide +kernel
theorem tyX1_ok : ∀ k, k < 10 → parseFieldDescriptor (TX1 k).2.2.1 = some (tyX1 k) := by decide +kernel
abbrev cX1_init : ByteArray := prog_3_method_1_code
def yX1_init : MethodName := ⟨RX1, "<init>", "()V"⟩
abbrev cX1_clear : ByteArray := prog_3_method_2_code
def yX1_clear : MethodName := ⟨RX1, "clear", "()V"⟩
abbrev cX1_tellYards : ByteArray := prog_3_method_3_code
def yX1_tellYards : MethodName := ⟨RX1, "tellYards", "(I)Z"⟩
abbrev cX1_tellLane : ByteArray := prog_3_method_4_code
def yX1_tellLane : MethodName := ⟨RX1, "tellLane", "(II)Z"⟩
abbrev cX1_tellPerson : ByteArray := prog_3_method_5_code
def yX1_tellPerson : MethodName := ⟨RX1, "tellPerson", "(I)Z"⟩
abbrev cX1_tellForgetting : ByteArray := prog_3_method_6_code
def yX1_tellForgetting : MethodName := ⟨RX1, "tellForgetting", "(I)Z"⟩
abbrev cX1_tellStart : ByteArray := prog_3_method_7_code
def yX1_tellStart : MethodName := ⟨RX1, "tellStart", "(I)Z"⟩
abbrev cX1_beginWay : ByteArray := prog_3_method_8_code
def yX1_beginWay : MethodName := ⟨RX1, "beginWay", "()Z"⟩
abbrev cX1_addToWay : ByteArray := prog_3_method_9_code
def yX1_addToWay : MethodName := ⟨RX1, "addToWay", "(I)V"⟩
abbrev cX1_canBeLaid : ByteArray := prog_3_method_10_code
def yX1_canBeLaid : MethodName := ⟨RX1, "canBeLaid", "()Z"⟩
abbrev cX1_measure : ByteArray := prog_3_method_11_code
def yX1_measure : MethodName := ⟨RX1, "measure", "()V"⟩
abbrev cX1_lowestNearer : ByteArray := prog_3_method_12_code
def yX1_lowestNearer : MethodName := ⟨RX1, "lowestNearer", "(II)I"⟩
abbrev cX1_yards : ByteArray := prog_3_method_13_code
def yX1_yards : MethodName := ⟨RX1, "yards", "()I"⟩
abbrev cX1_persons : ByteArray := prog_3_method_14_code
def yX1_persons : MethodName := ⟨RX1, "persons", "()I"⟩
abbrev cX1_everybody : ByteArray := prog_3_method_15_code
def yX1_everybody : MethodName := ⟨RX1, "everybody", "()I"⟩
abbrev cX1_hasYard : ByteArray := prog_3_method_16_code
def yX1_hasYard : MethodName := ⟨RX1, "hasYard", "(I)Z"⟩
abbrev cX1_hasPerson : ByteArray := prog_3_method_17_code
def yX1_hasPerson : MethodName := ⟨RX1, "hasPerson", "(I)Z"⟩
abbrev cX1_cost : ByteArray := prog_3_method_18_code
def yX1_cost : MethodName := ⟨RX1, "cost", "(I)I"⟩
abbrev cX1_distance : ByteArray := prog_3_method_19_code
def yX1_distance : MethodName := ⟨RX1, "distance", "(II)I"⟩
abbrev cX1_yardAt : ByteArray := prog_3_method_20_code
def yX1_yardAt : MethodName := ⟨RX1, "yardAt", "(II)I"⟩
abbrev cX1_canFeed : ByteArray := prog_3_method_21_code
def yX1_canFeed : MethodName := ⟨RX1, "canFeed", "(III)Z"⟩
abbrev cX1_states : ByteArray := prog_3_method_22_code
def yX1_states : MethodName := ⟨RX1, "states", "()I"⟩
abbrev cX1_firstState : ByteArray := prog_3_method_23_code
def yX1_firstState : MethodName := ⟨RX1, "firstState", "()I"⟩
abbrev cX1_onward : ByteArray := prog_3_method_24_code
def yX1_onward : MethodName := ⟨RX1, "onward", "(II)I"⟩
abbrev cX1_towards : ByteArray := prog_3_method_25_code
def yX1_towards : MethodName := ⟨RX1, "towards", "(II)I"⟩
abbrev cX1_unfed : ByteArray := prog_3_method_26_code
def yX1_unfed : MethodName := ⟨RX1, "unfed", "(III)I"⟩
def RX2 : String := "FollowingCalf$Front"
def TX2 : u_T := fun k => match k with
  | 0 => ("FollowingCalf$Front", "states", "[I", true)
  | 1 => ("FollowingCalf$Front", "numbers", "[J", true)
  | _ => ("FollowingCalf$Front", "count", "I", false)
def tyX2 : Nat → FieldType := fun k => match k with
  | 0 => .array .int
  | 1 => .array .long
  | _ => .int
abbrev wsX20 : List Cond := u_ws RX2 TX2 3
theorem nmX2 : ∀ a, a < 3 → ∀ b, b < 3 → a ≠ b → (TX2 a).2.1 ≠ (TX2 b).2.1 := by decide +kernel
theorem tyX2_ok : ∀ k, k < 3 → parseFieldDescriptor (TX2 k).2.2.1 = some (tyX2 k) := by decide +kernel
abbrev cX2_init : ByteArray := prog_4_method_1_code
def yX2_init : MethodName := ⟨RX2, "<init>", "()V"⟩
abbrev cX2_size : ByteArray := prog_4_method_2_code
def yX2_size : MethodName := ⟨RX2, "size", "()I"⟩
abbrev cX2_state : ByteArray := prog_4_method_3_code
def yX2_state : MethodName := ⟨RX2, "state", "(I)I"⟩
abbrev cX2_number : ByteArray := prog_4_method_4_code
def yX2_number : MethodName := ⟨RX2, "number", "(I)J"⟩
abbrev cX2_clear : ByteArray := prog_4_method_5_code
def yX2_clear : MethodName := ⟨RX2, "clear", "()V"⟩
abbrev cX2_put : ByteArray := prog_4_method_6_code
def yX2_put : MethodName := ⟨RX2, "put", "(IJZ)V"⟩
abbrev cX2_keepThoseAt : ByteArray := prog_4_method_7_code
def yX2_keepThoseAt : MethodName := ⟨RX2, "keepThoseAt", "(I)V"⟩
abbrev cX2_least : ByteArray := prog_4_method_8_code
def yX2_least : MethodName := ⟨RX2, "least", "()J"⟩
abbrev cX2_sum : ByteArray := prog_4_method_9_code
def yX2_sum : MethodName := ⟨RX2, "sum", "()J"⟩
def RX3 : String := "FollowingCalf$Moment"
def TX3 : u_T := fun k => match k with
  | 0 => ("FollowingCalf$Moment", "minute", "I", false)
  | 1 => ("FollowingCalf$Moment", "state", "I", false)
  | _ => ("FollowingCalf$Moment", "feeds", "I", false)
def tyX3 : Nat → FieldType := fun k => match k with
  | 0 => .int
  | 1 => .int
  | _ => .int
abbrev wsX30 : List Cond := u_ws RX3 TX3 3
theorem nmX3 : ∀ a, a < 3 → ∀ b, b < 3 → a ≠ b → (TX3 a).2.1 ≠ (TX3 b).2.1 := by decide +kernel
theorem tyX3_ok : ∀ k, k < 3 → parseFieldDescriptor (TX3 k).2.2.1 = some (tyX3 k) := by decide +kernel
abbrev cX3_init : ByteArray := prog_5_method_1_code
def yX3_init : MethodName := ⟨RX3, "<init>", "()V"⟩
abbrev cX3_begin : ByteArray := prog_5_method_2_code
def yX3_begin : MethodName := ⟨RX3, "begin", "(LFollowingCalf$Farm;)V"⟩
def RX4 : String := "FollowingCalf$Moments"
def TX4 : u_T := fun k => match k with
  | 0 => ("FollowingCalf$Moments", "minutes", "[I", true)
  | 1 => ("FollowingCalf$Moments", "states", "[I", true)
  | 2 => ("FollowingCalf$Moments", "feeds", "[I", true)
  | _ => ("FollowingCalf$Moments", "count", "I", false)
def tyX4 : Nat → FieldType := fun k => match k with
  | 0 => .array .int
  | 1 => .array .int
  | 2 => .array .int
  | _ => .int
abbrev wsX40 : List Cond := u_ws RX4 TX4 4
theorem nmX4 : ∀ a, a < 4 → ∀ b, b < 4 → a ≠ b → (TX4 a).2.1 ≠ (TX4 b).2.1 := by decide +kernel
theorem tyX4_ok : ∀ k, k < 4 → parseFieldDescriptor (TX4 k).2.2.1 = some (tyX4 k) := by decide +kernel
abbrev cX4_init : ByteArray := prog_6_method_1_code
def yX4_init : MethodName := ⟨RX4, "<init>", "()V"⟩
abbrev cX4_size : ByteArray := prog_6_method_2_code
def yX4_size : MethodName := ⟨RX4, "size", "()I"⟩
abbrev cX4_clear : ByteArray := prog_6_method_3_code
def yX4_clear : MethodName := ⟨RX4, "clear", "()V"⟩
abbrev cX4_push : ByteArray := prog_6_method_4_code
def yX4_push : MethodName := ⟨RX4, "push", "(LFollowingCalf$Moment;)V"⟩
abbrev cX4_dropLowest : ByteArray := prog_6_method_5_code
def yX4_dropLowest : MethodName := ⟨RX4, "dropLowest", "()V"⟩
abbrev cX4_pop : ByteArray := prog_6_method_6_code
def yX4_pop : MethodName := ⟨RX4, "pop", "(LFollowingCalf$Moment;)V"⟩
def RX5 : String := "FollowingCalf$Reader"
def TX5 : u_T := fun k => match k with
  | 0 => ("FollowingCalf$Reader", "text", "LFollowingCalf$Text;", true)
  | _ => ("FollowingCalf$Reader", "place", "I", false)
def tyX5 : Nat → FieldType := fun k => match k with
  | 0 => .object "FollowingCalf$Text"
  | _ => .int
abbrev wsX50 : List Cond := u_ws RX5 TX5 2
theorem nmX5 : ∀ a, a < 2 → ∀ b, b < 2 → a ≠ b → (TX5 a).2.1 ≠ (TX5 b).2.1 := by decide +kernel
theorem tyX5_ok : ∀ k, k < 2 → parseFieldDescriptor (TX5 k).2.2.1 = some (tyX5 k) := by decide +kernel
abbrev cX5_init : ByteArray := prog_7_method_1_code
def yX5_init : MethodName := ⟨RX5, "<init>", "(LFollowingCalf$Text;)V"⟩
abbrev cX5_readInto : ByteArray := prog_7_method_2_code
def yX5_readInto : MethodName := ⟨RX5, "readInto", "(LFollowingCalf$Farm;)I"⟩
abbrev cX5_readItem : ByteArray := prog_7_method_3_code
def yX5_readItem : MethodName := ⟨RX5, "readItem", "(LFollowingCalf$Farm;)Z"⟩
abbrev cX5_readLane : ByteArray := prog_7_method_4_code
def yX5_readLane : MethodName := ⟨RX5, "readLane", "(LFollowingCalf$Farm;)Z"⟩
abbrev cX5_readWay : ByteArray := prog_7_method_5_code
def yX5_readWay : MethodName := ⟨RX5, "readWay", "(LFollowingCalf$Farm;)Z"⟩
abbrev cX5_readNumber : ByteArray := prog_7_method_6_code
def yX5_readNumber : MethodName := ⟨RX5, "readNumber", "()I"⟩
abbrev cX5_figureHere : ByteArray := prog_7_method_7_code
def yX5_figureHere : MethodName := ⟨RX5, "figureHere", "()I"⟩
abbrev cX5_takes : ByteArray := prog_7_method_8_code
def yX5_takes : MethodName := ⟨RX5, "takes", "(I)Z"⟩
def RX6 : String := "FollowingCalf$Rounds"
def TX6 : u_T := fun k => match k with
  | _ => ("FollowingCalf$Rounds", "words", "[I", true)
def tyX6 : Nat → FieldType := fun k => match k with
  | _ => .array .int
abbrev wsX60 : List Cond := u_ws RX6 TX6 1
theorem nmX6 : ∀ a, a < 1 → ∀ b, b < 1 → a ≠ b → (TX6 a).2.1 ≠ (TX6 b).2.1 := by decide +kernel
theorem tyX6_ok : ∀ k, k < 1 → parseFieldDescriptor (TX6 k).2.2.1 = some (tyX6 k) := by decide +kernel
abbrev cX6_init : ByteArray := prog_8_method_1_code
def yX6_init : MethodName := ⟨RX6, "<init>", "()V"⟩
abbrev cX6_clear : ByteArray := prog_8_method_2_code
def yX6_clear : MethodName := ⟨RX6, "clear", "()V"⟩
abbrev cX6_has : ByteArray := prog_8_method_3_code
def yX6_has : MethodName := ⟨RX6, "has", "(II)Z"⟩
abbrev cX6_add : ByteArray := prog_8_method_4_code
def yX6_add : MethodName := ⟨RX6, "add", "(II)V"⟩
abbrev cX6_remove : ByteArray := prog_8_method_5_code
def yX6_remove : MethodName := ⟨RX6, "remove", "(II)V"⟩
abbrev cX6_isOne : ByteArray := prog_8_method_6_code
def yX6_isOne : MethodName := ⟨RX6, "isOne", "(II)Z"⟩
def RX7 : String := "FollowingCalf$Search"
def TX7 : u_T := fun k => match k with
  | 0 => ("FollowingCalf$Search", "here", "LFollowingCalf$Front;", false)
  | 1 => ("FollowingCalf$Search", "next", "LFollowingCalf$Front;", false)
  | 2 => ("FollowingCalf$Search", "kind", "I", false)
  | 3 => ("FollowingCalf$Search", "leftOut", "I", false)
  | _ => ("FollowingCalf$Search", "opening", "Z", false)
def tyX7 : Nat → FieldType := fun k => match k with
  | 0 => .object "FollowingCalf$Front"
  | 1 => .object "FollowingCalf$Front"
  | 2 => .int
  | 3 => .int
  | _ => .boolean
abbrev wsX70 : List Cond := u_ws RX7 TX7 5
theorem nmX7 : ∀ a, a < 5 → ∀ b, b < 5 → a ≠ b → (TX7 a).2.1 ≠ (TX7 b).2.1 := by decide +kernel
theorem tyX7_ok : ∀ k, k < 5 → parseFieldDescriptor (TX7 k).2.2.1 = some (tyX7 k) := by decide +kernel
abbrev cX7_init : ByteArray := prog_9_method_1_code
def yX7_init : MethodName := ⟨RX7, "<init>", "()V"⟩
abbrev cX7_cheapest : ByteArray := prog_9_method_2_code
def yX7_cheapest : MethodName := ⟨RX7, "cheapest", "(LFollowingCalf$Farm;LFollowingCalf$Moment;LFollowingCalf$Told;)I"⟩
abbrev cX7_leastCost : ByteArray := prog_9_method_3_code
def yX7_leastCost : MethodName := ⟨RX7, "leastCost", "()I"⟩
abbrev cX7_firstFeeder : ByteArray := prog_9_method_4_code
def yX7_firstFeeder : MethodName := ⟨RX7, "firstFeeder", "()I"⟩
abbrev cX7_ways : ByteArray := prog_9_method_5_code
def yX7_ways : MethodName := ⟨RX7, "ways", "(LFollowingCalf$Farm;LFollowingCalf$Told;I)J"⟩
abbrev cX7_weight : ByteArray := prog_9_method_6_code
def yX7_weight : MethodName := ⟨RX7, "weight", "(LFollowingCalf$Farm;LFollowingCalf$Moment;II)J"⟩
abbrev cX7_begin : ByteArray := prog_9_method_7_code
def yX7_begin : MethodName := ⟨RX7, "begin", "(II)V"⟩
abbrev cX7_follow : ByteArray := prog_9_method_8_code
def yX7_follow : MethodName := ⟨RX7, "follow", "(LFollowingCalf$Farm;ILFollowingCalf$Told;)I"⟩
abbrev cX7_sieve : ByteArray := prog_9_method_9_code
def yX7_sieve : MethodName := ⟨RX7, "sieve", "(LFollowingCalf$Told;I)I"⟩
abbrev cX7_spread : ByteArray := prog_9_method_10_code
def yX7_spread : MethodName := ⟨RX7, "spread", "(LFollowingCalf$Farm;I)V"⟩
abbrev cX7_branch : ByteArray := prog_9_method_11_code
def yX7_branch : MethodName := ⟨RX7, "branch", "(LFollowingCalf$Farm;IJI)V"⟩
abbrev cX7_whenUnfed : ByteArray := prog_9_method_12_code
def yX7_whenUnfed : MethodName := ⟨RX7, "whenUnfed", "(JI)J"⟩
abbrev cX7_whenFed : ByteArray := prog_9_method_13_code
def yX7_whenFed : MethodName := ⟨RX7, "whenFed", "(LFollowingCalf$Farm;JII)J"⟩
abbrev cX7_feedersOf : ByteArray := prog_9_method_14_code
def yX7_feedersOf : MethodName := ⟨RX7, "feedersOf", "(LFollowingCalf$Farm;II)I"⟩
def RX8 : String := "FollowingCalf$Text"
def TX8 : u_T := fun k => match k with
  | 0 => ("FollowingCalf$Text", "bytes", "[B", true)
  | _ => ("FollowingCalf$Text", "length", "I", false)
def tyX8 : Nat → FieldType := fun k => match k with
  | 0 => .array .byte
  | _ => .int
abbrev wsX80 : List Cond := u_ws RX8 TX8 2
theorem nmX8 : ∀ a, a < 2 → ∀ b, b < 2 → a ≠ b → (TX8 a).2.1 ≠ (TX8 b).2.1 := by decide +kernel
theorem tyX8_ok : ∀ k, k < 2 → parseFieldDescriptor (TX8 k).2.2.1 = some (tyX8 k) := by decide +kernel
abbrev cX8_init : ByteArray := prog_10_method_1_code
def yX8_init : MethodName := ⟨RX8, "<init>", "()V"⟩
abbrev cX8_length : ByteArray := prog_10_method_2_code
def yX8_length : MethodName := ⟨RX8, "length", "()I"⟩
abbrev cX8_append : ByteArray := prog_10_method_3_code
def yX8_append : MethodName := ⟨RX8, "append", "(I)V"⟩
abbrev cX8_clear : ByteArray := prog_10_method_4_code
def yX8_clear : MethodName := ⟨RX8, "clear", "()V"⟩
abbrev cX8_byteAt : ByteArray := prog_10_method_5_code
def yX8_byteAt : MethodName := ⟨RX8, "byteAt", "(I)I"⟩
def RX9 : String := "FollowingCalf$Told"
def TX9 : u_T := fun k => match k with
  | 0 => ("FollowingCalf$Told", "yards", "[I", true)
  | 1 => ("FollowingCalf$Told", "minutes", "[I", true)
  | _ => ("FollowingCalf$Told", "count", "I", false)
def tyX9 : Nat → FieldType := fun k => match k with
  | 0 => .array .int
  | 1 => .array .int
  | _ => .int
abbrev wsX90 : List Cond := u_ws RX9 TX9 3
theorem nmX9 : ∀ a, a < 3 → ∀ b, b < 3 → a ≠ b → (TX9 a).2.1 ≠ (TX9 b).2.1 := by decide +kernel
theorem tyX9_ok : ∀ k, k < 3 → parseFieldDescriptor (TX9 k).2.2.1 = some (tyX9 k) := by decide +kernel
abbrev cX9_init : ByteArray := prog_11_method_1_code
def yX9_init : MethodName := ⟨RX9, "<init>", "()V"⟩
abbrev cX9_size : ByteArray := prog_11_method_2_code
def yX9_size : MethodName := ⟨RX9, "size", "()I"⟩
abbrev cX9_clear : ByteArray := prog_11_method_3_code
def yX9_clear : MethodName := ⟨RX9, "clear", "()I"⟩
abbrev cX9_add : ByteArray := prog_11_method_4_code
def yX9_add : MethodName := ⟨RX9, "add", "(II)I"⟩
abbrev cX9_lastMinute : ByteArray := prog_11_method_5_code
def yX9_lastMinute : MethodName := ⟨RX9, "lastMinute", "()I"⟩
abbrev cX9_isOf : ByteArray := prog_11_method_6_code
def yX9_isOf : MethodName := ⟨RX9, "isOf", "(II)Z"⟩
abbrev cX9_yard : ByteArray := prog_11_method_7_code
def yX9_yard : MethodName := ⟨RX9, "yard", "(I)I"⟩
def RX10 : String := "FollowingCalf"
def TX10 : u_T := fun k => match k with
  | 0 => ("FollowingCalf", "text", "LFollowingCalf$Text;", true)
  | 1 => ("FollowingCalf", "reader", "LFollowingCalf$Reader;", true)
  | 2 => ("FollowingCalf", "farm", "LFollowingCalf$Farm;", false)
  | 3 => ("FollowingCalf", "draft", "LFollowingCalf$Farm;", false)
  | 4 => ("FollowingCalf", "now", "LFollowingCalf$Moment;", true)
  | 5 => ("FollowingCalf", "done", "LFollowingCalf$Moments;", true)
  | 6 => ("FollowingCalf", "kept", "LFollowingCalf$Moments;", true)
  | 7 => ("FollowingCalf", "goals", "LFollowingCalf$Told;", true)
  | 8 => ("FollowingCalf", "sights", "LFollowingCalf$Told;", true)
  | 9 => ("FollowingCalf", "search", "LFollowingCalf$Search;", true)
  | _ => ("FollowingCalf", "contest", "LFollowingCalf$Contest;", true)
def tyX10 : Nat → FieldType := fun k => match k with
  | 0 => .object "FollowingCalf$Text"
  | 1 => .object "FollowingCalf$Reader"
  | 2 => .object "FollowingCalf$Farm"
  | 3 => .object "FollowingCalf$Farm"
  | 4 => .object "FollowingCalf$Moment"
  | 5 => .object "FollowingCalf$Moments"
  | 6 => .object "FollowingCalf$Moments"
  | 7 => .object "FollowingCalf$Told"
  | 8 => .object "FollowingCalf$Told"
  | 9 => .object "FollowingCalf$Search"
  | _ => .object "FollowingCalf$Contest"
abbrev wsX100 : List Cond := u_ws RX10 TX10 11
theorem nmX10 : ∀ a, a < 11 → ∀ b, b < 11 → a ≠ b → (TX10 a).2.1 ≠ (TX10 b).2.1 := by decide +kernel
theorem tyX10_ok : ∀ k, k < 11 → parseFieldDescriptor (TX10 k).2.2.1 = some (tyX10 k) := by decide +kernel
abbrev cX10_init : ByteArray := prog_1_method_1_code
def yX10_init : MethodName := ⟨RX10, "<init>", "()V"⟩
abbrev cX10_write : ByteArray := prog_1_method_2_code
def yX10_write : MethodName := ⟨RX10, "write", "(IJ)I"⟩
abbrev cX10_wipe : ByteArray := prog_1_method_3_code
def yX10_wipe : MethodName := ⟨RX10, "wipe", "()I"⟩
abbrev cX10_fault : ByteArray := prog_1_method_4_code
def yX10_fault : MethodName := ⟨RX10, "fault", "()I"⟩
abbrev cX10_lay : ByteArray := prog_1_method_5_code
def yX10_lay : MethodName := ⟨RX10, "lay", "()I"⟩
abbrev cX10_far : ByteArray := prog_1_method_6_code
def yX10_far : MethodName := ⟨RX10, "far", "(II)I"⟩
abbrev cX10_person : ByteArray := prog_1_method_7_code
def yX10_person : MethodName := ⟨RX10, "person", "(II)I"⟩
abbrev cX10_feed : ByteArray := prog_1_method_8_code
def yX10_feed : MethodName := ⟨RX10, "feed", "(I)I"⟩
abbrev cX10_pass : ByteArray := prog_1_method_9_code
def yX10_pass : MethodName := ⟨RX10, "pass", "(I)I"⟩
abbrev cX10_undo : ByteArray := prog_1_method_10_code
def yX10_undo : MethodName := ⟨RX10, "undo", "()I"⟩
abbrev cX10_calf : ByteArray := prog_1_method_11_code
def yX10_calf : MethodName := ⟨RX10, "calf", "(II)I"⟩
abbrev cX10_goal : ByteArray := prog_1_method_12_code
def yX10_goal : MethodName := ⟨RX10, "goal", "(II)I"⟩
abbrev cX10_noGoals : ByteArray := prog_1_method_13_code
def yX10_noGoals : MethodName := ⟨RX10, "noGoals", "()I"⟩
abbrev cX10_price : ByteArray := prog_1_method_14_code
def yX10_price : MethodName := ⟨RX10, "price", "()I"⟩
abbrev cX10_first : ByteArray := prog_1_method_15_code
def yX10_first : MethodName := ⟨RX10, "first", "()I"⟩
abbrev cX10_bars : ByteArray := prog_1_method_16_code
def yX10_bars : MethodName := ⟨RX10, "bars", "()I"⟩
abbrev cX10_game : ByteArray := prog_1_method_17_code
def yX10_game : MethodName := ⟨RX10, "game", "(IIII)I"⟩
abbrev cX10_seen : ByteArray := prog_1_method_18_code
def yX10_seen : MethodName := ⟨RX10, "seen", "(II)I"⟩
abbrev cX10_forget : ByteArray := prog_1_method_19_code
def yX10_forget : MethodName := ⟨RX10, "forget", "()I"⟩
abbrev cX10_how : ByteArray := prog_1_method_20_code
def yX10_how : MethodName := ⟨RX10, "how", "()J"⟩
abbrev cX10_sure : ByteArray := prog_1_method_21_code
def yX10_sure : MethodName := ⟨RX10, "sure", "(I)I"⟩
abbrev cX10_chance : ByteArray := prog_1_method_22_code
def yX10_chance : MethodName := ⟨RX10, "chance", "(III)J"⟩
abbrev cX10_year : ByteArray := prog_1_method_23_code
def yX10_year : MethodName := ⟨RX10, "year", "(III)I"⟩
abbrev cX10_keep : ByteArray := prog_1_method_24_code
def yX10_keep : MethodName := ⟨RX10, "keep", "()I"⟩
abbrev cX10_back : ByteArray := prog_1_method_25_code
def yX10_back : MethodName := ⟨RX10, "back", "()I"⟩
abbrev cX10_count : ByteArray := prog_1_method_26_code
def yX10_count : MethodName := ⟨RX10, "count", "(I)I"⟩
abbrev cX10_isFlag : ByteArray := prog_1_method_27_code
def yX10_isFlag : MethodName := ⟨RX10, "isFlag", "(I)Z"⟩
abbrev cX10_orNone : ByteArray := prog_1_method_28_code
def yX10_orNone : MethodName := ⟨RX10, "orNone", "(I)I"⟩
abbrev cX10_packed : ByteArray := prog_1_method_29_code
def yX10_packed : MethodName := ⟨RX10, "packed", "(III)I"⟩
abbrev cX10_yardOf : ByteArray := prog_1_method_30_code
def yX10_yardOf : MethodName := ⟨RX10, "yardOf", "(I)I"⟩
abbrev cX10_followedIn : ByteArray := prog_1_method_31_code
def yX10_followedIn : MethodName := ⟨RX10, "followedIn", "(I)I"⟩
abbrev cX10_ageIn : ByteArray := prog_1_method_32_code
def yX10_ageIn : MethodName := ⟨RX10, "ageIn", "(I)I"⟩
abbrev cX10_fedState : ByteArray := prog_1_method_33_code
def yX10_fedState : MethodName := ⟨RX10, "fedState", "(II)I"⟩
abbrev cX10_drawnFeeder : ByteArray := prog_1_method_34_code
def yX10_drawnFeeder : MethodName := ⟨RX10, "drawnFeeder", "(III)I"⟩
abbrev cX10_commonDivisor : ByteArray := prog_1_method_35_code
def yX10_commonDivisor : MethodName := ⟨RX10, "commonDivisor", "(JJ)J"⟩
def RX11 : String := "FollowingCalfModel"
def TX11 : u_T := fun k => match k with
  | 0 => ("FollowingCalfModel", "laid", "[I", true)
  | 1 => ("FollowingCalfModel", "dist", "[I", true)
  | 2 => ("FollowingCalfModel", "text", "[B", true)
  | 3 => ("FollowingCalfModel", "typed", "I", false)
  | 4 => ("FollowingCalfModel", "at", "I", false)
  | 5 => ("FollowingCalfModel", "isWrong", "Z", false)
  | 6 => ("FollowingCalfModel", "hasLane", "Z", false)
  | 7 => ("FollowingCalfModel", "now", "[I", true)
  | 8 => ("FollowingCalfModel", "before", "[I", true)
  | 9 => ("FollowingCalfModel", "deeds", "I", false)
  | 10 => ("FollowingCalfModel", "keeps", "[I", true)
  | 11 => ("FollowingCalfModel", "kept", "I", false)
  | 12 => ("FollowingCalfModel", "goalYard", "[I", true)
  | 13 => ("FollowingCalfModel", "goalAt", "[I", true)
  | 14 => ("FollowingCalfModel", "goals", "I", false)
  | 15 => ("FollowingCalfModel", "cost", "[I", true)
  | 16 => ("FollowingCalfModel", "then", "[I", true)
  | 17 => ("FollowingCalfModel", "isWon", "[Z", true)
  | 18 => ("FollowingCalfModel", "wonThen", "[Z", true)
  | 19 => ("FollowingCalfModel", "seenYard", "[I", true)
  | 20 => ("FollowingCalfModel", "seenAt", "[I", true)
  | 21 => ("FollowingCalfModel", "sights", "I", false)
  | 22 => ("FollowingCalfModel", "ways", "[J", true)
  | _ => ("FollowingCalfModel", "waysThen", "[J", true)
def tyX11 : Nat → FieldType := fun k => match k with
  | 0 => .array .int
  | 1 => .array .int
  | 2 => .array .byte
  | 3 => .int
  | 4 => .int
  | 5 => .boolean
  | 6 => .boolean
  | 7 => .array .int
  | 8 => .array .int
  | 9 => .int
  | 10 => .array .int
  | 11 => .int
  | 12 => .array .int
  | 13 => .array .int
  | 14 => .int
  | 15 => .array .int
  | 16 => .array .int
  | 17 => .array .boolean
  | 18 => .array .boolean
  | 19 => .array .int
  | 20 => .array .int
  | 21 => .int
  | 22 => .array .long
  | _ => .array .long
abbrev wsX110 : List Cond := u_ws RX11 TX11 24
theorem nmX11 : ∀ a, a < 24 → ∀ b, b < 24 → a ≠ b → (TX11 a).2.1 ≠ (TX11 b).2.1 := by decide +kernel
theorem tyX11_ok : ∀ k, k < 24 → parseFieldDescriptor (TX11 k).2.2.1 = some (tyX11 k) := by decide +kernel
abbrev cX11_init : ByteArray := prog_13_method_1_code
def yX11_init : MethodName := ⟨RX11, "<init>", "()V"⟩
abbrev cX11_in : ByteArray := prog_13_method_3_code
def yX11_in : MethodName := ⟨RX11, "in", "(III)Z"⟩
abbrev cX11_link : ByteArray := prog_13_method_4_code
def yX11_link : MethodName := ⟨RX11, "link", "(III)V"⟩
abbrev cX11_write : ByteArray := prog_13_method_5_code
def yX11_write : MethodName := ⟨RX11, "write", "(IJ)I"⟩
abbrev cX11_wipe : ByteArray := prog_13_method_6_code
def yX11_wipe : MethodName := ⟨RX11, "wipe", "()I"⟩
abbrev cX11_here : ByteArray := prog_13_method_7_code
def yX11_here : MethodName := ⟨RX11, "here", "()I"⟩
abbrev cX11_number : ByteArray := prog_13_method_8_code
def yX11_number : MethodName := ⟨RX11, "number", "(II)I"⟩
abbrev cX11_due : ByteArray := prog_13_method_9_code
def yX11_due : MethodName := ⟨RX11, "due", "(I)V"⟩
abbrev cX11_readWay : ByteArray := prog_13_method_10_code
def yX11_readWay : MethodName := ⟨RX11, "readWay", "()V"⟩
abbrev cX11_readItem : ByteArray := prog_13_method_11_code
def yX11_readItem : MethodName := ⟨RX11, "readItem", "()V"⟩
abbrev cX11_findFault : ByteArray := prog_13_method_12_code
def yX11_findFault : MethodName := ⟨RX11, "findFault", "()I"⟩
abbrev cX11_fault : ByteArray := prog_13_method_13_code
def yX11_fault : MethodName := ⟨RX11, "fault", "()I"⟩
abbrev cX11_lay : ByteArray := prog_13_method_14_code
def yX11_lay : MethodName := ⟨RX11, "lay", "()I"⟩
abbrev cX11_begin : ByteArray := prog_13_method_15_code
def yX11_begin : MethodName := ⟨RX11, "begin", "()V"⟩
abbrev cX11_isYard : ByteArray := prog_13_method_16_code
def yX11_isYard : MethodName := ⟨RX11, "isYard", "(I)Z"⟩
abbrev cX11_isPerson : ByteArray := prog_13_method_17_code
def yX11_isPerson : MethodName := ⟨RX11, "isPerson", "(I)Z"⟩
abbrev cX11_far : ByteArray := prog_13_method_18_code
def yX11_far : MethodName := ⟨RX11, "far", "(II)I"⟩
abbrev cX11_placeOf : ByteArray := prog_13_method_19_code
def yX11_placeOf : MethodName := ⟨RX11, "placeOf", "(II)I"⟩
abbrev cX11_person : ByteArray := prog_13_method_20_code
def yX11_person : MethodName := ⟨RX11, "person", "(II)I"⟩
abbrev cX11_yardOf : ByteArray := prog_13_method_21_code
def yX11_yardOf : MethodName := ⟨RX11, "yardOf", "(I)I"⟩
abbrev cX11_whomOf : ByteArray := prog_13_method_22_code
def yX11_whomOf : MethodName := ⟨RX11, "whomOf", "(I)I"⟩
abbrev cX11_fedBy : ByteArray := prog_13_method_23_code
def yX11_fedBy : MethodName := ⟨RX11, "fedBy", "(II)I"⟩
abbrev cX11_mayFeed : ByteArray := prog_13_method_24_code
def yX11_mayFeed : MethodName := ⟨RX11, "mayFeed", "(III)Z"⟩
abbrev cX11_after : ByteArray := prog_13_method_25_code
def yX11_after : MethodName := ⟨RX11, "after", "(II)I"⟩
abbrev cX11_know : ByteArray := prog_13_method_26_code
def yX11_know : MethodName := ⟨RX11, "know", "()V"⟩
abbrev cX11_feed : ByteArray := prog_13_method_27_code
def yX11_feed : MethodName := ⟨RX11, "feed", "(I)I"⟩
abbrev cX11_gone : ByteArray := prog_13_method_28_code
def yX11_gone : MethodName := ⟨RX11, "gone", "(III)I"⟩
abbrev cX11_pass : ByteArray := prog_13_method_29_code
def yX11_pass : MethodName := ⟨RX11, "pass", "(I)I"⟩
abbrev cX11_undo : ByteArray := prog_13_method_30_code
def yX11_undo : MethodName := ⟨RX11, "undo", "()I"⟩
abbrev cX11_calf : ByteArray := prog_13_method_31_code
def yX11_calf : MethodName := ⟨RX11, "calf", "(II)I"⟩
abbrev cX11_goal : ByteArray := prog_13_method_32_code
def yX11_goal : MethodName := ⟨RX11, "goal", "(II)I"⟩
abbrev cX11_noGoals : ByteArray := prog_13_method_33_code
def yX11_noGoals : MethodName := ⟨RX11, "noGoals", "()I"⟩
abbrev cX11_isUpTo : ByteArray := prog_13_method_34_code
def yX11_isUpTo : MethodName := ⟨RX11, "isUpTo", "(II)Z"⟩
abbrev cX11_fits : ByteArray := prog_13_method_35_code
def yX11_fits : MethodName := ⟨RX11, "fits", "(III)Z"⟩
abbrev cX11_costBy : ByteArray := prog_13_method_36_code
def yX11_costBy : MethodName := ⟨RX11, "costBy", "(III)I"⟩
abbrev cX11_leastOf : ByteArray := prog_13_method_37_code
def yX11_leastOf : MethodName := ⟨RX11, "leastOf", "(II)I"⟩
abbrev cX11_isState : ByteArray := prog_13_method_38_code
def yX11_isState : MethodName := ⟨RX11, "isState", "(I)Z"⟩
abbrev cX11_priceTo : ByteArray := prog_13_method_39_code
def yX11_priceTo : MethodName := ⟨RX11, "priceTo", "(I)I"⟩
abbrev cX11_lastGoal : ByteArray := prog_13_method_40_code
def yX11_lastGoal : MethodName := ⟨RX11, "lastGoal", "()I"⟩
abbrev cX11_price : ByteArray := prog_13_method_41_code
def yX11_price : MethodName := ⟨RX11, "price", "()I"⟩
abbrev cX11_first : ByteArray := prog_13_method_42_code
def yX11_first : MethodName := ⟨RX11, "first", "()I"⟩
abbrev cX11_bars : ByteArray := prog_13_method_43_code
def yX11_bars : MethodName := ⟨RX11, "bars", "()I"⟩
abbrev cX11_isWonBy : ByteArray := prog_13_method_44_code
def yX11_isWonBy : MethodName := ⟨RX11, "isWonBy", "(III)Z"⟩
abbrev cX11_canWin : ByteArray := prog_13_method_45_code
def yX11_canWin : MethodName := ⟨RX11, "canWin", "(III)Z"⟩
abbrev cX11_game : ByteArray := prog_13_method_46_code
def yX11_game : MethodName := ⟨RX11, "game", "(IIII)I"⟩
abbrev cX11_seen : ByteArray := prog_13_method_47_code
def yX11_seen : MethodName := ⟨RX11, "seen", "(II)I"⟩
abbrev cX11_forget : ByteArray := prog_13_method_48_code
def yX11_forget : MethodName := ⟨RX11, "forget", "()I"⟩
abbrev cX11_bar : ByteArray := prog_13_method_49_code
def yX11_bar : MethodName := ⟨RX11, "bar", "(I)V"⟩
abbrev cX11_goOn : ByteArray := prog_13_method_50_code
def yX11_goOn : MethodName := ⟨RX11, "goOn", "(IIZ)V"⟩
abbrev cX11_startWays : ByteArray := prog_13_method_51_code
def yX11_startWays : MethodName := ⟨RX11, "startWays", "(I)V"⟩
abbrev cX11_howBut : ByteArray := prog_13_method_52_code
def yX11_howBut : MethodName := ⟨RX11, "howBut", "(I)J"⟩
abbrev cX11_how : ByteArray := prog_13_method_53_code
def yX11_how : MethodName := ⟨RX11, "how", "()J"⟩
abbrev cX11_sure : ByteArray := prog_13_method_54_code
def yX11_sure : MethodName := ⟨RX11, "sure", "(I)I"⟩
abbrev cX11_chance : ByteArray := prog_13_method_55_code
def yX11_chance : MethodName := ⟨RX11, "chance", "(III)J"⟩
abbrev cX11_year : ByteArray := prog_13_method_56_code
def yX11_year : MethodName := ⟨RX11, "year", "(III)I"⟩
abbrev cX11_keep : ByteArray := prog_13_method_57_code
def yX11_keep : MethodName := ⟨RX11, "keep", "()I"⟩
abbrev cX11_back : ByteArray := prog_13_method_58_code
def yX11_back : MethodName := ⟨RX11, "back", "()I"⟩
abbrev cX11_count : ByteArray := prog_13_method_59_code
def yX11_count : MethodName := ⟨RX11, "count", "(I)I"⟩
def RJx145de : String := "java/io/Serializable"
def TJx145de : u_T := fun k => match k with
  | _ => ("", "", "", false)
def tyJx145de : Nat → FieldType := fun k => match k with
  | _ => .int
abbrev wsJx145de0 : List Cond := u_ws RJx145de TJx145de 0
theorem nmJx145de : ∀ a, a < 0 → ∀ b, b < 0 → a ≠ b → (TJx145de a).2.1 ≠ (TJx145de b).2.1 := by decide +kernel
theorem tyJx145de_ok : ∀ k, k < 0 → parseFieldDescriptor (TJx145de k).2.2.1 = some (tyJx145de k) := by decide +kernel
def RJx9f9b0 : String := "java/lang/CharSequence"
def TJx9f9b0 : u_T := fun k => match k with
  | _ => ("", "", "", false)
def tyJx9f9b0 : Nat → FieldType := fun k => match k with
  | _ => .int
abbrev wsJx9f9b00 : List Cond := u_ws RJx9f9b0 TJx9f9b0 0
theorem nmJx9f9b0 : ∀ a, a < 0 → ∀ b, b < 0 → a ≠ b → (TJx9f9b0 a).2.1 ≠ (TJx9f9b0 b).2.1 := by decide +kernel
theorem tyJx9f9b0_ok : ∀ k, k < 0 → parseFieldDescriptor (TJx9f9b0 k).2.2.1 = some (tyJx9f9b0 k) := by decide +kernel
def RJxb160c : String := "java/lang/Comparable"
def TJxb160c : u_T := fun k => match k with
  | _ => ("", "", "", false)
def tyJxb160c : Nat → FieldType := fun k => match k with
  | _ => .int
abbrev wsJxb160c0 : List Cond := u_ws RJxb160c TJxb160c 0
theorem nmJxb160c : ∀ a, a < 0 → ∀ b, b < 0 → a ≠ b → (TJxb160c a).2.1 ≠ (TJxb160c b).2.1 := by decide +kernel
theorem tyJxb160c_ok : ∀ k, k < 0 → parseFieldDescriptor (TJxb160c k).2.2.1 = some (tyJxb160c k) := by decide +kernel
def RJ9 : String := "java/lang/Math"
def TJ9 : u_T := fun k => match k with
  | _ => ("", "", "", false)
def tyJ9 : Nat → FieldType := fun k => match k with
  | _ => .int
abbrev wsJ90 : List Cond := u_ws RJ9 TJ9 0
theorem nmJ9 : ∀ a, a < 0 → ∀ b, b < 0 → a ≠ b → (TJ9 a).2.1 ≠ (TJ9 b).2.1 := by decide +kernel
theorem tyJ9_ok : ∀ k, k < 0 → parseFieldDescriptor (TJ9 k).2.2.1 = some (tyJ9 k) := by decide +kernel
abbrev cJ9_max_7cf53 : ByteArray := prog_14_method_65_code
def yJ9_max_7cf53 : MethodName := ⟨RJ9, "max", "(II)I"⟩
abbrev cJ9_min_f86c9 : ByteArray := prog_14_method_70_code
def yJ9_min_f86c9 : MethodName := ⟨RJ9, "min", "(JJ)J"⟩
def RJ0 : String := "java/lang/String"
def TJ0 : u_T := fun k => match k with
  | _ => ("", "", "", false)
def tyJ0 : Nat → FieldType := fun k => match k with
  | _ => .int
abbrev wsJ00 : List Cond := u_ws RJ0 TJ0 0
theorem nmJ0 : ∀ a, a < 0 → ∀ b, b < 0 → a ≠ b → (TJ0 a).2.1 ≠ (TJ0 b).2.1 := by decide +kernel
theorem tyJ0_ok : ∀ k, k < 0 → parseFieldDescriptor (TJ0 k).2.2.1 = some (tyJ0 k) := by decide +kernel
abbrev cJ0_length_8abf5 : ByteArray := prog_15_method_54_code
def yJ0_length_8abf5 : MethodName := ⟨RJ0, "length", "()I"⟩
abbrev cJ0_charAt_5068e : ByteArray := prog_15_method_56_code
def yJ0_charAt_5068e : MethodName := ⟨RJ0, "charAt", "(I)C"⟩
abbrev cJ0_coder_7d493 : ByteArray := prog_15_method_152_code
def yJ0_coder_7d493 : MethodName := ⟨RJ0, "coder", "()B"⟩
abbrev cJ0_isLatin1_aae02 : ByteArray := prog_15_method_154_code
def yJ0_isLatin1_aae02 : MethodName := ⟨RJ0, "isLatin1", "()Z"⟩
abbrev cJ0_checkIndex_df160 : ByteArray := prog_15_method_155_code
def yJ0_checkIndex_df160 : MethodName := ⟨RJ0, "checkIndex", "(II)V"⟩
def RJ1 : String := "java/lang/StringLatin1"
def TJ1 : u_T := fun k => match k with
  | _ => ("", "", "", false)
def tyJ1 : Nat → FieldType := fun k => match k with
  | _ => .int
abbrev wsJ10 : List Cond := u_ws RJ1 TJ1 0
theorem nmJ1 : ∀ a, a < 0 → ∀ b, b < 0 → a ≠ b → (TJ1 a).2.1 ≠ (TJ1 b).2.1 := by decide +kernel
theorem tyJ1_ok : ∀ k, k < 0 → parseFieldDescriptor (TJ1 k).2.2.1 = some (tyJ1 k) := by decide +kernel
abbrev cJ1_charAt_3b067 : ByteArray := prog_16_method_2_code
def yJ1_charAt_3b067 : MethodName := ⟨RJ1, "charAt", "([BI)C"⟩
def RJ2 : String := "java/lang/StringUTF16"
def TJ2 : u_T := fun k => match k with
  | _ => ("", "", "", false)
def tyJ2 : Nat → FieldType := fun k => match k with
  | _ => .int
abbrev wsJ20 : List Cond := u_ws RJ2 TJ2 0
theorem nmJ2 : ∀ a, a < 0 → ∀ b, b < 0 → a ≠ b → (TJ2 a).2.1 ≠ (TJ2 b).2.1 := by decide +kernel
theorem tyJ2_ok : ∀ k, k < 0 → parseFieldDescriptor (TJ2 k).2.2.1 = some (tyJ2 k) := by decide +kernel
abbrev cJ2_getChar_3b067 : ByteArray := prog_17_method_5_code
def yJ2_getChar_3b067 : MethodName := ⟨RJ2, "getChar", "([BI)C"⟩
abbrev cJ2_length_9d52b : ByteArray := prog_17_method_6_code
def yJ2_length_9d52b : MethodName := ⟨RJ2, "length", "([B)I"⟩
abbrev cJ2_charAt_3b067 : ByteArray := prog_17_method_83_code
def yJ2_charAt_3b067 : MethodName := ⟨RJ2, "charAt", "([BI)C"⟩
abbrev cJ2_checkIndex_2214a : ByteArray := prog_17_method_91_code
def yJ2_checkIndex_2214a : MethodName := ⟨RJ2, "checkIndex", "(I[B)V"⟩
def RJxfd54e : String := "java/lang/constant/Constable"
def TJxfd54e : u_T := fun k => match k with
  | _ => ("", "", "", false)
def tyJxfd54e : Nat → FieldType := fun k => match k with
  | _ => .int
abbrev wsJxfd54e0 : List Cond := u_ws RJxfd54e TJxfd54e 0
theorem nmJxfd54e : ∀ a, a < 0 → ∀ b, b < 0 → a ≠ b → (TJxfd54e a).2.1 ≠ (TJxfd54e b).2.1 := by decide +kernel
theorem tyJxfd54e_ok : ∀ k, k < 0 → parseFieldDescriptor (TJxfd54e k).2.2.1 = some (tyJxfd54e k) := by decide +kernel
def RJx3cf43 : String := "java/lang/constant/ConstantDesc"
def TJx3cf43 : u_T := fun k => match k with
  | _ => ("", "", "", false)
def tyJx3cf43 : Nat → FieldType := fun k => match k with
  | _ => .int
abbrev wsJx3cf430 : List Cond := u_ws RJx3cf43 TJx3cf43 0
theorem nmJx3cf43 : ∀ a, a < 0 → ∀ b, b < 0 → a ≠ b → (TJx3cf43 a).2.1 ≠ (TJx3cf43 b).2.1 := by decide +kernel
theorem tyJx3cf43_ok : ∀ k, k < 0 → parseFieldDescriptor (TJx3cf43 k).2.2.1 = some (tyJx3cf43 k) := by decide +kernel
def RJ7 : String := "java/util/Arrays"
def TJ7 : u_T := fun k => match k with
  | _ => ("", "", "", false)
def tyJ7 : Nat → FieldType := fun k => match k with
  | _ => .int
abbrev wsJ70 : List Cond := u_ws RJ7 TJ7 0
theorem nmJ7 : ∀ a, a < 0 → ∀ b, b < 0 → a ≠ b → (TJ7 a).2.1 ≠ (TJ7 b).2.1 := by decide +kernel
theorem tyJ7_ok : ∀ k, k < 0 → parseFieldDescriptor (TJ7 k).2.2.1 = some (tyJ7 k) := by decide +kernel
abbrev cJ7_fill_d0a16 : ByteArray := prog_18_method_101_code
def yJ7_fill_d0a16 : MethodName := ⟨RJ7, "fill", "([JJ)V"⟩
abbrev cJ7_fill_53178 : ByteArray := prog_18_method_103_code
def yJ7_fill_53178 : MethodName := ⟨RJ7, "fill", "([II)V"⟩
def RJ3 : String := "jdk/internal/util/Preconditions"
def TJ3 : u_T := fun k => match k with
  | _ => ("", "", "", false)
def tyJ3 : Nat → FieldType := fun k => match k with
  | _ => .int
abbrev wsJ30 : List Cond := u_ws RJ3 TJ3 0
theorem nmJ3 : ∀ a, a < 0 → ∀ b, b < 0 → a ≠ b → (TJ3 a).2.1 ≠ (TJ3 b).2.1 := by decide +kernel
theorem tyJ3_ok : ∀ k, k < 0 → parseFieldDescriptor (TJ3 k).2.2.1 = some (tyJ3 k) := by decide +kernel
abbrev cJ3_checkIndex_8e157 : ByteArray := prog_19_method_11_code
def yJ3_checkIndex_8e157 : MethodName := ⟨RJ3, "checkIndex", "(IILjava/util/function/BiFunction;)I"⟩
def RL : String := "FollowingCalfLaw"
abbrev cL_law : ByteArray := code
def yL_law : MethodName := ⟨RL, "law", "([I)Z"⟩
abbrev vwCl : List vw_C := [(RX0, TX0, 1), (RX1, TX1, 10), (RX2, TX2, 3), (RX3, TX3, 3), (RX4, TX4, 4), (RX5, TX5, 2), (RX6, TX6, 1), (RX7, TX7, 5), (RX8, TX8, 2), (RX9, TX9, 3), (RX10, TX10, 11), (RX11, TX11, 24)]
end
section
theorem dX0_init_0 : decode cX0_init 0 = .ok (.aload_n 0, 1) := by decide +kernel
theorem dX0_init_1 : decode cX0_init 1 = .ok (.invokespecial 3, 3) := by decide +kernel
theorem dX0_init_4 : decode cX0_init 4 = .ok (.aload_n 0, 1) := by decide +kernel
theorem dX0_init_5 : decode cX0_init 5 = .ok (.new 9, 3) := by decide +kernel
theorem dX0_init_8 : decode cX0_init 8 = .ok (.dup, 1) := by decide +kernel
theorem dX0_init_9 : decode cX0_init 9 = .ok (.invokespecial 11, 3) := by decide +kernel
theorem dX0_init_12 : decode cX0_init 12 = .ok (.putfield 12, 3) := by decide +kernel
theorem dX0_init_15 : decode cX0_init 15 = .ok (.return_, 1) := by decide +kernel
theorem dX0_opening_0 : decode cX0_opening 0 = .ok (.aload_n 0, 1) := by decide +kernel
theorem dX0_opening_1 : decode cX0_opening 1 = .ok (.getfield 12, 3) := by decide +kernel
theorem dX0_opening_4 : decode cX0_opening 4 = .ok (.invokevirtual 18, 3) := by decide +kernel
theorem dX0_opening_7 : decode cX0_opening 7 = .ok (.aload_n 0, 1) := by decide +kernel
theorem dX0_opening_8 : decode cX0_opening 8 = .ok (.getfield 12, 3) := by decide +kernel
theorem dX0_opening_11 : decode cX0_opening 11 = .ok (.iconst 0, 1) := by decide +kernel
theorem dX0_opening_12 : decode cX0_opening 12 = .ok (.aload_n 2, 1) := by decide +kernel
theorem dX0_opening_13 : decode cX0_opening 13 = .ok (.getfield 21, 3) := by decide +kernel
theorem dX0_opening_16 : decode cX0_opening 16 = .ok (.invokevirtual 27, 3) := by decide +kernel
theorem dX0_opening_19 : decode cX0_opening 19 = .ok (.iconst 0, 1) := by decide +kernel
theorem dX0_opening_20 : decode cX0_opening 20 = .ok (.istore 6, 2) := by decide +kernel
theorem dX0_opening_22 : decode cX0_opening 22 = .ok (.iload 6, 2) := by decide +kernel
theorem dX0_opening_24 : decode cX0_opening 24 = .ok (.iload_n 3, 1) := by decide +kernel
theorem dX0_opening_25 : decode cX0_opening 25 = .ok (.if_icmp .ge 31, 3) := by decide +kernel
theorem dX0_opening_28 : decode cX0_opening 28 = .ok (.aload_n 0, 1) := by decide +kernel
theorem dX0_opening_29 : decode cX0_opening 29 = .ok (.aload_n 1, 1) := by decide +kernel
theorem dX0_opening_30 : decode cX0_opening 30 = .ok (.iload 6, 2) := by decide +kernel
theorem dX0_opening_32 : decode cX0_opening 32 = .ok (.aload_n 2, 1) := by decide +kernel
theorem dX0_opening_33 : decode cX0_opening 33 = .ok (.getfield 31, 3) := by decide +kernel
theorem dX0_opening_36 : decode cX0_opening 36 = .ok (.iload 6, 2) := by decide +kernel
theorem dX0_opening_38 : decode cX0_opening 38 = .ok (.iadd, 1) := by decide +kernel
theorem dX0_opening_39 : decode cX0_opening 39 = .ok (.aload_n 1, 1) := by decide +kernel
theorem dX0_opening_40 : decode cX0_opening 40 = .ok (.iload 6, 2) := by decide +kernel
theorem dX0_opening_42 : decode cX0_opening 42 = .ok (.iload 5, 2) := by decide +kernel
theorem dX0_opening_44 : decode cX0_opening 44 = .ok (.invokestatic 34, 3) := by decide +kernel
theorem dX0_opening_47 : decode cX0_opening 47 = .ok (.invokevirtual 38, 3) := by decide +kernel
theorem dX0_opening_50 : decode cX0_opening 50 = .ok (.iinc 6 1, 3) := by decide +kernel
theorem dX0_opening_53 : decode cX0_opening 53 = .ok (.goto (-31), 3) := by decide +kernel
theorem dX0_opening_56 : decode cX0_opening 56 = .ok (.aload_n 0, 1) := by decide +kernel
theorem dX0_opening_57 : decode cX0_opening 57 = .ok (.aload_n 1, 1) := by decide +kernel
theorem dX0_opening_58 : decode cX0_opening 58 = .ok (.iload_n 3, 1) := by decide +kernel
theorem dX0_opening_59 : decode cX0_opening 59 = .ok (.iload 4, 2) := by decide +kernel
theorem dX0_opening_61 : decode cX0_opening 61 = .ok (.invokevirtual 42, 3) := by decide +kernel
theorem dX0_opening_64 : decode cX0_opening 64 = .ok (.iload_n 3, 1) := by decide +kernel
theorem dX0_opening_65 : decode cX0_opening 65 = .ok (.iconst 1, 1) := by decide +kernel
theorem dX0_opening_66 : decode cX0_opening 66 = .ok (.isub, 1) := by decide +kernel
theorem dX0_opening_67 : decode cX0_opening 67 = .ok (.istore 6, 2) := by decide +kernel
theorem dX0_opening_69 : decode cX0_opening 69 = .ok (.iload 6, 2) := by decide +kernel
theorem dX0_opening_71 : decode cX0_opening 71 = .ok (.ifCond .le 31, 3) := by decide +kernel
theorem dX0_opening_74 : decode cX0_opening 74 = .ok (.aload_n 0, 1) := by decide +kernel
theorem dX0_opening_75 : decode cX0_opening 75 = .ok (.aload_n 1, 1) := by decide +kernel
theorem dX0_opening_76 : decode cX0_opening 76 = .ok (.iload 6, 2) := by decide +kernel
theorem dX0_opening_78 : decode cX0_opening 78 = .ok (.aload_n 2, 1) := by decide +kernel
theorem dX0_opening_79 : decode cX0_opening 79 = .ok (.getfield 31, 3) := by decide +kernel
theorem dX0_opening_82 : decode cX0_opening 82 = .ok (.iload 6, 2) := by decide +kernel
theorem dX0_opening_84 : decode cX0_opening 84 = .ok (.iadd, 1) := by decide +kernel
theorem dX0_opening_85 : decode cX0_opening 85 = .ok (.aload_n 1, 1) := by decide +kernel
theorem dX0_opening_86 : decode cX0_opening 86 = .ok (.iload 6, 2) := by decide +kernel
theorem dX0_opening_88 : decode cX0_opening 88 = .ok (.iload 5, 2) := by decide +kernel
theorem dX0_opening_90 : decode cX0_opening 90 = .ok (.invokestatic 34, 3) := by decide +kernel
theorem dX0_opening_93 : decode cX0_opening 93 = .ok (.invokevirtual 46, 3) := by decide +kernel
theorem dX0_opening_96 : decode cX0_opening 96 = .ok (.iinc 6 (-1), 3) := by decide +kernel
theorem dX0_opening_99 : decode cX0_opening 99 = .ok (.goto (-30), 3) := by decide +kernel
theorem dX0_opening_102 : decode cX0_opening 102 = .ok (.aload_n 0, 1) := by decide +kernel
theorem dX0_opening_103 : decode cX0_opening 103 = .ok (.aload_n 1, 1) := by decide +kernel
theorem dX0_opening_104 : decode cX0_opening 104 = .ok (.aload_n 2, 1) := by decide +kernel
theorem dX0_opening_105 : decode cX0_opening 105 = .ok (.getfield 21, 3) := by decide +kernel
theorem dX0_opening_108 : decode cX0_opening 108 = .ok (.iconst 0, 1) := by decide +kernel
theorem dX0_opening_109 : decode cX0_opening 109 = .ok (.aload_n 2, 1) := by decide +kernel
theorem dX0_opening_110 : decode cX0_opening 110 = .ok (.getfield 31, 3) := by decide +kernel
theorem dX0_opening_113 : decode cX0_opening 113 = .ok (.iload 5, 2) := by decide +kernel
theorem dX0_opening_115 : decode cX0_opening 115 = .ok (.iconst 1, 1) := by decide +kernel
theorem dX0_opening_116 : decode cX0_opening 116 = .ok (.invokevirtual 49, 3) := by decide +kernel
theorem dX0_opening_119 : decode cX0_opening 119 = .ok (.ireturn, 1) := by decide +kernel
theorem dX0_moversIn_0 : decode cX0_moversIn 0 = .ok (.iload_n 1, 1) := by decide +kernel
theorem dX0_moversIn_1 : decode cX0_moversIn 1 = .ok (.iconst 2, 1) := by decide +kernel
theorem dX0_moversIn_2 : decode cX0_moversIn 2 = .ok (.irem, 1) := by decide +kernel
theorem dX0_moversIn_3 : decode cX0_moversIn 3 = .ok (.ifCond .ne 7, 3) := by decide +kernel
theorem dX0_moversIn_6 : decode cX0_moversIn 6 = .ok (.iload_n 2, 1) := by decide +kernel
theorem dX0_moversIn_7 : decode cX0_moversIn 7 = .ok (.goto 11, 3) := by decide +kernel
theorem dX0_moversIn_10 : decode cX0_moversIn 10 = .ok (.aload_n 0, 1) := by decide +kernel
theorem dX0_moversIn_11 : decode cX0_moversIn 11 = .ok (.invokevirtual 53, 3) := by decide +kernel
theorem dX0_moversIn_14 : decode cX0_moversIn 14 = .ok (.iload_n 2, 1) := by decide +kernel
theorem dX0_moversIn_15 : decode cX0_moversIn 15 = .ok (.iconst (-1), 1) := by decide +kernel
theorem dX0_moversIn_16 : decode cX0_moversIn 16 = .ok (.ixor, 1) := by decide +kernel
theorem dX0_moversIn_17 : decode cX0_moversIn 17 = .ok (.iand, 1) := by decide +kernel
theorem dX0_moversIn_18 : decode cX0_moversIn 18 = .ok (.ireturn, 1) := by decide +kernel
theorem dX0_goForth_0 : decode cX0_goForth 0 = .ok (.iconst 0, 1) := by decide +kernel
theorem dX0_goForth_1 : decode cX0_goForth 1 = .ok (.istore 5, 2) := by decide +kernel
theorem dX0_goForth_3 : decode cX0_goForth 3 = .ok (.iload 5, 2) := by decide +kernel
theorem dX0_goForth_5 : decode cX0_goForth 5 = .ok (.aload_n 1, 1) := by decide +kernel
theorem dX0_goForth_6 : decode cX0_goForth 6 = .ok (.invokevirtual 59, 3) := by decide +kernel
theorem dX0_goForth_9 : decode cX0_goForth 9 = .ok (.if_icmp .ge 33, 3) := by decide +kernel
theorem dX0_goForth_12 : decode cX0_goForth 12 = .ok (.aload_n 0, 1) := by decide +kernel
theorem dX0_goForth_13 : decode cX0_goForth 13 = .ok (.getfield 12, 3) := by decide +kernel
theorem dX0_goForth_16 : decode cX0_goForth 16 = .ok (.iload_n 2, 1) := by decide +kernel
theorem dX0_goForth_17 : decode cX0_goForth 17 = .ok (.iload 5, 2) := by decide +kernel
theorem dX0_goForth_19 : decode cX0_goForth 19 = .ok (.invokevirtual 62, 3) := by decide +kernel
theorem dX0_goForth_22 : decode cX0_goForth 22 = .ok (.ifCond .eq 14, 3) := by decide +kernel
theorem dX0_goForth_25 : decode cX0_goForth 25 = .ok (.aload_n 0, 1) := by decide +kernel
theorem dX0_goForth_26 : decode cX0_goForth 26 = .ok (.aload_n 1, 1) := by decide +kernel
theorem dX0_goForth_27 : decode cX0_goForth 27 = .ok (.iload 5, 2) := by decide +kernel
theorem dX0_goForth_29 : decode cX0_goForth 29 = .ok (.iload_n 2, 1) := by decide +kernel
theorem dX0_goForth_30 : decode cX0_goForth 30 = .ok (.iload_n 3, 1) := by decide +kernel
theorem dX0_goForth_31 : decode cX0_goForth 31 = .ok (.iload 4, 2) := by decide +kernel
theorem dX0_goForth_33 : decode cX0_goForth 33 = .ok (.invokevirtual 66, 3) := by decide +kernel
theorem dX0_goForth_36 : decode cX0_goForth 36 = .ok (.iinc 5 1, 3) := by decide +kernel
theorem dX0_goForth_39 : decode cX0_goForth 39 = .ok (.goto (-36), 3) := by decide +kernel
theorem dX0_goForth_42 : decode cX0_goForth 42 = .ok (.return_, 1) := by decide +kernel
theorem dX0_addNext_0 : decode cX0_addNext 0 = .ok (.aload_n 0, 1) := by decide +kernel
theorem dX0_addNext_1 : decode cX0_addNext 1 = .ok (.getfield 12, 3) := by decide +kernel
theorem dX0_addNext_4 : decode cX0_addNext 4 = .ok (.iload_n 3, 1) := by decide +kernel
theorem dX0_addNext_5 : decode cX0_addNext 5 = .ok (.iconst 1, 1) := by decide +kernel
theorem dX0_addNext_6 : decode cX0_addNext 6 = .ok (.iadd, 1) := by decide +kernel
theorem dX0_addNext_7 : decode cX0_addNext 7 = .ok (.aload_n 1, 1) := by decide +kernel
theorem dX0_addNext_8 : decode cX0_addNext 8 = .ok (.iload_n 2, 1) := by decide +kernel
theorem dX0_addNext_9 : decode cX0_addNext 9 = .ok (.iload 4, 2) := by decide +kernel
theorem dX0_addNext_11 : decode cX0_addNext 11 = .ok (.iconst 1, 1) := by decide +kernel
theorem dX0_addNext_12 : decode cX0_addNext 12 = .ok (.iadd, 1) := by decide +kernel
theorem dX0_addNext_13 : decode cX0_addNext 13 = .ok (.invokevirtual 70, 3) := by decide +kernel
theorem dX0_addNext_16 : decode cX0_addNext 16 = .ok (.invokevirtual 27, 3) := by decide +kernel
theorem dX0_addNext_19 : decode cX0_addNext 19 = .ok (.iconst 0, 1) := by decide +kernel
theorem dX0_addNext_20 : decode cX0_addNext 20 = .ok (.istore 6, 2) := by decide +kernel
theorem dX0_addNext_22 : decode cX0_addNext 22 = .ok (.iload 6, 2) := by decide +kernel
theorem dX0_addNext_24 : decode cX0_addNext 24 = .ok (.aload_n 1, 1) := by decide +kernel
theorem dX0_addNext_25 : decode cX0_addNext 25 = .ok (.invokevirtual 74, 3) := by decide +kernel
theorem dX0_addNext_28 : decode cX0_addNext 28 = .ok (.if_icmp .ge 55, 3) := by decide +kernel
theorem dX0_addNext_31 : decode cX0_addNext 31 = .ok (.iload 5, 2) := by decide +kernel
theorem dX0_addNext_33 : decode cX0_addNext 33 = .ok (.iload 6, 2) := by decide +kernel
theorem dX0_addNext_35 : decode cX0_addNext 35 = .ok (.ishr, 1) := by decide +kernel
theorem dX0_addNext_36 : decode cX0_addNext 36 = .ok (.iconst 1, 1) := by decide +kernel
theorem dX0_addNext_37 : decode cX0_addNext 37 = .ok (.iand, 1) := by decide +kernel
theorem dX0_addNext_38 : decode cX0_addNext 38 = .ok (.ifCond .eq 39, 3) := by decide +kernel
theorem dX0_addNext_41 : decode cX0_addNext 41 = .ok (.aload_n 1, 1) := by decide +kernel
theorem dX0_addNext_42 : decode cX0_addNext 42 = .ok (.iload 6, 2) := by decide +kernel
theorem dX0_addNext_44 : decode cX0_addNext 44 = .ok (.iload_n 2, 1) := by decide +kernel
theorem dX0_addNext_45 : decode cX0_addNext 45 = .ok (.iload 4, 2) := by decide +kernel
theorem dX0_addNext_47 : decode cX0_addNext 47 = .ok (.invokevirtual 77, 3) := by decide +kernel
theorem dX0_addNext_50 : decode cX0_addNext 50 = .ok (.ifCond .eq 27, 3) := by decide +kernel
theorem dX0_addNext_53 : decode cX0_addNext 53 = .ok (.aload_n 0, 1) := by decide +kernel
theorem dX0_addNext_54 : decode cX0_addNext 54 = .ok (.getfield 12, 3) := by decide +kernel
theorem dX0_addNext_57 : decode cX0_addNext 57 = .ok (.iload_n 3, 1) := by decide +kernel
theorem dX0_addNext_58 : decode cX0_addNext 58 = .ok (.iconst 1, 1) := by decide +kernel
theorem dX0_addNext_59 : decode cX0_addNext 59 = .ok (.iadd, 1) := by decide +kernel
theorem dX0_addNext_60 : decode cX0_addNext 60 = .ok (.aload_n 1, 1) := by decide +kernel
theorem dX0_addNext_61 : decode cX0_addNext 61 = .ok (.iload_n 2, 1) := by decide +kernel
theorem dX0_addNext_62 : decode cX0_addNext 62 = .ok (.iload 6, 2) := by decide +kernel
theorem dX0_addNext_64 : decode cX0_addNext 64 = .ok (.invokestatic 81, 3) := by decide +kernel
theorem dX0_addNext_67 : decode cX0_addNext 67 = .ok (.iload 4, 2) := by decide +kernel
theorem dX0_addNext_69 : decode cX0_addNext 69 = .ok (.iconst 1, 1) := by decide +kernel
theorem dX0_addNext_70 : decode cX0_addNext 70 = .ok (.iadd, 1) := by decide +kernel
theorem dX0_addNext_71 : decode cX0_addNext 71 = .ok (.invokevirtual 70, 3) := by decide +kernel
theorem dX0_addNext_74 : decode cX0_addNext 74 = .ok (.invokevirtual 27, 3) := by decide +kernel
theorem dX0_addNext_77 : decode cX0_addNext 77 = .ok (.iinc 6 1, 3) := by decide +kernel
theorem dX0_addNext_80 : decode cX0_addNext 80 = .ok (.goto (-58), 3) := by decide +kernel
theorem dX0_addNext_83 : decode cX0_addNext 83 = .ok (.return_, 1) := by decide +kernel
theorem dX0_leaveThoseAt_0 : decode cX0_leaveThoseAt 0 = .ok (.iconst 0, 1) := by decide +kernel
theorem dX0_leaveThoseAt_1 : decode cX0_leaveThoseAt 1 = .ok (.istore 4, 2) := by decide +kernel
theorem dX0_leaveThoseAt_3 : decode cX0_leaveThoseAt 3 = .ok (.iload 4, 2) := by decide +kernel
theorem dX0_leaveThoseAt_5 : decode cX0_leaveThoseAt 5 = .ok (.aload_n 1, 1) := by decide +kernel
theorem dX0_leaveThoseAt_6 : decode cX0_leaveThoseAt 6 = .ok (.invokevirtual 59, 3) := by decide +kernel
theorem dX0_leaveThoseAt_9 : decode cX0_leaveThoseAt 9 = .ok (.if_icmp .ge 28, 3) := by decide +kernel
theorem dX0_leaveThoseAt_12 : decode cX0_leaveThoseAt 12 = .ok (.iload 4, 2) := by decide +kernel
theorem dX0_leaveThoseAt_14 : decode cX0_leaveThoseAt 14 = .ok (.invokestatic 84, 3) := by decide +kernel
theorem dX0_leaveThoseAt_17 : decode cX0_leaveThoseAt 17 = .ok (.iload_n 3, 1) := by decide +kernel
theorem dX0_leaveThoseAt_18 : decode cX0_leaveThoseAt 18 = .ok (.if_icmp .eq 13, 3) := by decide +kernel
theorem dX0_leaveThoseAt_21 : decode cX0_leaveThoseAt 21 = .ok (.aload_n 0, 1) := by decide +kernel
theorem dX0_leaveThoseAt_22 : decode cX0_leaveThoseAt 22 = .ok (.getfield 12, 3) := by decide +kernel
theorem dX0_leaveThoseAt_25 : decode cX0_leaveThoseAt 25 = .ok (.iload_n 2, 1) := by decide +kernel
theorem dX0_leaveThoseAt_26 : decode cX0_leaveThoseAt 26 = .ok (.iload 4, 2) := by decide +kernel
theorem dX0_leaveThoseAt_28 : decode cX0_leaveThoseAt 28 = .ok (.invokevirtual 88, 3) := by decide +kernel
theorem dX0_leaveThoseAt_31 : decode cX0_leaveThoseAt 31 = .ok (.iinc 4 1, 3) := by decide +kernel
theorem dX0_leaveThoseAt_34 : decode cX0_leaveThoseAt 34 = .ok (.goto (-31), 3) := by decide +kernel
theorem dX0_leaveThoseAt_37 : decode cX0_leaveThoseAt 37 = .ok (.return_, 1) := by decide +kernel
theorem dX0_goBack_0 : decode cX0_goBack 0 = .ok (.iload_n 2, 1) := by decide +kernel
theorem dX0_goBack_1 : decode cX0_goBack 1 = .ok (.iconst 2, 1) := by decide +kernel
theorem dX0_goBack_2 : decode cX0_goBack 2 = .ok (.irem, 1) := by decide +kernel
theorem dX0_goBack_3 : decode cX0_goBack 3 = .ok (.ifCond .ne 7, 3) := by decide +kernel
theorem dX0_goBack_6 : decode cX0_goBack 6 = .ok (.iconst 1, 1) := by decide +kernel
theorem dX0_goBack_7 : decode cX0_goBack 7 = .ok (.goto 4, 3) := by decide +kernel
theorem dX0_goBack_10 : decode cX0_goBack 10 = .ok (.iconst 0, 1) := by decide +kernel
theorem dX0_goBack_11 : decode cX0_goBack 11 = .ok (.istore 5, 2) := by decide +kernel
theorem dX0_goBack_13 : decode cX0_goBack 13 = .ok (.iconst 0, 1) := by decide +kernel
theorem dX0_goBack_14 : decode cX0_goBack 14 = .ok (.istore 6, 2) := by decide +kernel
theorem dX0_goBack_16 : decode cX0_goBack 16 = .ok (.iload 6, 2) := by decide +kernel
theorem dX0_goBack_18 : decode cX0_goBack 18 = .ok (.aload_n 1, 1) := by decide +kernel
theorem dX0_goBack_19 : decode cX0_goBack 19 = .ok (.invokevirtual 59, 3) := by decide +kernel
theorem dX0_goBack_22 : decode cX0_goBack 22 = .ok (.if_icmp .ge 64, 3) := by decide +kernel
theorem dX0_goBack_25 : decode cX0_goBack 25 = .ok (.aload_n 0, 1) := by decide +kernel
theorem dX0_goBack_26 : decode cX0_goBack 26 = .ok (.getfield 12, 3) := by decide +kernel
theorem dX0_goBack_29 : decode cX0_goBack 29 = .ok (.iload_n 2, 1) := by decide +kernel
theorem dX0_goBack_30 : decode cX0_goBack 30 = .ok (.iload 6, 2) := by decide +kernel
theorem dX0_goBack_32 : decode cX0_goBack 32 = .ok (.invokevirtual 62, 3) := by decide +kernel
theorem dX0_goBack_35 : decode cX0_goBack 35 = .ok (.ifCond .eq 45, 3) := by decide +kernel
theorem dX0_goBack_38 : decode cX0_goBack 38 = .ok (.aload_n 0, 1) := by decide +kernel
theorem dX0_goBack_39 : decode cX0_goBack 39 = .ok (.aload_n 1, 1) := by decide +kernel
theorem dX0_goBack_40 : decode cX0_goBack 40 = .ok (.iload 6, 2) := by decide +kernel
theorem dX0_goBack_42 : decode cX0_goBack 42 = .ok (.iload_n 2, 1) := by decide +kernel
theorem dX0_goBack_43 : decode cX0_goBack 43 = .ok (.iload_n 3, 1) := by decide +kernel
theorem dX0_goBack_44 : decode cX0_goBack 44 = .ok (.iload 4, 2) := by decide +kernel
theorem dX0_goBack_46 : decode cX0_goBack 46 = .ok (.iload 5, 2) := by decide +kernel
theorem dX0_goBack_48 : decode cX0_goBack 48 = .ok (.invokevirtual 49, 3) := by decide +kernel
theorem dX0_goBack_51 : decode cX0_goBack 51 = .ok (.bipush (-2), 2) := by decide +kernel
theorem dX0_goBack_53 : decode cX0_goBack 53 = .ok (.if_icmp .eq 7, 3) := by decide +kernel
theorem dX0_goBack_56 : decode cX0_goBack 56 = .ok (.iconst 1, 1) := by decide +kernel
theorem dX0_goBack_57 : decode cX0_goBack 57 = .ok (.goto 4, 3) := by decide +kernel
theorem dX0_goBack_60 : decode cX0_goBack 60 = .ok (.iconst 0, 1) := by decide +kernel
theorem dX0_goBack_61 : decode cX0_goBack 61 = .ok (.istore 7, 2) := by decide +kernel
theorem dX0_goBack_63 : decode cX0_goBack 63 = .ok (.iload 7, 2) := by decide +kernel
theorem dX0_goBack_65 : decode cX0_goBack 65 = .ok (.iload 5, 2) := by decide +kernel
theorem dX0_goBack_67 : decode cX0_goBack 67 = .ok (.if_icmp .eq 13, 3) := by decide +kernel
theorem dX0_goBack_70 : decode cX0_goBack 70 = .ok (.aload_n 0, 1) := by decide +kernel
theorem dX0_goBack_71 : decode cX0_goBack 71 = .ok (.getfield 12, 3) := by decide +kernel
theorem dX0_goBack_74 : decode cX0_goBack 74 = .ok (.iload_n 2, 1) := by decide +kernel
theorem dX0_goBack_75 : decode cX0_goBack 75 = .ok (.iload 6, 2) := by decide +kernel
theorem dX0_goBack_77 : decode cX0_goBack 77 = .ok (.invokevirtual 88, 3) := by decide +kernel
theorem dX0_goBack_80 : decode cX0_goBack 80 = .ok (.iinc 6 1, 3) := by decide +kernel
theorem dX0_goBack_83 : decode cX0_goBack 83 = .ok (.goto (-67), 3) := by decide +kernel
theorem dX0_goBack_86 : decode cX0_goBack 86 = .ok (.return_, 1) := by decide +kernel
theorem dX0_choice_0 : decode cX0_choice 0 = .ok (.aload_n 0, 1) := by decide +kernel
theorem dX0_choice_1 : decode cX0_choice 1 = .ok (.getfield 12, 3) := by decide +kernel
theorem dX0_choice_4 : decode cX0_choice 4 = .ok (.iload_n 3, 1) := by decide +kernel
theorem dX0_choice_5 : decode cX0_choice 5 = .ok (.iconst 1, 1) := by decide +kernel
theorem dX0_choice_6 : decode cX0_choice 6 = .ok (.iadd, 1) := by decide +kernel
theorem dX0_choice_7 : decode cX0_choice 7 = .ok (.aload_n 1, 1) := by decide +kernel
theorem dX0_choice_8 : decode cX0_choice 8 = .ok (.iload_n 2, 1) := by decide +kernel
theorem dX0_choice_9 : decode cX0_choice 9 = .ok (.iload 4, 2) := by decide +kernel
theorem dX0_choice_11 : decode cX0_choice 11 = .ok (.iconst 1, 1) := by decide +kernel
theorem dX0_choice_12 : decode cX0_choice 12 = .ok (.iadd, 1) := by decide +kernel
theorem dX0_choice_13 : decode cX0_choice 13 = .ok (.invokevirtual 70, 3) := by decide +kernel
theorem dX0_choice_16 : decode cX0_choice 16 = .ok (.invokevirtual 62, 3) := by decide +kernel
theorem dX0_choice_19 : decode cX0_choice 19 = .ok (.iload 6, 2) := by decide +kernel
theorem dX0_choice_21 : decode cX0_choice 21 = .ok (.if_icmp .ne 5, 3) := by decide +kernel
theorem dX0_choice_24 : decode cX0_choice 24 = .ok (.iconst (-1), 1) := by decide +kernel
theorem dX0_choice_25 : decode cX0_choice 25 = .ok (.ireturn, 1) := by decide +kernel
theorem dX0_choice_26 : decode cX0_choice 26 = .ok (.iconst 0, 1) := by decide +kernel
theorem dX0_choice_27 : decode cX0_choice 27 = .ok (.istore 7, 2) := by decide +kernel
theorem dX0_choice_29 : decode cX0_choice 29 = .ok (.iload 7, 2) := by decide +kernel
theorem dX0_choice_31 : decode cX0_choice 31 = .ok (.aload_n 1, 1) := by decide +kernel
theorem dX0_choice_32 : decode cX0_choice 32 = .ok (.invokevirtual 74, 3) := by decide +kernel
theorem dX0_choice_35 : decode cX0_choice 35 = .ok (.if_icmp .ge 63, 3) := by decide +kernel
theorem dX0_choice_38 : decode cX0_choice 38 = .ok (.iload 5, 2) := by decide +kernel
theorem dX0_choice_40 : decode cX0_choice 40 = .ok (.iload 7, 2) := by decide +kernel
theorem dX0_choice_42 : decode cX0_choice 42 = .ok (.ishr, 1) := by decide +kernel
theorem dX0_choice_43 : decode cX0_choice 43 = .ok (.iconst 1, 1) := by decide +kernel
theorem dX0_choice_44 : decode cX0_choice 44 = .ok (.iand, 1) := by decide +kernel
theorem dX0_choice_45 : decode cX0_choice 45 = .ok (.ifCond .eq 47, 3) := by decide +kernel
theorem dX0_choice_48 : decode cX0_choice 48 = .ok (.aload_n 1, 1) := by decide +kernel
theorem dX0_choice_49 : decode cX0_choice 49 = .ok (.iload 7, 2) := by decide +kernel
theorem dX0_choice_51 : decode cX0_choice 51 = .ok (.iload_n 2, 1) := by decide +kernel
theorem dX0_choice_52 : decode cX0_choice 52 = .ok (.iload 4, 2) := by decide +kernel
theorem dX0_choice_54 : decode cX0_choice 54 = .ok (.invokevirtual 77, 3) := by decide +kernel
theorem dX0_choice_57 : decode cX0_choice 57 = .ok (.ifCond .eq 35, 3) := by decide +kernel
theorem dX0_choice_60 : decode cX0_choice 60 = .ok (.aload_n 0, 1) := by decide +kernel
theorem dX0_choice_61 : decode cX0_choice 61 = .ok (.getfield 12, 3) := by decide +kernel
theorem dX0_choice_64 : decode cX0_choice 64 = .ok (.iload_n 3, 1) := by decide +kernel
theorem dX0_choice_65 : decode cX0_choice 65 = .ok (.iconst 1, 1) := by decide +kernel
theorem dX0_choice_66 : decode cX0_choice 66 = .ok (.iadd, 1) := by decide +kernel
theorem dX0_choice_67 : decode cX0_choice 67 = .ok (.aload_n 1, 1) := by decide +kernel
theorem dX0_choice_68 : decode cX0_choice 68 = .ok (.iload_n 2, 1) := by decide +kernel
theorem dX0_choice_69 : decode cX0_choice 69 = .ok (.iload 7, 2) := by decide +kernel
theorem dX0_choice_71 : decode cX0_choice 71 = .ok (.invokestatic 81, 3) := by decide +kernel
theorem dX0_choice_74 : decode cX0_choice 74 = .ok (.iload 4, 2) := by decide +kernel
theorem dX0_choice_76 : decode cX0_choice 76 = .ok (.iconst 1, 1) := by decide +kernel
theorem dX0_choice_77 : decode cX0_choice 77 = .ok (.iadd, 1) := by decide +kernel
theorem dX0_choice_78 : decode cX0_choice 78 = .ok (.invokevirtual 70, 3) := by decide +kernel
theorem dX0_choice_81 : decode cX0_choice 81 = .ok (.invokevirtual 62, 3) := by decide +kernel
theorem dX0_choice_84 : decode cX0_choice 84 = .ok (.iload 6, 2) := by decide +kernel
theorem dX0_choice_86 : decode cX0_choice 86 = .ok (.if_icmp .ne 6, 3) := by decide +kernel
theorem dX0_choice_89 : decode cX0_choice 89 = .ok (.iload 7, 2) := by decide +kernel
theorem dX0_choice_91 : decode cX0_choice 91 = .ok (.ireturn, 1) := by decide +kernel
theorem dX0_choice_92 : decode cX0_choice 92 = .ok (.iinc 7 1, 3) := by decide +kernel
theorem dX0_choice_95 : decode cX0_choice 95 = .ok (.goto (-66), 3) := by decide +kernel
theorem dX0_choice_98 : decode cX0_choice 98 = .ok (.bipush (-2), 2) := by decide +kernel
theorem dX0_choice_100 : decode cX0_choice 100 = .ok (.ireturn, 1) := by decide +kernel
theorem dX1_init_0 : decode cX1_init 0 = .ok (.aload_n 0, 1) := by decide +kernel
theorem dX1_init_1 : decode cX1_init 1 = .ok (.invokespecial 3, 3) := by decide +kernel
theorem dX1_init_4 : decode cX1_init 4 = .ok (.aload_n 0, 1) := by decide +kernel
theorem dX1_init_5 : decode cX1_init 5 = .ok (.bipush 64, 2) := by decide +kernel
theorem dX1_init_7 : decode cX1_init 7 = .ok (.newarray .int, 2) := by decide +kernel
theorem dX1_init_9 : decode cX1_init 9 = .ok (.putfield 9, 3) := by decide +kernel
theorem dX1_init_12 : decode cX1_init 12 = .ok (.aload_n 0, 1) := by decide +kernel
theorem dX1_init_13 : decode cX1_init 13 = .ok (.bipush 64, 2) := by decide +kernel
theorem dX1_init_15 : decode cX1_init 15 = .ok (.newarray .int, 2) := by decide +kernel
theorem dX1_init_17 : decode cX1_init 17 = .ok (.putfield 15, 3) := by decide +kernel
theorem dX1_init_20 : decode cX1_init 20 = .ok (.aload_n 0, 1) := by decide +kernel
theorem dX1_init_21 : decode cX1_init 21 = .ok (.iconst 5, 1) := by decide +kernel
theorem dX1_init_22 : decode cX1_init 22 = .ok (.newarray .int, 2) := by decide +kernel
theorem dX1_init_24 : decode cX1_init 24 = .ok (.putfield 18, 3) := by decide +kernel
theorem dX1_init_27 : decode cX1_init 27 = .ok (.aload_n 0, 1) := by decide +kernel
theorem dX1_init_28 : decode cX1_init 28 = .ok (.bipush 60, 2) := by decide +kernel
theorem dX1_init_30 : decode cX1_init 30 = .ok (.newarray .int, 2) := by decide +kernel
theorem dX1_init_32 : decode cX1_init 32 = .ok (.putfield 21, 3) := by decide +kernel
theorem dX1_init_35 : decode cX1_init 35 = .ok (.aload_n 0, 1) := by decide +kernel
theorem dX1_init_36 : decode cX1_init 36 = .ok (.iconst 5, 1) := by decide +kernel
theorem dX1_init_37 : decode cX1_init 37 = .ok (.newarray .int, 2) := by decide +kernel
theorem dX1_init_39 : decode cX1_init 39 = .ok (.putfield 24, 3) := by decide +kernel
theorem dX1_init_42 : decode cX1_init 42 = .ok (.return_, 1) := by decide +kernel
theorem dX1_clear_0 : decode cX1_clear 0 = .ok (.aload_n 0, 1) := by decide +kernel
theorem dX1_clear_1 : decode cX1_clear 1 = .ok (.iconst 4, 1) := by decide +kernel
theorem dX1_clear_2 : decode cX1_clear 2 = .ok (.putfield 27, 3) := by decide +kernel
theorem dX1_clear_5 : decode cX1_clear 5 = .ok (.aload_n 0, 1) := by decide +kernel
theorem dX1_clear_6 : decode cX1_clear 6 = .ok (.iconst 0, 1) := by decide +kernel
theorem dX1_clear_7 : decode cX1_clear 7 = .ok (.putfield 31, 3) := by decide +kernel
theorem dX1_clear_10 : decode cX1_clear 10 = .ok (.aload_n 0, 1) := by decide +kernel
theorem dX1_clear_11 : decode cX1_clear 11 = .ok (.iconst 0, 1) := by decide +kernel
theorem dX1_clear_12 : decode cX1_clear 12 = .ok (.putfield 34, 3) := by decide +kernel
theorem dX1_clear_15 : decode cX1_clear 15 = .ok (.aload_n 0, 1) := by decide +kernel
theorem dX1_clear_16 : decode cX1_clear 16 = .ok (.iconst 0, 1) := by decide +kernel
theorem dX1_clear_17 : decode cX1_clear 17 = .ok (.putfield 37, 3) := by decide +kernel
theorem dX1_clear_20 : decode cX1_clear 20 = .ok (.aload_n 0, 1) := by decide +kernel
theorem dX1_clear_21 : decode cX1_clear 21 = .ok (.iconst 0, 1) := by decide +kernel
theorem dX1_clear_22 : decode cX1_clear 22 = .ok (.putfield 40, 3) := by decide +kernel
theorem dX1_clear_25 : decode cX1_clear 25 = .ok (.aload_n 0, 1) := by decide +kernel
theorem dX1_clear_26 : decode cX1_clear 26 = .ok (.getfield 9, 3) := by decide +kernel
theorem dX1_clear_29 : decode cX1_clear 29 = .ok (.bipush 99, 2) := by decide +kernel
theorem dX1_clear_31 : decode cX1_clear 31 = .ok (.invokestatic 44, 3) := by decide +kernel
theorem dX1_clear_34 : decode cX1_clear 34 = .ok (.iconst 0, 1) := by decide +kernel
theorem dX1_clear_35 : decode cX1_clear 35 = .ok (.istore_n 1, 1) := by decide +kernel
theorem dX1_clear_36 : decode cX1_clear 36 = .ok (.iload_n 1, 1) := by decide +kernel
theorem dX1_clear_37 : decode cX1_clear 37 = .ok (.bipush 8, 2) := by decide +kernel
theorem dX1_clear_39 : decode cX1_clear 39 = .ok (.if_icmp .ge 21, 3) := by decide +kernel
theorem dX1_clear_42 : decode cX1_clear 42 = .ok (.aload_n 0, 1) := by decide +kernel
theorem dX1_clear_43 : decode cX1_clear 43 = .ok (.getfield 9, 3) := by decide +kernel
theorem dX1_clear_46 : decode cX1_clear 46 = .ok (.iload_n 1, 1) := by decide +kernel
theorem dX1_clear_47 : decode cX1_clear 47 = .ok (.bipush 8, 2) := by decide +kernel
theorem dX1_clear_49 : decode cX1_clear 49 = .ok (.imul, 1) := by decide +kernel
theorem dX1_clear_50 : decode cX1_clear 50 = .ok (.iload_n 1, 1) := by decide +kernel
theorem dX1_clear_51 : decode cX1_clear 51 = .ok (.iadd, 1) := by decide +kernel
theorem dX1_clear_52 : decode cX1_clear 52 = .ok (.iconst 0, 1) := by decide +kernel
theorem dX1_clear_53 : decode cX1_clear 53 = .ok (.iastore, 1) := by decide +kernel
theorem dX1_clear_54 : decode cX1_clear 54 = .ok (.iinc 1 1, 3) := by decide +kernel
theorem dX1_clear_57 : decode cX1_clear 57 = .ok (.goto (-21), 3) := by decide +kernel
theorem dX1_clear_60 : decode cX1_clear 60 = .ok (.return_, 1) := by decide +kernel
theorem dX1_tellYards_0 : decode cX1_tellYards 0 = .ok (.iload_n 1, 1) := by decide +kernel
theorem dX1_tellYards_1 : decode cX1_tellYards 1 = .ok (.iconst 2, 1) := by decide +kernel
theorem dX1_tellYards_2 : decode cX1_tellYards 2 = .ok (.if_icmp .lt 16, 3) := by decide +kernel
theorem dX1_tellYards_5 : decode cX1_tellYards 5 = .ok (.iload_n 1, 1) := by decide +kernel
theorem dX1_tellYards_6 : decode cX1_tellYards 6 = .ok (.bipush 8, 2) := by decide +kernel
theorem dX1_tellYards_8 : decode cX1_tellYards 8 = .ok (.if_icmp .gt 10, 3) := by decide +kernel
theorem dX1_tellYards_11 : decode cX1_tellYards 11 = .ok (.aload_n 0, 1) := by decide +kernel
theorem dX1_tellYards_12 : decode cX1_tellYards 12 = .ok (.getfield 40, 3) := by decide +kernel
theorem dX1_tellYards_15 : decode cX1_tellYards 15 = .ok (.ifCond .eq 5, 3) := by decide +kernel
theorem dX1_tellYards_18 : decode cX1_tellYards 18 = .ok (.iconst 0, 1) := by decide +kernel
theorem dX1_tellYards_19 : decode cX1_tellYards 19 = .ok (.ireturn, 1) := by decide +kernel
theorem dX1_tellYards_20 : decode cX1_tellYards 20 = .ok (.aload_n 0, 1) := by decide +kernel
theorem dX1_tellYards_21 : decode cX1_tellYards 21 = .ok (.iload_n 1, 1) := by decide +kernel
theorem dX1_tellYards_22 : decode cX1_tellYards 22 = .ok (.putfield 27, 3) := by decide +kernel
theorem dX1_tellYards_25 : decode cX1_tellYards 25 = .ok (.iconst 1, 1) := by decide +kernel
theorem dX1_tellYards_26 : decode cX1_tellYards 26 = .ok (.ireturn, 1) := by decide +kernel
theorem dX1_tellLane_0 : decode cX1_tellLane 0 = .ok (.aload_n 0, 1) := by decide +kernel
theorem dX1_tellLane_1 : decode cX1_tellLane 1 = .ok (.iload_n 1, 1) := by decide +kernel
theorem dX1_tellLane_2 : decode cX1_tellLane 2 = .ok (.invokevirtual 50, 3) := by decide +kernel
theorem dX1_tellLane_5 : decode cX1_tellLane 5 = .ok (.ifCond .eq 16, 3) := by decide +kernel
theorem dX1_tellLane_8 : decode cX1_tellLane 8 = .ok (.aload_n 0, 1) := by decide +kernel
theorem dX1_tellLane_9 : decode cX1_tellLane 9 = .ok (.iload_n 2, 1) := by decide +kernel
theorem dX1_tellLane_10 : decode cX1_tellLane 10 = .ok (.invokevirtual 50, 3) := by decide +kernel
theorem dX1_tellLane_13 : decode cX1_tellLane 13 = .ok (.ifCond .eq 8, 3) := by decide +kernel
theorem dX1_tellLane_16 : decode cX1_tellLane 16 = .ok (.iload_n 1, 1) := by decide +kernel
theorem dX1_tellLane_17 : decode cX1_tellLane 17 = .ok (.iload_n 2, 1) := by decide +kernel
theorem dX1_tellLane_18 : decode cX1_tellLane 18 = .ok (.if_icmp .ne 5, 3) := by decide +kernel
theorem dX1_tellLane_21 : decode cX1_tellLane 21 = .ok (.iconst 0, 1) := by decide +kernel
theorem dX1_tellLane_22 : decode cX1_tellLane 22 = .ok (.ireturn, 1) := by decide +kernel
theorem dX1_tellLane_23 : decode cX1_tellLane 23 = .ok (.aload_n 0, 1) := by decide +kernel
theorem dX1_tellLane_24 : decode cX1_tellLane 24 = .ok (.getfield 9, 3) := by decide +kernel
theorem dX1_tellLane_27 : decode cX1_tellLane 27 = .ok (.iload_n 1, 1) := by decide +kernel
theorem dX1_tellLane_28 : decode cX1_tellLane 28 = .ok (.bipush 8, 2) := by decide +kernel
theorem dX1_tellLane_30 : decode cX1_tellLane 30 = .ok (.imul, 1) := by decide +kernel
theorem dX1_tellLane_31 : decode cX1_tellLane 31 = .ok (.iload_n 2, 1) := by decide +kernel
theorem dX1_tellLane_32 : decode cX1_tellLane 32 = .ok (.iadd, 1) := by decide +kernel
theorem dX1_tellLane_33 : decode cX1_tellLane 33 = .ok (.iconst 1, 1) := by decide +kernel
theorem dX1_tellLane_34 : decode cX1_tellLane 34 = .ok (.iastore, 1) := by decide +kernel
theorem dX1_tellLane_35 : decode cX1_tellLane 35 = .ok (.aload_n 0, 1) := by decide +kernel
theorem dX1_tellLane_36 : decode cX1_tellLane 36 = .ok (.getfield 9, 3) := by decide +kernel
theorem dX1_tellLane_39 : decode cX1_tellLane 39 = .ok (.iload_n 2, 1) := by decide +kernel
theorem dX1_tellLane_40 : decode cX1_tellLane 40 = .ok (.bipush 8, 2) := by decide +kernel
theorem dX1_tellLane_42 : decode cX1_tellLane 42 = .ok (.imul, 1) := by decide +kernel
theorem dX1_tellLane_43 : decode cX1_tellLane 43 = .ok (.iload_n 1, 1) := by decide +kernel
theorem dX1_tellLane_44 : decode cX1_tellLane 44 = .ok (.iadd, 1) := by decide +kernel
theorem dX1_tellLane_45 : decode cX1_tellLane 45 = .ok (.iconst 1, 1) := by decide +kernel
theorem dX1_tellLane_46 : decode cX1_tellLane 46 = .ok (.iastore, 1) := by decide +kernel
theorem dX1_tellLane_47 : decode cX1_tellLane 47 = .ok (.aload_n 0, 1) := by decide +kernel
theorem dX1_tellLane_48 : decode cX1_tellLane 48 = .ok (.iconst 1, 1) := by decide +kernel
theorem dX1_tellLane_49 : decode cX1_tellLane 49 = .ok (.putfield 40, 3) := by decide +kernel
theorem dX1_tellLane_52 : decode cX1_tellLane 52 = .ok (.iconst 1, 1) := by decide +kernel
theorem dX1_tellLane_53 : decode cX1_tellLane 53 = .ok (.ireturn, 1) := by decide +kernel
theorem dX1_tellPerson_0 : decode cX1_tellPerson 0 = .ok (.aload_n 0, 1) := by decide +kernel
theorem dX1_tellPerson_1 : decode cX1_tellPerson 1 = .ok (.getfield 31, 3) := by decide +kernel
theorem dX1_tellPerson_4 : decode cX1_tellPerson 4 = .ok (.iconst 5, 1) := by decide +kernel
theorem dX1_tellPerson_5 : decode cX1_tellPerson 5 = .ok (.if_icmp .ge 13, 3) := by decide +kernel
theorem dX1_tellPerson_8 : decode cX1_tellPerson 8 = .ok (.iload_n 1, 1) := by decide +kernel
theorem dX1_tellPerson_9 : decode cX1_tellPerson 9 = .ok (.ifCond .lt 9, 3) := by decide +kernel
theorem dX1_tellPerson_12 : decode cX1_tellPerson 12 = .ok (.iload_n 1, 1) := by decide +kernel
theorem dX1_tellPerson_13 : decode cX1_tellPerson 13 = .ok (.bipush 99, 2) := by decide +kernel
theorem dX1_tellPerson_15 : decode cX1_tellPerson 15 = .ok (.if_icmp .le 5, 3) := by decide +kernel
theorem dX1_tellPerson_18 : decode cX1_tellPerson 18 = .ok (.iconst 0, 1) := by decide +kernel
theorem dX1_tellPerson_19 : decode cX1_tellPerson 19 = .ok (.ireturn, 1) := by decide +kernel
theorem dX1_tellPerson_20 : decode cX1_tellPerson 20 = .ok (.aload_n 0, 1) := by decide +kernel
theorem dX1_tellPerson_21 : decode cX1_tellPerson 21 = .ok (.getfield 18, 3) := by decide +kernel
theorem dX1_tellPerson_24 : decode cX1_tellPerson 24 = .ok (.aload_n 0, 1) := by decide +kernel
theorem dX1_tellPerson_25 : decode cX1_tellPerson 25 = .ok (.getfield 31, 3) := by decide +kernel
theorem dX1_tellPerson_28 : decode cX1_tellPerson 28 = .ok (.iload_n 1, 1) := by decide +kernel
theorem dX1_tellPerson_29 : decode cX1_tellPerson 29 = .ok (.iastore, 1) := by decide +kernel
theorem dX1_tellPerson_30 : decode cX1_tellPerson 30 = .ok (.aload_n 0, 1) := by decide +kernel
theorem dX1_tellPerson_31 : decode cX1_tellPerson 31 = .ok (.getfield 24, 3) := by decide +kernel
theorem dX1_tellPerson_34 : decode cX1_tellPerson 34 = .ok (.aload_n 0, 1) := by decide +kernel
theorem dX1_tellPerson_35 : decode cX1_tellPerson 35 = .ok (.getfield 31, 3) := by decide +kernel
theorem dX1_tellPerson_38 : decode cX1_tellPerson 38 = .ok (.iconst 0, 1) := by decide +kernel
theorem dX1_tellPerson_39 : decode cX1_tellPerson 39 = .ok (.iastore, 1) := by decide +kernel
theorem dX1_tellPerson_40 : decode cX1_tellPerson 40 = .ok (.aload_n 0, 1) := by decide +kernel
theorem dX1_tellPerson_41 : decode cX1_tellPerson 41 = .ok (.dup, 1) := by decide +kernel
theorem dX1_tellPerson_42 : decode cX1_tellPerson 42 = .ok (.getfield 31, 3) := by decide +kernel
theorem dX1_tellPerson_45 : decode cX1_tellPerson 45 = .ok (.iconst 1, 1) := by decide +kernel
theorem dX1_tellPerson_46 : decode cX1_tellPerson 46 = .ok (.iadd, 1) := by decide +kernel
theorem dX1_tellPerson_47 : decode cX1_tellPerson 47 = .ok (.putfield 31, 3) := by decide +kernel
theorem dX1_tellPerson_50 : decode cX1_tellPerson 50 = .ok (.iconst 1, 1) := by decide +kernel
theorem dX1_tellPerson_51 : decode cX1_tellPerson 51 = .ok (.ireturn, 1) := by decide +kernel
theorem dX1_tellForgetting_0 : decode cX1_tellForgetting 0 = .ok (.iload_n 1, 1) := by decide +kernel
theorem dX1_tellForgetting_1 : decode cX1_tellForgetting 1 = .ok (.ifCond .lt 9, 3) := by decide +kernel
theorem dX1_tellForgetting_4 : decode cX1_tellForgetting 4 = .ok (.iload_n 1, 1) := by decide +kernel
theorem dX1_tellForgetting_5 : decode cX1_tellForgetting 5 = .ok (.bipush 20, 2) := by decide +kernel
theorem dX1_tellForgetting_7 : decode cX1_tellForgetting 7 = .ok (.if_icmp .le 5, 3) := by decide +kernel
theorem dX1_tellForgetting_10 : decode cX1_tellForgetting 10 = .ok (.iconst 0, 1) := by decide +kernel
theorem dX1_tellForgetting_11 : decode cX1_tellForgetting 11 = .ok (.ireturn, 1) := by decide +kernel
theorem dX1_tellForgetting_12 : decode cX1_tellForgetting 12 = .ok (.aload_n 0, 1) := by decide +kernel
theorem dX1_tellForgetting_13 : decode cX1_tellForgetting 13 = .ok (.iload_n 1, 1) := by decide +kernel
theorem dX1_tellForgetting_14 : decode cX1_tellForgetting 14 = .ok (.putfield 34, 3) := by decide +kernel
theorem dX1_tellForgetting_17 : decode cX1_tellForgetting 17 = .ok (.iconst 1, 1) := by decide +kernel
theorem dX1_tellForgetting_18 : decode cX1_tellForgetting 18 = .ok (.ireturn, 1) := by decide +kernel
theorem dX1_tellStart_0 : decode cX1_tellStart 0 = .ok (.iload_n 1, 1) := by decide +kernel
theorem dX1_tellStart_1 : decode cX1_tellStart 1 = .ok (.ifCond .lt 9, 3) := by decide +kernel
theorem dX1_tellStart_4 : decode cX1_tellStart 4 = .ok (.iload_n 1, 1) := by decide +kernel
theorem dX1_tellStart_5 : decode cX1_tellStart 5 = .ok (.bipush 8, 2) := by decide +kernel
theorem dX1_tellStart_7 : decode cX1_tellStart 7 = .ok (.if_icmp .lt 5, 3) := by decide +kernel
theorem dX1_tellStart_10 : decode cX1_tellStart 10 = .ok (.iconst 0, 1) := by decide +kernel
theorem dX1_tellStart_11 : decode cX1_tellStart 11 = .ok (.ireturn, 1) := by decide +kernel
theorem dX1_tellStart_12 : decode cX1_tellStart 12 = .ok (.aload_n 0, 1) := by decide +kernel
theorem dX1_tellStart_13 : decode cX1_tellStart 13 = .ok (.iload_n 1, 1) := by decide +kernel
theorem dX1_tellStart_14 : decode cX1_tellStart 14 = .ok (.putfield 37, 3) := by decide +kernel
theorem dX1_tellStart_17 : decode cX1_tellStart 17 = .ok (.iconst 1, 1) := by decide +kernel
theorem dX1_tellStart_18 : decode cX1_tellStart 18 = .ok (.ireturn, 1) := by decide +kernel
theorem dX1_beginWay_0 : decode cX1_beginWay 0 = .ok (.aload_n 0, 1) := by decide +kernel
theorem dX1_beginWay_1 : decode cX1_beginWay 1 = .ok (.getfield 31, 3) := by decide +kernel
theorem dX1_beginWay_4 : decode cX1_beginWay 4 = .ok (.iconst 1, 1) := by decide +kernel
theorem dX1_beginWay_5 : decode cX1_beginWay 5 = .ok (.if_icmp .ge 5, 3) := by decide +kernel
theorem dX1_beginWay_8 : decode cX1_beginWay 8 = .ok (.iconst 0, 1) := by decide +kernel
theorem dX1_beginWay_9 : decode cX1_beginWay 9 = .ok (.ireturn, 1) := by decide +kernel
theorem dX1_beginWay_10 : decode cX1_beginWay 10 = .ok (.aload_n 0, 1) := by decide +kernel
theorem dX1_beginWay_11 : decode cX1_beginWay 11 = .ok (.getfield 24, 3) := by decide +kernel
theorem dX1_beginWay_14 : decode cX1_beginWay 14 = .ok (.aload_n 0, 1) := by decide +kernel
theorem dX1_beginWay_15 : decode cX1_beginWay 15 = .ok (.getfield 31, 3) := by decide +kernel
theorem dX1_beginWay_18 : decode cX1_beginWay 18 = .ok (.iconst 1, 1) := by decide +kernel
theorem dX1_beginWay_19 : decode cX1_beginWay 19 = .ok (.isub, 1) := by decide +kernel
theorem dX1_beginWay_20 : decode cX1_beginWay 20 = .ok (.iconst 0, 1) := by decide +kernel
theorem dX1_beginWay_21 : decode cX1_beginWay 21 = .ok (.iastore, 1) := by decide +kernel
theorem dX1_beginWay_22 : decode cX1_beginWay 22 = .ok (.iconst 1, 1) := by decide +kernel
theorem dX1_beginWay_23 : decode cX1_beginWay 23 = .ok (.ireturn, 1) := by decide +kernel
theorem dX1_addToWay_0 : decode cX1_addToWay 0 = .ok (.aload_n 0, 1) := by decide +kernel
theorem dX1_addToWay_1 : decode cX1_addToWay 1 = .ok (.getfield 31, 3) := by decide +kernel
theorem dX1_addToWay_4 : decode cX1_addToWay 4 = .ok (.iconst 1, 1) := by decide +kernel
theorem dX1_addToWay_5 : decode cX1_addToWay 5 = .ok (.if_icmp .ge 4, 3) := by decide +kernel
theorem dX1_addToWay_8 : decode cX1_addToWay 8 = .ok (.return_, 1) := by decide +kernel
theorem dX1_addToWay_9 : decode cX1_addToWay 9 = .ok (.aload_n 0, 1) := by decide +kernel
theorem dX1_addToWay_10 : decode cX1_addToWay 10 = .ok (.getfield 24, 3) := by decide +kernel
theorem dX1_addToWay_13 : decode cX1_addToWay 13 = .ok (.aload_n 0, 1) := by decide +kernel
theorem dX1_addToWay_14 : decode cX1_addToWay 14 = .ok (.getfield 31, 3) := by decide +kernel
theorem dX1_addToWay_17 : decode cX1_addToWay 17 = .ok (.iconst 1, 1) := by decide +kernel
theorem dX1_addToWay_18 : decode cX1_addToWay 18 = .ok (.isub, 1) := by decide +kernel
theorem dX1_addToWay_19 : decode cX1_addToWay 19 = .ok (.iaload, 1) := by decide +kernel
theorem dX1_addToWay_20 : decode cX1_addToWay 20 = .ok (.istore_n 2, 1) := by decide +kernel
theorem dX1_addToWay_21 : decode cX1_addToWay 21 = .ok (.iload_n 2, 1) := by decide +kernel
theorem dX1_addToWay_22 : decode cX1_addToWay 22 = .ok (.bipush 12, 2) := by decide +kernel
theorem dX1_addToWay_24 : decode cX1_addToWay 24 = .ok (.if_icmp .ge 34, 3) := by decide +kernel
theorem dX1_addToWay_27 : decode cX1_addToWay 27 = .ok (.aload_n 0, 1) := by decide +kernel
theorem dX1_addToWay_28 : decode cX1_addToWay 28 = .ok (.getfield 21, 3) := by decide +kernel
theorem dX1_addToWay_31 : decode cX1_addToWay 31 = .ok (.aload_n 0, 1) := by decide +kernel
theorem dX1_addToWay_32 : decode cX1_addToWay 32 = .ok (.getfield 31, 3) := by decide +kernel
theorem dX1_addToWay_35 : decode cX1_addToWay 35 = .ok (.iconst 1, 1) := by decide +kernel
theorem dX1_addToWay_36 : decode cX1_addToWay 36 = .ok (.isub, 1) := by decide +kernel
theorem dX1_addToWay_37 : decode cX1_addToWay 37 = .ok (.bipush 12, 2) := by decide +kernel
theorem dX1_addToWay_39 : decode cX1_addToWay 39 = .ok (.imul, 1) := by decide +kernel
theorem dX1_addToWay_40 : decode cX1_addToWay 40 = .ok (.iload_n 2, 1) := by decide +kernel
theorem dX1_addToWay_41 : decode cX1_addToWay 41 = .ok (.iadd, 1) := by decide +kernel
theorem dX1_addToWay_42 : decode cX1_addToWay 42 = .ok (.iload_n 1, 1) := by decide +kernel
theorem dX1_addToWay_43 : decode cX1_addToWay 43 = .ok (.iastore, 1) := by decide +kernel
theorem dX1_addToWay_44 : decode cX1_addToWay 44 = .ok (.aload_n 0, 1) := by decide +kernel
theorem dX1_addToWay_45 : decode cX1_addToWay 45 = .ok (.getfield 24, 3) := by decide +kernel
theorem dX1_addToWay_48 : decode cX1_addToWay 48 = .ok (.aload_n 0, 1) := by decide +kernel
theorem dX1_addToWay_49 : decode cX1_addToWay 49 = .ok (.getfield 31, 3) := by decide +kernel
theorem dX1_addToWay_52 : decode cX1_addToWay 52 = .ok (.iconst 1, 1) := by decide +kernel
theorem dX1_addToWay_53 : decode cX1_addToWay 53 = .ok (.isub, 1) := by decide +kernel
theorem dX1_addToWay_54 : decode cX1_addToWay 54 = .ok (.iload_n 2, 1) := by decide +kernel
theorem dX1_addToWay_55 : decode cX1_addToWay 55 = .ok (.iconst 1, 1) := by decide +kernel
theorem dX1_addToWay_56 : decode cX1_addToWay 56 = .ok (.iadd, 1) := by decide +kernel
theorem dX1_addToWay_57 : decode cX1_addToWay 57 = .ok (.iastore, 1) := by decide +kernel
theorem dX1_addToWay_58 : decode cX1_addToWay 58 = .ok (.return_, 1) := by decide +kernel
theorem dX1_canBeLaid_0 : decode cX1_canBeLaid 0 = .ok (.aload_n 0, 1) := by decide +kernel
theorem dX1_canBeLaid_1 : decode cX1_canBeLaid 1 = .ok (.getfield 31, 3) := by decide +kernel
theorem dX1_canBeLaid_4 : decode cX1_canBeLaid 4 = .ok (.iconst 1, 1) := by decide +kernel
theorem dX1_canBeLaid_5 : decode cX1_canBeLaid 5 = .ok (.if_icmp .lt 14, 3) := by decide +kernel
theorem dX1_canBeLaid_8 : decode cX1_canBeLaid 8 = .ok (.aload_n 0, 1) := by decide +kernel
theorem dX1_canBeLaid_9 : decode cX1_canBeLaid 9 = .ok (.getfield 37, 3) := by decide +kernel
theorem dX1_canBeLaid_12 : decode cX1_canBeLaid 12 = .ok (.aload_n 0, 1) := by decide +kernel
theorem dX1_canBeLaid_13 : decode cX1_canBeLaid 13 = .ok (.getfield 27, 3) := by decide +kernel
theorem dX1_canBeLaid_16 : decode cX1_canBeLaid 16 = .ok (.if_icmp .lt 5, 3) := by decide +kernel
theorem dX1_canBeLaid_19 : decode cX1_canBeLaid 19 = .ok (.iconst 0, 1) := by decide +kernel
theorem dX1_canBeLaid_20 : decode cX1_canBeLaid 20 = .ok (.ireturn, 1) := by decide +kernel
theorem dX1_canBeLaid_21 : decode cX1_canBeLaid 21 = .ok (.iconst 0, 1) := by decide +kernel
theorem dX1_canBeLaid_22 : decode cX1_canBeLaid 22 = .ok (.istore_n 1, 1) := by decide +kernel
theorem dX1_canBeLaid_23 : decode cX1_canBeLaid 23 = .ok (.iload_n 1, 1) := by decide +kernel
theorem dX1_canBeLaid_24 : decode cX1_canBeLaid 24 = .ok (.aload_n 0, 1) := by decide +kernel
theorem dX1_canBeLaid_25 : decode cX1_canBeLaid 25 = .ok (.getfield 31, 3) := by decide +kernel
theorem dX1_canBeLaid_28 : decode cX1_canBeLaid 28 = .ok (.if_icmp .ge 47, 3) := by decide +kernel
theorem dX1_canBeLaid_31 : decode cX1_canBeLaid 31 = .ok (.iconst 0, 1) := by decide +kernel
theorem dX1_canBeLaid_32 : decode cX1_canBeLaid 32 = .ok (.istore_n 2, 1) := by decide +kernel
theorem dX1_canBeLaid_33 : decode cX1_canBeLaid 33 = .ok (.iload_n 2, 1) := by decide +kernel
theorem dX1_canBeLaid_34 : decode cX1_canBeLaid 34 = .ok (.aload_n 0, 1) := by decide +kernel
theorem dX1_canBeLaid_35 : decode cX1_canBeLaid 35 = .ok (.getfield 24, 3) := by decide +kernel
theorem dX1_canBeLaid_38 : decode cX1_canBeLaid 38 = .ok (.iload_n 1, 1) := by decide +kernel
theorem dX1_canBeLaid_39 : decode cX1_canBeLaid 39 = .ok (.iaload, 1) := by decide +kernel
theorem dX1_canBeLaid_40 : decode cX1_canBeLaid 40 = .ok (.if_icmp .ge 29, 3) := by decide +kernel
theorem dX1_canBeLaid_43 : decode cX1_canBeLaid 43 = .ok (.aload_n 0, 1) := by decide +kernel
theorem dX1_canBeLaid_44 : decode cX1_canBeLaid 44 = .ok (.getfield 21, 3) := by decide +kernel
theorem dX1_canBeLaid_47 : decode cX1_canBeLaid 47 = .ok (.iload_n 1, 1) := by decide +kernel
theorem dX1_canBeLaid_48 : decode cX1_canBeLaid 48 = .ok (.bipush 12, 2) := by decide +kernel
theorem dX1_canBeLaid_50 : decode cX1_canBeLaid 50 = .ok (.imul, 1) := by decide +kernel
theorem dX1_canBeLaid_51 : decode cX1_canBeLaid 51 = .ok (.iload_n 2, 1) := by decide +kernel
theorem dX1_canBeLaid_52 : decode cX1_canBeLaid 52 = .ok (.iadd, 1) := by decide +kernel
theorem dX1_canBeLaid_53 : decode cX1_canBeLaid 53 = .ok (.iaload, 1) := by decide +kernel
theorem dX1_canBeLaid_54 : decode cX1_canBeLaid 54 = .ok (.aload_n 0, 1) := by decide +kernel
theorem dX1_canBeLaid_55 : decode cX1_canBeLaid 55 = .ok (.getfield 27, 3) := by decide +kernel
theorem dX1_canBeLaid_58 : decode cX1_canBeLaid 58 = .ok (.if_icmp .lt 5, 3) := by decide +kernel
theorem dX1_canBeLaid_61 : decode cX1_canBeLaid 61 = .ok (.iconst 0, 1) := by decide +kernel
theorem dX1_canBeLaid_62 : decode cX1_canBeLaid 62 = .ok (.ireturn, 1) := by decide +kernel
theorem dX1_canBeLaid_63 : decode cX1_canBeLaid 63 = .ok (.iinc 2 1, 3) := by decide +kernel
theorem dX1_canBeLaid_66 : decode cX1_canBeLaid 66 = .ok (.goto (-33), 3) := by decide +kernel
theorem dX1_canBeLaid_69 : decode cX1_canBeLaid 69 = .ok (.iinc 1 1, 3) := by decide +kernel
theorem dX1_canBeLaid_72 : decode cX1_canBeLaid 72 = .ok (.goto (-49), 3) := by decide +kernel
theorem dX1_canBeLaid_75 : decode cX1_canBeLaid 75 = .ok (.iconst 1, 1) := by decide +kernel
theorem dX1_canBeLaid_76 : decode cX1_canBeLaid 76 = .ok (.ireturn, 1) := by decide +kernel
theorem dX1_measure_0 : decode cX1_measure 0 = .ok (.iconst 0, 1) := by decide +kernel
theorem dX1_measure_1 : decode cX1_measure 1 = .ok (.istore_n 1, 1) := by decide +kernel
theorem dX1_measure_2 : decode cX1_measure 2 = .ok (.iload_n 1, 1) := by decide +kernel
theorem dX1_measure_3 : decode cX1_measure 3 = .ok (.bipush 8, 2) := by decide +kernel
theorem dX1_measure_5 : decode cX1_measure 5 = .ok (.if_icmp .ge 81, 3) := by decide +kernel
theorem dX1_measure_8 : decode cX1_measure 8 = .ok (.iconst 0, 1) := by decide +kernel
theorem dX1_measure_9 : decode cX1_measure 9 = .ok (.istore_n 2, 1) := by decide +kernel
theorem dX1_measure_10 : decode cX1_measure 10 = .ok (.iload_n 2, 1) := by decide +kernel
theorem dX1_measure_11 : decode cX1_measure 11 = .ok (.bipush 8, 2) := by decide +kernel
theorem dX1_measure_13 : decode cX1_measure 13 = .ok (.if_icmp .ge 67, 3) := by decide +kernel
theorem dX1_measure_16 : decode cX1_measure 16 = .ok (.iconst 0, 1) := by decide +kernel
theorem dX1_measure_17 : decode cX1_measure 17 = .ok (.istore_n 3, 1) := by decide +kernel
theorem dX1_measure_18 : decode cX1_measure 18 = .ok (.iload_n 3, 1) := by decide +kernel
theorem dX1_measure_19 : decode cX1_measure 19 = .ok (.bipush 8, 2) := by decide +kernel
theorem dX1_measure_21 : decode cX1_measure 21 = .ok (.if_icmp .ge 53, 3) := by decide +kernel
theorem dX1_measure_24 : decode cX1_measure 24 = .ok (.aload_n 0, 1) := by decide +kernel
theorem dX1_measure_25 : decode cX1_measure 25 = .ok (.iload_n 2, 1) := by decide +kernel
theorem dX1_measure_26 : decode cX1_measure 26 = .ok (.iload_n 1, 1) := by decide +kernel
theorem dX1_measure_27 : decode cX1_measure 27 = .ok (.invokevirtual 54, 3) := by decide +kernel
theorem dX1_measure_30 : decode cX1_measure 30 = .ok (.aload_n 0, 1) := by decide +kernel
theorem dX1_measure_31 : decode cX1_measure 31 = .ok (.iload_n 1, 1) := by decide +kernel
theorem dX1_measure_32 : decode cX1_measure 32 = .ok (.iload_n 3, 1) := by decide +kernel
theorem dX1_measure_33 : decode cX1_measure 33 = .ok (.invokevirtual 54, 3) := by decide +kernel
theorem dX1_measure_36 : decode cX1_measure 36 = .ok (.iadd, 1) := by decide +kernel
theorem dX1_measure_37 : decode cX1_measure 37 = .ok (.istore 4, 2) := by decide +kernel
theorem dX1_measure_39 : decode cX1_measure 39 = .ok (.iload 4, 2) := by decide +kernel
theorem dX1_measure_41 : decode cX1_measure 41 = .ok (.aload_n 0, 1) := by decide +kernel
theorem dX1_measure_42 : decode cX1_measure 42 = .ok (.getfield 9, 3) := by decide +kernel
theorem dX1_measure_45 : decode cX1_measure 45 = .ok (.iload_n 2, 1) := by decide +kernel
theorem dX1_measure_46 : decode cX1_measure 46 = .ok (.bipush 8, 2) := by decide +kernel
theorem dX1_measure_48 : decode cX1_measure 48 = .ok (.imul, 1) := by decide +kernel
theorem dX1_measure_49 : decode cX1_measure 49 = .ok (.iload_n 3, 1) := by decide +kernel
theorem dX1_measure_50 : decode cX1_measure 50 = .ok (.iadd, 1) := by decide +kernel
theorem dX1_measure_51 : decode cX1_measure 51 = .ok (.iaload, 1) := by decide +kernel
theorem dX1_measure_52 : decode cX1_measure 52 = .ok (.if_icmp .ge 16, 3) := by decide +kernel
theorem dX1_measure_55 : decode cX1_measure 55 = .ok (.aload_n 0, 1) := by decide +kernel
theorem dX1_measure_56 : decode cX1_measure 56 = .ok (.getfield 9, 3) := by decide +kernel
theorem dX1_measure_59 : decode cX1_measure 59 = .ok (.iload_n 2, 1) := by decide +kernel
theorem dX1_measure_60 : decode cX1_measure 60 = .ok (.bipush 8, 2) := by decide +kernel
theorem dX1_measure_62 : decode cX1_measure 62 = .ok (.imul, 1) := by decide +kernel
theorem dX1_measure_63 : decode cX1_measure 63 = .ok (.iload_n 3, 1) := by decide +kernel
theorem dX1_measure_64 : decode cX1_measure 64 = .ok (.iadd, 1) := by decide +kernel
theorem dX1_measure_65 : decode cX1_measure 65 = .ok (.iload 4, 2) := by decide +kernel
theorem dX1_measure_67 : decode cX1_measure 67 = .ok (.iastore, 1) := by decide +kernel
theorem dX1_measure_68 : decode cX1_measure 68 = .ok (.iinc 3 1, 3) := by decide +kernel
theorem dX1_measure_71 : decode cX1_measure 71 = .ok (.goto (-53), 3) := by decide +kernel
theorem dX1_measure_74 : decode cX1_measure 74 = .ok (.iinc 2 1, 3) := by decide +kernel
theorem dX1_measure_77 : decode cX1_measure 77 = .ok (.goto (-67), 3) := by decide +kernel
theorem dX1_measure_80 : decode cX1_measure 80 = .ok (.iinc 1 1, 3) := by decide +kernel
theorem dX1_measure_83 : decode cX1_measure 83 = .ok (.goto (-81), 3) := by decide +kernel
theorem dX1_measure_86 : decode cX1_measure 86 = .ok (.iconst 0, 1) := by decide +kernel
theorem dX1_measure_87 : decode cX1_measure 87 = .ok (.istore_n 1, 1) := by decide +kernel
theorem dX1_measure_88 : decode cX1_measure 88 = .ok (.iload_n 1, 1) := by decide +kernel
theorem dX1_measure_89 : decode cX1_measure 89 = .ok (.bipush 8, 2) := by decide +kernel
theorem dX1_measure_91 : decode cX1_measure 91 = .ok (.if_icmp .ge 40, 3) := by decide +kernel
theorem dX1_measure_94 : decode cX1_measure 94 = .ok (.iconst 0, 1) := by decide +kernel
theorem dX1_measure_95 : decode cX1_measure 95 = .ok (.istore_n 2, 1) := by decide +kernel
theorem dX1_measure_96 : decode cX1_measure 96 = .ok (.iload_n 2, 1) := by decide +kernel
theorem dX1_measure_97 : decode cX1_measure 97 = .ok (.bipush 8, 2) := by decide +kernel
theorem dX1_measure_99 : decode cX1_measure 99 = .ok (.if_icmp .ge 26, 3) := by decide +kernel
theorem dX1_measure_102 : decode cX1_measure 102 = .ok (.aload_n 0, 1) := by decide +kernel
theorem dX1_measure_103 : decode cX1_measure 103 = .ok (.getfield 15, 3) := by decide +kernel
theorem dX1_measure_106 : decode cX1_measure 106 = .ok (.iload_n 1, 1) := by decide +kernel
theorem dX1_measure_107 : decode cX1_measure 107 = .ok (.bipush 8, 2) := by decide +kernel
theorem dX1_measure_109 : decode cX1_measure 109 = .ok (.imul, 1) := by decide +kernel
theorem dX1_measure_110 : decode cX1_measure 110 = .ok (.iload_n 2, 1) := by decide +kernel
theorem dX1_measure_111 : decode cX1_measure 111 = .ok (.iadd, 1) := by decide +kernel
theorem dX1_measure_112 : decode cX1_measure 112 = .ok (.aload_n 0, 1) := by decide +kernel
theorem dX1_measure_113 : decode cX1_measure 113 = .ok (.iload_n 1, 1) := by decide +kernel
theorem dX1_measure_114 : decode cX1_measure 114 = .ok (.iload_n 2, 1) := by decide +kernel
theorem dX1_measure_115 : decode cX1_measure 115 = .ok (.invokevirtual 58, 3) := by decide +kernel
theorem dX1_measure_118 : decode cX1_measure 118 = .ok (.iastore, 1) := by decide +kernel
theorem dX1_measure_119 : decode cX1_measure 119 = .ok (.iinc 2 1, 3) := by decide +kernel
theorem dX1_measure_122 : decode cX1_measure 122 = .ok (.goto (-26), 3) := by decide +kernel
theorem dX1_measure_125 : decode cX1_measure 125 = .ok (.iinc 1 1, 3) := by decide +kernel
theorem dX1_measure_128 : decode cX1_measure 128 = .ok (.goto (-40), 3) := by decide +kernel
theorem dX1_measure_131 : decode cX1_measure 131 = .ok (.return_, 1) := by decide +kernel
theorem dX1_lowestNearer_0 : decode cX1_lowestNearer 0 = .ok (.aload_n 0, 1) := by decide +kernel
theorem dX1_lowestNearer_1 : decode cX1_lowestNearer 1 = .ok (.iload_n 1, 1) := by decide +kernel
theorem dX1_lowestNearer_2 : decode cX1_lowestNearer 2 = .ok (.iload_n 2, 1) := by decide +kernel
theorem dX1_lowestNearer_3 : decode cX1_lowestNearer 3 = .ok (.invokevirtual 54, 3) := by decide +kernel
theorem dX1_lowestNearer_6 : decode cX1_lowestNearer 6 = .ok (.istore_n 3, 1) := by decide +kernel
theorem dX1_lowestNearer_7 : decode cX1_lowestNearer 7 = .ok (.iload_n 3, 1) := by decide +kernel
theorem dX1_lowestNearer_8 : decode cX1_lowestNearer 8 = .ok (.bipush 99, 2) := by decide +kernel
theorem dX1_lowestNearer_10 : decode cX1_lowestNearer 10 = .ok (.if_icmp .ne 5, 3) := by decide +kernel
theorem dX1_lowestNearer_13 : decode cX1_lowestNearer 13 = .ok (.iload_n 1, 1) := by decide +kernel
theorem dX1_lowestNearer_14 : decode cX1_lowestNearer 14 = .ok (.ireturn, 1) := by decide +kernel
theorem dX1_lowestNearer_15 : decode cX1_lowestNearer 15 = .ok (.iconst 0, 1) := by decide +kernel
theorem dX1_lowestNearer_16 : decode cX1_lowestNearer 16 = .ok (.istore 4, 2) := by decide +kernel
theorem dX1_lowestNearer_18 : decode cX1_lowestNearer 18 = .ok (.iload 4, 2) := by decide +kernel
theorem dX1_lowestNearer_20 : decode cX1_lowestNearer 20 = .ok (.bipush 8, 2) := by decide +kernel
theorem dX1_lowestNearer_22 : decode cX1_lowestNearer 22 = .ok (.if_icmp .ge 36, 3) := by decide +kernel
theorem dX1_lowestNearer_25 : decode cX1_lowestNearer 25 = .ok (.aload_n 0, 1) := by decide +kernel
theorem dX1_lowestNearer_26 : decode cX1_lowestNearer 26 = .ok (.iload_n 1, 1) := by decide +kernel
theorem dX1_lowestNearer_27 : decode cX1_lowestNearer 27 = .ok (.iload 4, 2) := by decide +kernel
theorem dX1_lowestNearer_29 : decode cX1_lowestNearer 29 = .ok (.invokevirtual 54, 3) := by decide +kernel
theorem dX1_lowestNearer_32 : decode cX1_lowestNearer 32 = .ok (.iconst 1, 1) := by decide +kernel
theorem dX1_lowestNearer_33 : decode cX1_lowestNearer 33 = .ok (.if_icmp .ne 19, 3) := by decide +kernel
theorem dX1_lowestNearer_36 : decode cX1_lowestNearer 36 = .ok (.aload_n 0, 1) := by decide +kernel
theorem dX1_lowestNearer_37 : decode cX1_lowestNearer 37 = .ok (.iload 4, 2) := by decide +kernel
theorem dX1_lowestNearer_39 : decode cX1_lowestNearer 39 = .ok (.iload_n 2, 1) := by decide +kernel
theorem dX1_lowestNearer_40 : decode cX1_lowestNearer 40 = .ok (.invokevirtual 54, 3) := by decide +kernel
theorem dX1_lowestNearer_43 : decode cX1_lowestNearer 43 = .ok (.iload_n 3, 1) := by decide +kernel
theorem dX1_lowestNearer_44 : decode cX1_lowestNearer 44 = .ok (.iconst 1, 1) := by decide +kernel
theorem dX1_lowestNearer_45 : decode cX1_lowestNearer 45 = .ok (.isub, 1) := by decide +kernel
theorem dX1_lowestNearer_46 : decode cX1_lowestNearer 46 = .ok (.if_icmp .ne 6, 3) := by decide +kernel
theorem dX1_lowestNearer_49 : decode cX1_lowestNearer 49 = .ok (.iload 4, 2) := by decide +kernel
theorem dX1_lowestNearer_51 : decode cX1_lowestNearer 51 = .ok (.ireturn, 1) := by decide +kernel
theorem dX1_lowestNearer_52 : decode cX1_lowestNearer 52 = .ok (.iinc 4 1, 3) := by decide +kernel
theorem dX1_lowestNearer_55 : decode cX1_lowestNearer 55 = .ok (.goto (-37), 3) := by decide +kernel
theorem dX1_lowestNearer_58 : decode cX1_lowestNearer 58 = .ok (.iload_n 1, 1) := by decide +kernel
theorem dX1_lowestNearer_59 : decode cX1_lowestNearer 59 = .ok (.ireturn, 1) := by decide +kernel
theorem dX1_yards_0 : decode cX1_yards 0 = .ok (.aload_n 0, 1) := by decide +kernel
theorem dX1_yards_1 : decode cX1_yards 1 = .ok (.getfield 27, 3) := by decide +kernel
theorem dX1_yards_4 : decode cX1_yards 4 = .ok (.ireturn, 1) := by decide +kernel
theorem dX1_persons_0 : decode cX1_persons 0 = .ok (.aload_n 0, 1) := by decide +kernel
theorem dX1_persons_1 : decode cX1_persons 1 = .ok (.getfield 31, 3) := by decide +kernel
theorem dX1_persons_4 : decode cX1_persons 4 = .ok (.ireturn, 1) := by decide +kernel
theorem dX1_everybody_0 : decode cX1_everybody 0 = .ok (.iconst 1, 1) := by decide +kernel
theorem dX1_everybody_1 : decode cX1_everybody 1 = .ok (.aload_n 0, 1) := by decide +kernel
theorem dX1_everybody_2 : decode cX1_everybody 2 = .ok (.getfield 31, 3) := by decide +kernel
theorem dX1_everybody_5 : decode cX1_everybody 5 = .ok (.ishl, 1) := by decide +kernel
theorem dX1_everybody_6 : decode cX1_everybody 6 = .ok (.iconst 1, 1) := by decide +kernel
theorem dX1_everybody_7 : decode cX1_everybody 7 = .ok (.isub, 1) := by decide +kernel
theorem dX1_everybody_8 : decode cX1_everybody 8 = .ok (.ireturn, 1) := by decide +kernel
theorem dX1_hasYard_0 : decode cX1_hasYard 0 = .ok (.iload_n 1, 1) := by decide +kernel
theorem dX1_hasYard_1 : decode cX1_hasYard 1 = .ok (.ifCond .lt 15, 3) := by decide +kernel
theorem dX1_hasYard_4 : decode cX1_hasYard 4 = .ok (.iload_n 1, 1) := by decide +kernel
theorem dX1_hasYard_5 : decode cX1_hasYard 5 = .ok (.aload_n 0, 1) := by decide +kernel
theorem dX1_hasYard_6 : decode cX1_hasYard 6 = .ok (.getfield 27, 3) := by decide +kernel
theorem dX1_hasYard_9 : decode cX1_hasYard 9 = .ok (.if_icmp .ge 7, 3) := by decide +kernel
theorem dX1_hasYard_12 : decode cX1_hasYard 12 = .ok (.iconst 1, 1) := by decide +kernel
theorem dX1_hasYard_13 : decode cX1_hasYard 13 = .ok (.goto 4, 3) := by decide +kernel
theorem dX1_hasYard_16 : decode cX1_hasYard 16 = .ok (.iconst 0, 1) := by decide +kernel
theorem dX1_hasYard_17 : decode cX1_hasYard 17 = .ok (.ireturn, 1) := by decide +kernel
theorem dX1_hasPerson_0 : decode cX1_hasPerson 0 = .ok (.iload_n 1, 1) := by decide +kernel
theorem dX1_hasPerson_1 : decode cX1_hasPerson 1 = .ok (.ifCond .lt 15, 3) := by decide +kernel
theorem dX1_hasPerson_4 : decode cX1_hasPerson 4 = .ok (.iload_n 1, 1) := by decide +kernel
theorem dX1_hasPerson_5 : decode cX1_hasPerson 5 = .ok (.aload_n 0, 1) := by decide +kernel
theorem dX1_hasPerson_6 : decode cX1_hasPerson 6 = .ok (.getfield 31, 3) := by decide +kernel
theorem dX1_hasPerson_9 : decode cX1_hasPerson 9 = .ok (.if_icmp .ge 7, 3) := by decide +kernel
theorem dX1_hasPerson_12 : decode cX1_hasPerson 12 = .ok (.iconst 1, 1) := by decide +kernel
theorem dX1_hasPerson_13 : decode cX1_hasPerson 13 = .ok (.goto 4, 3) := by decide +kernel
theorem dX1_hasPerson_16 : decode cX1_hasPerson 16 = .ok (.iconst 0, 1) := by decide +kernel
theorem dX1_hasPerson_17 : decode cX1_hasPerson 17 = .ok (.ireturn, 1) := by decide +kernel
theorem dX1_cost_0 : decode cX1_cost 0 = .ok (.iload_n 1, 1) := by decide +kernel
theorem dX1_cost_1 : decode cX1_cost 1 = .ok (.ifCond .lt 20, 3) := by decide +kernel
theorem dX1_cost_4 : decode cX1_cost 4 = .ok (.iload_n 1, 1) := by decide +kernel
theorem dX1_cost_5 : decode cX1_cost 5 = .ok (.aload_n 0, 1) := by decide +kernel
theorem dX1_cost_6 : decode cX1_cost 6 = .ok (.getfield 31, 3) := by decide +kernel
theorem dX1_cost_9 : decode cX1_cost 9 = .ok (.if_icmp .ge 12, 3) := by decide +kernel
theorem dX1_cost_12 : decode cX1_cost 12 = .ok (.aload_n 0, 1) := by decide +kernel
theorem dX1_cost_13 : decode cX1_cost 13 = .ok (.getfield 18, 3) := by decide +kernel
theorem dX1_cost_16 : decode cX1_cost 16 = .ok (.iload_n 1, 1) := by decide +kernel
theorem dX1_cost_17 : decode cX1_cost 17 = .ok (.iaload, 1) := by decide +kernel
theorem dX1_cost_18 : decode cX1_cost 18 = .ok (.goto 4, 3) := by decide +kernel
theorem dX1_cost_21 : decode cX1_cost 21 = .ok (.iconst 0, 1) := by decide +kernel
theorem dX1_cost_22 : decode cX1_cost 22 = .ok (.ireturn, 1) := by decide +kernel
theorem dX1_distance_0 : decode cX1_distance 0 = .ok (.iload_n 1, 1) := by decide +kernel
theorem dX1_distance_1 : decode cX1_distance 1 = .ok (.ifCond .lt 19, 3) := by decide +kernel
theorem dX1_distance_4 : decode cX1_distance 4 = .ok (.iload_n 1, 1) := by decide +kernel
theorem dX1_distance_5 : decode cX1_distance 5 = .ok (.bipush 8, 2) := by decide +kernel
theorem dX1_distance_7 : decode cX1_distance 7 = .ok (.if_icmp .ge 13, 3) := by decide +kernel
theorem dX1_distance_10 : decode cX1_distance 10 = .ok (.iload_n 2, 1) := by decide +kernel
theorem dX1_distance_11 : decode cX1_distance 11 = .ok (.ifCond .lt 9, 3) := by decide +kernel
theorem dX1_distance_14 : decode cX1_distance 14 = .ok (.iload_n 2, 1) := by decide +kernel
theorem dX1_distance_15 : decode cX1_distance 15 = .ok (.bipush 8, 2) := by decide +kernel
theorem dX1_distance_17 : decode cX1_distance 17 = .ok (.if_icmp .lt 6, 3) := by decide +kernel
theorem dX1_distance_20 : decode cX1_distance 20 = .ok (.bipush 99, 2) := by decide +kernel
theorem dX1_distance_22 : decode cX1_distance 22 = .ok (.ireturn, 1) := by decide +kernel
theorem dX1_distance_23 : decode cX1_distance 23 = .ok (.aload_n 0, 1) := by decide +kernel
theorem dX1_distance_24 : decode cX1_distance 24 = .ok (.getfield 9, 3) := by decide +kernel
theorem dX1_distance_27 : decode cX1_distance 27 = .ok (.iload_n 1, 1) := by decide +kernel
theorem dX1_distance_28 : decode cX1_distance 28 = .ok (.bipush 8, 2) := by decide +kernel
theorem dX1_distance_30 : decode cX1_distance 30 = .ok (.imul, 1) := by decide +kernel
theorem dX1_distance_31 : decode cX1_distance 31 = .ok (.iload_n 2, 1) := by decide +kernel
theorem dX1_distance_32 : decode cX1_distance 32 = .ok (.iadd, 1) := by decide +kernel
theorem dX1_distance_33 : decode cX1_distance 33 = .ok (.iaload, 1) := by decide +kernel
theorem dX1_distance_34 : decode cX1_distance 34 = .ok (.ireturn, 1) := by decide +kernel
theorem dX1_yardAt_0 : decode cX1_yardAt 0 = .ok (.iload_n 1, 1) := by decide +kernel
theorem dX1_yardAt_1 : decode cX1_yardAt 1 = .ok (.ifCond .lt 15, 3) := by decide +kernel
theorem dX1_yardAt_4 : decode cX1_yardAt 4 = .ok (.iload_n 1, 1) := by decide +kernel
theorem dX1_yardAt_5 : decode cX1_yardAt 5 = .ok (.aload_n 0, 1) := by decide +kernel
theorem dX1_yardAt_6 : decode cX1_yardAt 6 = .ok (.getfield 31, 3) := by decide +kernel
theorem dX1_yardAt_9 : decode cX1_yardAt 9 = .ok (.if_icmp .ge 7, 3) := by decide +kernel
theorem dX1_yardAt_12 : decode cX1_yardAt 12 = .ok (.iload_n 2, 1) := by decide +kernel
theorem dX1_yardAt_13 : decode cX1_yardAt 13 = .ok (.ifCond .ge 5, 3) := by decide +kernel
theorem dX1_yardAt_16 : decode cX1_yardAt 16 = .ok (.iconst 0, 1) := by decide +kernel
theorem dX1_yardAt_17 : decode cX1_yardAt 17 = .ok (.ireturn, 1) := by decide +kernel
theorem dX1_yardAt_18 : decode cX1_yardAt 18 = .ok (.aload_n 0, 1) := by decide +kernel
theorem dX1_yardAt_19 : decode cX1_yardAt 19 = .ok (.getfield 24, 3) := by decide +kernel
theorem dX1_yardAt_22 : decode cX1_yardAt 22 = .ok (.iload_n 1, 1) := by decide +kernel
theorem dX1_yardAt_23 : decode cX1_yardAt 23 = .ok (.iaload, 1) := by decide +kernel
theorem dX1_yardAt_24 : decode cX1_yardAt 24 = .ok (.istore_n 3, 1) := by decide +kernel
theorem dX1_yardAt_25 : decode cX1_yardAt 25 = .ok (.iload_n 3, 1) := by decide +kernel
theorem dX1_yardAt_26 : decode cX1_yardAt 26 = .ok (.iconst 1, 1) := by decide +kernel
theorem dX1_yardAt_27 : decode cX1_yardAt 27 = .ok (.if_icmp .ge 5, 3) := by decide +kernel
theorem dX1_yardAt_30 : decode cX1_yardAt 30 = .ok (.iconst 0, 1) := by decide +kernel
theorem dX1_yardAt_31 : decode cX1_yardAt 31 = .ok (.ireturn, 1) := by decide +kernel
theorem dX1_yardAt_32 : decode cX1_yardAt 32 = .ok (.aload_n 0, 1) := by decide +kernel
theorem dX1_yardAt_33 : decode cX1_yardAt 33 = .ok (.getfield 21, 3) := by decide +kernel
theorem dX1_yardAt_36 : decode cX1_yardAt 36 = .ok (.iload_n 1, 1) := by decide +kernel
theorem dX1_yardAt_37 : decode cX1_yardAt 37 = .ok (.bipush 12, 2) := by decide +kernel
theorem dX1_yardAt_39 : decode cX1_yardAt 39 = .ok (.imul, 1) := by decide +kernel
theorem dX1_yardAt_40 : decode cX1_yardAt 40 = .ok (.iload_n 2, 1) := by decide +kernel
theorem dX1_yardAt_41 : decode cX1_yardAt 41 = .ok (.iload_n 3, 1) := by decide +kernel
theorem dX1_yardAt_42 : decode cX1_yardAt 42 = .ok (.irem, 1) := by decide +kernel
theorem dX1_yardAt_43 : decode cX1_yardAt 43 = .ok (.iadd, 1) := by decide +kernel
theorem dX1_yardAt_44 : decode cX1_yardAt 44 = .ok (.iaload, 1) := by decide +kernel
theorem dX1_yardAt_45 : decode cX1_yardAt 45 = .ok (.ireturn, 1) := by decide +kernel
theorem dX1_canFeed_0 : decode cX1_canFeed 0 = .ok (.iload_n 1, 1) := by decide +kernel
theorem dX1_canFeed_1 : decode cX1_canFeed 1 = .ok (.ifCond .lt 28, 3) := by decide +kernel
theorem dX1_canFeed_4 : decode cX1_canFeed 4 = .ok (.iload_n 1, 1) := by decide +kernel
theorem dX1_canFeed_5 : decode cX1_canFeed 5 = .ok (.aload_n 0, 1) := by decide +kernel
theorem dX1_canFeed_6 : decode cX1_canFeed 6 = .ok (.getfield 31, 3) := by decide +kernel
theorem dX1_canFeed_9 : decode cX1_canFeed 9 = .ok (.if_icmp .ge 20, 3) := by decide +kernel
theorem dX1_canFeed_12 : decode cX1_canFeed 12 = .ok (.aload_n 0, 1) := by decide +kernel
theorem dX1_canFeed_13 : decode cX1_canFeed 13 = .ok (.iload_n 1, 1) := by decide +kernel
theorem dX1_canFeed_14 : decode cX1_canFeed 14 = .ok (.iload_n 3, 1) := by decide +kernel
theorem dX1_canFeed_15 : decode cX1_canFeed 15 = .ok (.invokevirtual 61, 3) := by decide +kernel
theorem dX1_canFeed_18 : decode cX1_canFeed 18 = .ok (.iload_n 2, 1) := by decide +kernel
theorem dX1_canFeed_19 : decode cX1_canFeed 19 = .ok (.invokestatic 64, 3) := by decide +kernel
theorem dX1_canFeed_22 : decode cX1_canFeed 22 = .ok (.if_icmp .ne 7, 3) := by decide +kernel
theorem dX1_canFeed_25 : decode cX1_canFeed 25 = .ok (.iconst 1, 1) := by decide +kernel
theorem dX1_canFeed_26 : decode cX1_canFeed 26 = .ok (.goto 4, 3) := by decide +kernel
theorem dX1_canFeed_29 : decode cX1_canFeed 29 = .ok (.iconst 0, 1) := by decide +kernel
theorem dX1_canFeed_30 : decode cX1_canFeed 30 = .ok (.ireturn, 1) := by decide +kernel
theorem dX1_states_0 : decode cX1_states 0 = .ok (.aload_n 0, 1) := by decide +kernel
theorem dX1_states_1 : decode cX1_states 1 = .ok (.getfield 34, 3) := by decide +kernel
theorem dX1_states_4 : decode cX1_states 4 = .ok (.iconst 1, 1) := by decide +kernel
theorem dX1_states_5 : decode cX1_states 5 = .ok (.invokestatic 68, 3) := by decide +kernel
theorem dX1_states_8 : decode cX1_states 8 = .ok (.bipush 6, 2) := by decide +kernel
theorem dX1_states_10 : decode cX1_states 10 = .ok (.imul, 1) := by decide +kernel
theorem dX1_states_11 : decode cX1_states 11 = .ok (.bipush 8, 2) := by decide +kernel
theorem dX1_states_13 : decode cX1_states 13 = .ok (.imul, 1) := by decide +kernel
theorem dX1_states_14 : decode cX1_states 14 = .ok (.ireturn, 1) := by decide +kernel
theorem dX1_firstState_0 : decode cX1_firstState 0 = .ok (.aload_n 0, 1) := by decide +kernel
theorem dX1_firstState_1 : decode cX1_firstState 1 = .ok (.getfield 37, 3) := by decide +kernel
theorem dX1_firstState_4 : decode cX1_firstState 4 = .ok (.iconst (-1), 1) := by decide +kernel
theorem dX1_firstState_5 : decode cX1_firstState 5 = .ok (.iconst 0, 1) := by decide +kernel
theorem dX1_firstState_6 : decode cX1_firstState 6 = .ok (.invokestatic 73, 3) := by decide +kernel
theorem dX1_firstState_9 : decode cX1_firstState 9 = .ok (.ireturn, 1) := by decide +kernel
theorem dX1_onward_0 : decode cX1_onward 0 = .ok (.iload_n 1, 1) := by decide +kernel
theorem dX1_onward_1 : decode cX1_onward 1 = .ok (.invokestatic 64, 3) := by decide +kernel
theorem dX1_onward_4 : decode cX1_onward 4 = .ok (.istore_n 3, 1) := by decide +kernel
theorem dX1_onward_5 : decode cX1_onward 5 = .ok (.iload_n 1, 1) := by decide +kernel
theorem dX1_onward_6 : decode cX1_onward 6 = .ok (.invokestatic 77, 3) := by decide +kernel
theorem dX1_onward_9 : decode cX1_onward 9 = .ok (.istore 4, 2) := by decide +kernel
theorem dX1_onward_11 : decode cX1_onward 11 = .ok (.iload 4, 2) := by decide +kernel
theorem dX1_onward_13 : decode cX1_onward 13 = .ok (.iconst (-1), 1) := by decide +kernel
theorem dX1_onward_14 : decode cX1_onward 14 = .ok (.if_icmp .ne 5, 3) := by decide +kernel
theorem dX1_onward_17 : decode cX1_onward 17 = .ok (.iload_n 1, 1) := by decide +kernel
theorem dX1_onward_18 : decode cX1_onward 18 = .ok (.ireturn, 1) := by decide +kernel
theorem dX1_onward_19 : decode cX1_onward 19 = .ok (.aload_n 0, 1) := by decide +kernel
theorem dX1_onward_20 : decode cX1_onward 20 = .ok (.getfield 34, 3) := by decide +kernel
theorem dX1_onward_23 : decode cX1_onward 23 = .ok (.ifCond .le 12, 3) := by decide +kernel
theorem dX1_onward_26 : decode cX1_onward 26 = .ok (.iload_n 1, 1) := by decide +kernel
theorem dX1_onward_27 : decode cX1_onward 27 = .ok (.invokestatic 80, 3) := by decide +kernel
theorem dX1_onward_30 : decode cX1_onward 30 = .ok (.iconst 1, 1) := by decide +kernel
theorem dX1_onward_31 : decode cX1_onward 31 = .ok (.iadd, 1) := by decide +kernel
theorem dX1_onward_32 : decode cX1_onward 32 = .ok (.goto 4, 3) := by decide +kernel
theorem dX1_onward_35 : decode cX1_onward 35 = .ok (.iconst 0, 1) := by decide +kernel
theorem dX1_onward_36 : decode cX1_onward 36 = .ok (.istore 5, 2) := by decide +kernel
theorem dX1_onward_38 : decode cX1_onward 38 = .ok (.aload_n 0, 1) := by decide +kernel
theorem dX1_onward_39 : decode cX1_onward 39 = .ok (.getfield 34, 3) := by decide +kernel
theorem dX1_onward_42 : decode cX1_onward 42 = .ok (.ifCond .le 19, 3) := by decide +kernel
theorem dX1_onward_45 : decode cX1_onward 45 = .ok (.iload 5, 2) := by decide +kernel
theorem dX1_onward_47 : decode cX1_onward 47 = .ok (.aload_n 0, 1) := by decide +kernel
theorem dX1_onward_48 : decode cX1_onward 48 = .ok (.getfield 34, 3) := by decide +kernel
theorem dX1_onward_51 : decode cX1_onward 51 = .ok (.if_icmp .lt 10, 3) := by decide +kernel
theorem dX1_onward_54 : decode cX1_onward 54 = .ok (.iload_n 3, 1) := by decide +kernel
theorem dX1_onward_55 : decode cX1_onward 55 = .ok (.iconst (-1), 1) := by decide +kernel
theorem dX1_onward_56 : decode cX1_onward 56 = .ok (.iconst 0, 1) := by decide +kernel
theorem dX1_onward_57 : decode cX1_onward 57 = .ok (.invokestatic 73, 3) := by decide +kernel
theorem dX1_onward_60 : decode cX1_onward 60 = .ok (.ireturn, 1) := by decide +kernel
theorem dX1_onward_61 : decode cX1_onward 61 = .ok (.aload_n 0, 1) := by decide +kernel
theorem dX1_onward_62 : decode cX1_onward 62 = .ok (.iload_n 3, 1) := by decide +kernel
theorem dX1_onward_63 : decode cX1_onward 63 = .ok (.aload_n 0, 1) := by decide +kernel
theorem dX1_onward_64 : decode cX1_onward 64 = .ok (.iload 4, 2) := by decide +kernel
theorem dX1_onward_66 : decode cX1_onward 66 = .ok (.iload_n 2, 1) := by decide +kernel
theorem dX1_onward_67 : decode cX1_onward 67 = .ok (.invokevirtual 61, 3) := by decide +kernel
theorem dX1_onward_70 : decode cX1_onward 70 = .ok (.invokevirtual 83, 3) := by decide +kernel
theorem dX1_onward_73 : decode cX1_onward 73 = .ok (.iload 4, 2) := by decide +kernel
theorem dX1_onward_75 : decode cX1_onward 75 = .ok (.iload 5, 2) := by decide +kernel
theorem dX1_onward_77 : decode cX1_onward 77 = .ok (.invokestatic 73, 3) := by decide +kernel
theorem dX1_onward_80 : decode cX1_onward 80 = .ok (.ireturn, 1) := by decide +kernel
theorem dX1_towards_0 : decode cX1_towards 0 = .ok (.iload_n 1, 1) := by decide +kernel
theorem dX1_towards_1 : decode cX1_towards 1 = .ok (.ifCond .lt 19, 3) := by decide +kernel
theorem dX1_towards_4 : decode cX1_towards 4 = .ok (.iload_n 1, 1) := by decide +kernel
theorem dX1_towards_5 : decode cX1_towards 5 = .ok (.bipush 8, 2) := by decide +kernel
theorem dX1_towards_7 : decode cX1_towards 7 = .ok (.if_icmp .ge 13, 3) := by decide +kernel
theorem dX1_towards_10 : decode cX1_towards 10 = .ok (.iload_n 2, 1) := by decide +kernel
theorem dX1_towards_11 : decode cX1_towards 11 = .ok (.ifCond .lt 9, 3) := by decide +kernel
theorem dX1_towards_14 : decode cX1_towards 14 = .ok (.iload_n 2, 1) := by decide +kernel
theorem dX1_towards_15 : decode cX1_towards 15 = .ok (.bipush 8, 2) := by decide +kernel
theorem dX1_towards_17 : decode cX1_towards 17 = .ok (.if_icmp .lt 5, 3) := by decide +kernel
theorem dX1_towards_20 : decode cX1_towards 20 = .ok (.iload_n 1, 1) := by decide +kernel
theorem dX1_towards_21 : decode cX1_towards 21 = .ok (.ireturn, 1) := by decide +kernel
theorem dX1_towards_22 : decode cX1_towards 22 = .ok (.aload_n 0, 1) := by decide +kernel
theorem dX1_towards_23 : decode cX1_towards 23 = .ok (.getfield 15, 3) := by decide +kernel
theorem dX1_towards_26 : decode cX1_towards 26 = .ok (.iload_n 1, 1) := by decide +kernel
theorem dX1_towards_27 : decode cX1_towards 27 = .ok (.bipush 8, 2) := by decide +kernel
theorem dX1_towards_29 : decode cX1_towards 29 = .ok (.imul, 1) := by decide +kernel
theorem dX1_towards_30 : decode cX1_towards 30 = .ok (.iload_n 2, 1) := by decide +kernel
theorem dX1_towards_31 : decode cX1_towards 31 = .ok (.iadd, 1) := by decide +kernel
theorem dX1_towards_32 : decode cX1_towards 32 = .ok (.iaload, 1) := by decide +kernel
theorem dX1_towards_33 : decode cX1_towards 33 = .ok (.ireturn, 1) := by decide +kernel
theorem dX1_unfed_0 : decode cX1_unfed 0 = .ok (.iload_n 1, 1) := by decide +kernel
theorem dX1_unfed_1 : decode cX1_unfed 1 = .ok (.istore 4, 2) := by decide +kernel
theorem dX1_unfed_3 : decode cX1_unfed 3 = .ok (.iconst 1, 1) := by decide +kernel
theorem dX1_unfed_4 : decode cX1_unfed 4 = .ok (.istore 5, 2) := by decide +kernel
theorem dX1_unfed_6 : decode cX1_unfed 6 = .ok (.iload 5, 2) := by decide +kernel
theorem dX1_unfed_8 : decode cX1_unfed 8 = .ok (.iload_n 3, 1) := by decide +kernel
theorem dX1_unfed_9 : decode cX1_unfed 9 = .ok (.if_icmp .gt 21, 3) := by decide +kernel
theorem dX1_unfed_12 : decode cX1_unfed 12 = .ok (.aload_n 0, 1) := by decide +kernel
theorem dX1_unfed_13 : decode cX1_unfed 13 = .ok (.iload 4, 2) := by decide +kernel
theorem dX1_unfed_15 : decode cX1_unfed 15 = .ok (.iload_n 2, 1) := by decide +kernel
theorem dX1_unfed_16 : decode cX1_unfed 16 = .ok (.iload 5, 2) := by decide +kernel
theorem dX1_unfed_18 : decode cX1_unfed 18 = .ok (.iadd, 1) := by decide +kernel
theorem dX1_unfed_19 : decode cX1_unfed 19 = .ok (.invokevirtual 85, 3) := by decide +kernel
theorem dX1_unfed_22 : decode cX1_unfed 22 = .ok (.istore 4, 2) := by decide +kernel
theorem dX1_unfed_24 : decode cX1_unfed 24 = .ok (.iinc 5 1, 3) := by decide +kernel
theorem dX1_unfed_27 : decode cX1_unfed 27 = .ok (.goto (-21), 3) := by decide +kernel
theorem dX1_unfed_30 : decode cX1_unfed 30 = .ok (.iload 4, 2) := by decide +kernel
theorem dX1_unfed_32 : decode cX1_unfed 32 = .ok (.ireturn, 1) := by decide +kernel
theorem dX2_init_0 : decode cX2_init 0 = .ok (.aload_n 0, 1) := by decide +kernel
theorem dX2_init_1 : decode cX2_init 1 = .ok (.invokespecial 3, 3) := by decide +kernel
theorem dX2_init_4 : decode cX2_init 4 = .ok (.aload_n 0, 1) := by decide +kernel
theorem dX2_init_5 : decode cX2_init 5 = .ok (.sipush 960, 3) := by decide +kernel
theorem dX2_init_8 : decode cX2_init 8 = .ok (.newarray .int, 2) := by decide +kernel
theorem dX2_init_10 : decode cX2_init 10 = .ok (.putfield 9, 3) := by decide +kernel
theorem dX2_init_13 : decode cX2_init 13 = .ok (.aload_n 0, 1) := by decide +kernel
theorem dX2_init_14 : decode cX2_init 14 = .ok (.sipush 960, 3) := by decide +kernel
theorem dX2_init_17 : decode cX2_init 17 = .ok (.newarray .long, 2) := by decide +kernel
theorem dX2_init_19 : decode cX2_init 19 = .ok (.putfield 15, 3) := by decide +kernel
theorem dX2_init_22 : decode cX2_init 22 = .ok (.aload_n 0, 1) := by decide +kernel
theorem dX2_init_23 : decode cX2_init 23 = .ok (.getfield 15, 3) := by decide +kernel
theorem dX2_init_26 : decode cX2_init 26 = .ok (.ldc2_w 19, 3) := by decide +kernel
theorem dX2_init_29 : decode cX2_init 29 = .ok (.invokestatic 21, 3) := by decide +kernel
theorem dX2_init_32 : decode cX2_init 32 = .ok (.return_, 1) := by decide +kernel
theorem dX2_size_0 : decode cX2_size 0 = .ok (.aload_n 0, 1) := by decide +kernel
theorem dX2_size_1 : decode cX2_size 1 = .ok (.getfield 27, 3) := by decide +kernel
theorem dX2_size_4 : decode cX2_size 4 = .ok (.ireturn, 1) := by decide +kernel
theorem dX2_state_0 : decode cX2_state 0 = .ok (.iload_n 1, 1) := by decide +kernel
theorem dX2_state_1 : decode cX2_state 1 = .ok (.ifCond .lt 20, 3) := by decide +kernel
theorem dX2_state_4 : decode cX2_state 4 = .ok (.iload_n 1, 1) := by decide +kernel
theorem dX2_state_5 : decode cX2_state 5 = .ok (.aload_n 0, 1) := by decide +kernel
theorem dX2_state_6 : decode cX2_state 6 = .ok (.getfield 27, 3) := by decide +kernel
theorem dX2_state_9 : decode cX2_state 9 = .ok (.if_icmp .ge 12, 3) := by decide +kernel
theorem dX2_state_12 : decode cX2_state 12 = .ok (.aload_n 0, 1) := by decide +kernel
theorem dX2_state_13 : decode cX2_state 13 = .ok (.getfield 9, 3) := by decide +kernel
theorem dX2_state_16 : decode cX2_state 16 = .ok (.iload_n 1, 1) := by decide +kernel
theorem dX2_state_17 : decode cX2_state 17 = .ok (.iaload, 1) := by decide +kernel
theorem dX2_state_18 : decode cX2_state 18 = .ok (.goto 4, 3) := by decide +kernel
theorem dX2_state_21 : decode cX2_state 21 = .ok (.iconst 0, 1) := by decide +kernel
theorem dX2_state_22 : decode cX2_state 22 = .ok (.ireturn, 1) := by decide +kernel
theorem dX2_number_0 : decode cX2_number 0 = .ok (.iload_n 1, 1) := by decide +kernel
theorem dX2_number_1 : decode cX2_number 1 = .ok (.ifCond .lt 25, 3) := by decide +kernel
theorem dX2_number_4 : decode cX2_number 4 = .ok (.iload_n 1, 1) := by decide +kernel
theorem dX2_number_5 : decode cX2_number 5 = .ok (.aload_n 0, 1) := by decide +kernel
theorem dX2_number_6 : decode cX2_number 6 = .ok (.getfield 27, 3) := by decide +kernel
theorem dX2_number_9 : decode cX2_number 9 = .ok (.if_icmp .ge 17, 3) := by decide +kernel
theorem dX2_number_12 : decode cX2_number 12 = .ok (.aload_n 0, 1) := by decide +kernel
theorem dX2_number_13 : decode cX2_number 13 = .ok (.getfield 15, 3) := by decide +kernel
theorem dX2_number_16 : decode cX2_number 16 = .ok (.aload_n 0, 1) := by decide +kernel
theorem dX2_number_17 : decode cX2_number 17 = .ok (.getfield 9, 3) := by decide +kernel
theorem dX2_number_20 : decode cX2_number 20 = .ok (.iload_n 1, 1) := by decide +kernel
theorem dX2_number_21 : decode cX2_number 21 = .ok (.iaload, 1) := by decide +kernel
theorem dX2_number_22 : decode cX2_number 22 = .ok (.laload, 1) := by decide +kernel
theorem dX2_number_23 : decode cX2_number 23 = .ok (.goto 4, 3) := by decide +kernel
theorem dX2_number_26 : decode cX2_number 26 = .ok (.lconst 0, 1) := by decide +kernel
theorem dX2_number_27 : decode cX2_number 27 = .ok (.lreturn, 1) := by decide +kernel
theorem dX2_clear_0 : decode cX2_clear 0 = .ok (.iconst 0, 1) := by decide +kernel
theorem dX2_clear_1 : decode cX2_clear 1 = .ok (.istore_n 1, 1) := by decide +kernel
theorem dX2_clear_2 : decode cX2_clear 2 = .ok (.iload_n 1, 1) := by decide +kernel
theorem dX2_clear_3 : decode cX2_clear 3 = .ok (.aload_n 0, 1) := by decide +kernel
theorem dX2_clear_4 : decode cX2_clear 4 = .ok (.getfield 27, 3) := by decide +kernel
theorem dX2_clear_7 : decode cX2_clear 7 = .ok (.if_icmp .ge 23, 3) := by decide +kernel
theorem dX2_clear_10 : decode cX2_clear 10 = .ok (.aload_n 0, 1) := by decide +kernel
theorem dX2_clear_11 : decode cX2_clear 11 = .ok (.getfield 15, 3) := by decide +kernel
theorem dX2_clear_14 : decode cX2_clear 14 = .ok (.aload_n 0, 1) := by decide +kernel
theorem dX2_clear_15 : decode cX2_clear 15 = .ok (.getfield 9, 3) := by decide +kernel
theorem dX2_clear_18 : decode cX2_clear 18 = .ok (.iload_n 1, 1) := by decide +kernel
theorem dX2_clear_19 : decode cX2_clear 19 = .ok (.iaload, 1) := by decide +kernel
theorem dX2_clear_20 : decode cX2_clear 20 = .ok (.ldc2_w 19, 3) := by decide +kernel
theorem dX2_clear_23 : decode cX2_clear 23 = .ok (.lastore, 1) := by decide +kernel
theorem dX2_clear_24 : decode cX2_clear 24 = .ok (.iinc 1 1, 3) := by decide +kernel
theorem dX2_clear_27 : decode cX2_clear 27 = .ok (.goto (-25), 3) := by decide +kernel
theorem dX2_clear_30 : decode cX2_clear 30 = .ok (.aload_n 0, 1) := by decide +kernel
theorem dX2_clear_31 : decode cX2_clear 31 = .ok (.iconst 0, 1) := by decide +kernel
theorem dX2_clear_32 : decode cX2_clear 32 = .ok (.putfield 27, 3) := by decide +kernel
theorem dX2_clear_35 : decode cX2_clear 35 = .ok (.return_, 1) := by decide +kernel
theorem dX2_put_0 : decode cX2_put 0 = .ok (.iload_n 1, 1) := by decide +kernel
theorem dX2_put_1 : decode cX2_put 1 = .ok (.ifCond .lt 10, 3) := by decide +kernel
theorem dX2_put_4 : decode cX2_put 4 = .ok (.iload_n 1, 1) := by decide +kernel
theorem dX2_put_5 : decode cX2_put 5 = .ok (.sipush 960, 3) := by decide +kernel
theorem dX2_put_8 : decode cX2_put 8 = .ok (.if_icmp .lt 4, 3) := by decide +kernel
theorem dX2_put_11 : decode cX2_put 11 = .ok (.return_, 1) := by decide +kernel
theorem dX2_put_12 : decode cX2_put 12 = .ok (.aload_n 0, 1) := by decide +kernel
theorem dX2_put_13 : decode cX2_put 13 = .ok (.getfield 15, 3) := by decide +kernel
theorem dX2_put_16 : decode cX2_put 16 = .ok (.iload_n 1, 1) := by decide +kernel
theorem dX2_put_17 : decode cX2_put 17 = .ok (.laload, 1) := by decide +kernel
theorem dX2_put_18 : decode cX2_put 18 = .ok (.ldc2_w 19, 3) := by decide +kernel
theorem dX2_put_21 : decode cX2_put 21 = .ok (.lcmp, 1) := by decide +kernel
theorem dX2_put_22 : decode cX2_put 22 = .ok (.ifCond .eq 38, 3) := by decide +kernel
theorem dX2_put_25 : decode cX2_put 25 = .ok (.aload_n 0, 1) := by decide +kernel
theorem dX2_put_26 : decode cX2_put 26 = .ok (.getfield 15, 3) := by decide +kernel
theorem dX2_put_29 : decode cX2_put 29 = .ok (.iload_n 1, 1) := by decide +kernel
theorem dX2_put_30 : decode cX2_put 30 = .ok (.iload 4, 2) := by decide +kernel
theorem dX2_put_32 : decode cX2_put 32 = .ok (.ifCond .eq 16, 3) := by decide +kernel
theorem dX2_put_35 : decode cX2_put 35 = .ok (.aload_n 0, 1) := by decide +kernel
theorem dX2_put_36 : decode cX2_put 36 = .ok (.getfield 15, 3) := by decide +kernel
theorem dX2_put_39 : decode cX2_put 39 = .ok (.iload_n 1, 1) := by decide +kernel
theorem dX2_put_40 : decode cX2_put 40 = .ok (.laload, 1) := by decide +kernel
theorem dX2_put_41 : decode cX2_put 41 = .ok (.lload_n 2, 1) := by decide +kernel
theorem dX2_put_42 : decode cX2_put 42 = .ok (.invokestatic 31, 3) := by decide +kernel
theorem dX2_put_45 : decode cX2_put 45 = .ok (.goto 11, 3) := by decide +kernel
theorem dX2_put_48 : decode cX2_put 48 = .ok (.aload_n 0, 1) := by decide +kernel
theorem dX2_put_49 : decode cX2_put 49 = .ok (.getfield 15, 3) := by decide +kernel
theorem dX2_put_52 : decode cX2_put 52 = .ok (.iload_n 1, 1) := by decide +kernel
theorem dX2_put_53 : decode cX2_put 53 = .ok (.laload, 1) := by decide +kernel
theorem dX2_put_54 : decode cX2_put 54 = .ok (.lload_n 2, 1) := by decide +kernel
theorem dX2_put_55 : decode cX2_put 55 = .ok (.ladd, 1) := by decide +kernel
theorem dX2_put_56 : decode cX2_put 56 = .ok (.lastore, 1) := by decide +kernel
theorem dX2_put_57 : decode cX2_put 57 = .ok (.goto 40, 3) := by decide +kernel
theorem dX2_put_60 : decode cX2_put 60 = .ok (.aload_n 0, 1) := by decide +kernel
theorem dX2_put_61 : decode cX2_put 61 = .ok (.getfield 27, 3) := by decide +kernel
theorem dX2_put_64 : decode cX2_put 64 = .ok (.sipush 960, 3) := by decide +kernel
theorem dX2_put_67 : decode cX2_put 67 = .ok (.if_icmp .ge 30, 3) := by decide +kernel
theorem dX2_put_70 : decode cX2_put 70 = .ok (.aload_n 0, 1) := by decide +kernel
theorem dX2_put_71 : decode cX2_put 71 = .ok (.getfield 9, 3) := by decide +kernel
theorem dX2_put_74 : decode cX2_put 74 = .ok (.aload_n 0, 1) := by decide +kernel
theorem dX2_put_75 : decode cX2_put 75 = .ok (.getfield 27, 3) := by decide +kernel
theorem dX2_put_78 : decode cX2_put 78 = .ok (.iload_n 1, 1) := by decide +kernel
theorem dX2_put_79 : decode cX2_put 79 = .ok (.iastore, 1) := by decide +kernel
theorem dX2_put_80 : decode cX2_put 80 = .ok (.aload_n 0, 1) := by decide +kernel
theorem dX2_put_81 : decode cX2_put 81 = .ok (.getfield 15, 3) := by decide +kernel
theorem dX2_put_84 : decode cX2_put 84 = .ok (.iload_n 1, 1) := by decide +kernel
theorem dX2_put_85 : decode cX2_put 85 = .ok (.lload_n 2, 1) := by decide +kernel
theorem dX2_put_86 : decode cX2_put 86 = .ok (.lastore, 1) := by decide +kernel
theorem dX2_put_87 : decode cX2_put 87 = .ok (.aload_n 0, 1) := by decide +kernel
theorem dX2_put_88 : decode cX2_put 88 = .ok (.dup, 1) := by decide +kernel
theorem dX2_put_89 : decode cX2_put 89 = .ok (.getfield 27, 3) := by decide +kernel
theorem dX2_put_92 : decode cX2_put 92 = .ok (.iconst 1, 1) := by decide +kernel
theorem dX2_put_93 : decode cX2_put 93 = .ok (.iadd, 1) := by decide +kernel
theorem dX2_put_94 : decode cX2_put 94 = .ok (.putfield 27, 3) := by decide +kernel
theorem dX2_put_97 : decode cX2_put 97 = .ok (.return_, 1) := by decide +kernel
theorem dX2_keepThoseAt_0 : decode cX2_keepThoseAt 0 = .ok (.iconst 0, 1) := by decide +kernel
theorem dX2_keepThoseAt_1 : decode cX2_keepThoseAt 1 = .ok (.istore_n 2, 1) := by decide +kernel
theorem dX2_keepThoseAt_2 : decode cX2_keepThoseAt 2 = .ok (.iconst 0, 1) := by decide +kernel
theorem dX2_keepThoseAt_3 : decode cX2_keepThoseAt 3 = .ok (.istore_n 3, 1) := by decide +kernel
theorem dX2_keepThoseAt_4 : decode cX2_keepThoseAt 4 = .ok (.iload_n 3, 1) := by decide +kernel
theorem dX2_keepThoseAt_5 : decode cX2_keepThoseAt 5 = .ok (.aload_n 0, 1) := by decide +kernel
theorem dX2_keepThoseAt_6 : decode cX2_keepThoseAt 6 = .ok (.getfield 27, 3) := by decide +kernel
theorem dX2_keepThoseAt_9 : decode cX2_keepThoseAt 9 = .ok (.if_icmp .ge 50, 3) := by decide +kernel
theorem dX2_keepThoseAt_12 : decode cX2_keepThoseAt 12 = .ok (.aload_n 0, 1) := by decide +kernel
theorem dX2_keepThoseAt_13 : decode cX2_keepThoseAt 13 = .ok (.getfield 9, 3) := by decide +kernel
theorem dX2_keepThoseAt_16 : decode cX2_keepThoseAt 16 = .ok (.iload_n 3, 1) := by decide +kernel
theorem dX2_keepThoseAt_17 : decode cX2_keepThoseAt 17 = .ok (.iaload, 1) := by decide +kernel
theorem dX2_keepThoseAt_18 : decode cX2_keepThoseAt 18 = .ok (.istore 4, 2) := by decide +kernel
theorem dX2_keepThoseAt_20 : decode cX2_keepThoseAt 20 = .ok (.iload 4, 2) := by decide +kernel
theorem dX2_keepThoseAt_22 : decode cX2_keepThoseAt 22 = .ok (.invokestatic 37, 3) := by decide +kernel
theorem dX2_keepThoseAt_25 : decode cX2_keepThoseAt 25 = .ok (.iload_n 1, 1) := by decide +kernel
theorem dX2_keepThoseAt_26 : decode cX2_keepThoseAt 26 = .ok (.if_icmp .ne 17, 3) := by decide +kernel
theorem dX2_keepThoseAt_29 : decode cX2_keepThoseAt 29 = .ok (.aload_n 0, 1) := by decide +kernel
theorem dX2_keepThoseAt_30 : decode cX2_keepThoseAt 30 = .ok (.getfield 9, 3) := by decide +kernel
theorem dX2_keepThoseAt_33 : decode cX2_keepThoseAt 33 = .ok (.iload_n 2, 1) := by decide +kernel
theorem dX2_keepThoseAt_34 : decode cX2_keepThoseAt 34 = .ok (.iload 4, 2) := by decide +kernel
theorem dX2_keepThoseAt_36 : decode cX2_keepThoseAt 36 = .ok (.iastore, 1) := by decide +kernel
theorem dX2_keepThoseAt_37 : decode cX2_keepThoseAt 37 = .ok (.iinc 2 1, 3) := by decide +kernel
theorem dX2_keepThoseAt_40 : decode cX2_keepThoseAt 40 = .ok (.goto 13, 3) := by decide +kernel
theorem dX2_keepThoseAt_43 : decode cX2_keepThoseAt 43 = .ok (.aload_n 0, 1) := by decide +kernel
theorem dX2_keepThoseAt_44 : decode cX2_keepThoseAt 44 = .ok (.getfield 15, 3) := by decide +kernel
theorem dX2_keepThoseAt_47 : decode cX2_keepThoseAt 47 = .ok (.iload 4, 2) := by decide +kernel
theorem dX2_keepThoseAt_49 : decode cX2_keepThoseAt 49 = .ok (.ldc2_w 19, 3) := by decide +kernel
theorem dX2_keepThoseAt_52 : decode cX2_keepThoseAt 52 = .ok (.lastore, 1) := by decide +kernel
theorem dX2_keepThoseAt_53 : decode cX2_keepThoseAt 53 = .ok (.iinc 3 1, 3) := by decide +kernel
theorem dX2_keepThoseAt_56 : decode cX2_keepThoseAt 56 = .ok (.goto (-52), 3) := by decide +kernel
theorem dX2_keepThoseAt_59 : decode cX2_keepThoseAt 59 = .ok (.aload_n 0, 1) := by decide +kernel
theorem dX2_keepThoseAt_60 : decode cX2_keepThoseAt 60 = .ok (.iload_n 2, 1) := by decide +kernel
theorem dX2_keepThoseAt_61 : decode cX2_keepThoseAt 61 = .ok (.putfield 27, 3) := by decide +kernel
theorem dX2_keepThoseAt_64 : decode cX2_keepThoseAt 64 = .ok (.return_, 1) := by decide +kernel
theorem dX2_least_0 : decode cX2_least 0 = .ok (.ldc2_w 19, 3) := by decide +kernel
theorem dX2_least_3 : decode cX2_least 3 = .ok (.lstore_n 1, 1) := by decide +kernel
theorem dX2_least_4 : decode cX2_least 4 = .ok (.iconst 0, 1) := by decide +kernel
theorem dX2_least_5 : decode cX2_least 5 = .ok (.istore_n 3, 1) := by decide +kernel
theorem dX2_least_6 : decode cX2_least 6 = .ok (.iload_n 3, 1) := by decide +kernel
theorem dX2_least_7 : decode cX2_least 7 = .ok (.aload_n 0, 1) := by decide +kernel
theorem dX2_least_8 : decode cX2_least 8 = .ok (.getfield 27, 3) := by decide +kernel
theorem dX2_least_11 : decode cX2_least 11 = .ok (.if_icmp .ge 45, 3) := by decide +kernel
theorem dX2_least_14 : decode cX2_least 14 = .ok (.lload_n 1, 1) := by decide +kernel
theorem dX2_least_15 : decode cX2_least 15 = .ok (.ldc2_w 19, 3) := by decide +kernel
theorem dX2_least_18 : decode cX2_least 18 = .ok (.lcmp, 1) := by decide +kernel
theorem dX2_least_19 : decode cX2_least 19 = .ok (.ifCond .eq 19, 3) := by decide +kernel
theorem dX2_least_22 : decode cX2_least 22 = .ok (.aload_n 0, 1) := by decide +kernel
theorem dX2_least_23 : decode cX2_least 23 = .ok (.getfield 15, 3) := by decide +kernel
theorem dX2_least_26 : decode cX2_least 26 = .ok (.aload_n 0, 1) := by decide +kernel
theorem dX2_least_27 : decode cX2_least 27 = .ok (.getfield 9, 3) := by decide +kernel
theorem dX2_least_30 : decode cX2_least 30 = .ok (.iload_n 3, 1) := by decide +kernel
theorem dX2_least_31 : decode cX2_least 31 = .ok (.iaload, 1) := by decide +kernel
theorem dX2_least_32 : decode cX2_least 32 = .ok (.laload, 1) := by decide +kernel
theorem dX2_least_33 : decode cX2_least 33 = .ok (.lload_n 1, 1) := by decide +kernel
theorem dX2_least_34 : decode cX2_least 34 = .ok (.lcmp, 1) := by decide +kernel
theorem dX2_least_35 : decode cX2_least 35 = .ok (.ifCond .ge 15, 3) := by decide +kernel
theorem dX2_least_38 : decode cX2_least 38 = .ok (.aload_n 0, 1) := by decide +kernel
theorem dX2_least_39 : decode cX2_least 39 = .ok (.getfield 15, 3) := by decide +kernel
theorem dX2_least_42 : decode cX2_least 42 = .ok (.aload_n 0, 1) := by decide +kernel
theorem dX2_least_43 : decode cX2_least 43 = .ok (.getfield 9, 3) := by decide +kernel
theorem dX2_least_46 : decode cX2_least 46 = .ok (.iload_n 3, 1) := by decide +kernel
theorem dX2_least_47 : decode cX2_least 47 = .ok (.iaload, 1) := by decide +kernel
theorem dX2_least_48 : decode cX2_least 48 = .ok (.laload, 1) := by decide +kernel
theorem dX2_least_49 : decode cX2_least 49 = .ok (.lstore_n 1, 1) := by decide +kernel
theorem dX2_least_50 : decode cX2_least 50 = .ok (.iinc 3 1, 3) := by decide +kernel
theorem dX2_least_53 : decode cX2_least 53 = .ok (.goto (-47), 3) := by decide +kernel
theorem dX2_least_56 : decode cX2_least 56 = .ok (.lload_n 1, 1) := by decide +kernel
theorem dX2_least_57 : decode cX2_least 57 = .ok (.lreturn, 1) := by decide +kernel
theorem dX2_sum_0 : decode cX2_sum 0 = .ok (.lconst 0, 1) := by decide +kernel
theorem dX2_sum_1 : decode cX2_sum 1 = .ok (.lstore_n 1, 1) := by decide +kernel
theorem dX2_sum_2 : decode cX2_sum 2 = .ok (.iconst 0, 1) := by decide +kernel
theorem dX2_sum_3 : decode cX2_sum 3 = .ok (.istore_n 3, 1) := by decide +kernel
theorem dX2_sum_4 : decode cX2_sum 4 = .ok (.iload_n 3, 1) := by decide +kernel
theorem dX2_sum_5 : decode cX2_sum 5 = .ok (.aload_n 0, 1) := by decide +kernel
theorem dX2_sum_6 : decode cX2_sum 6 = .ok (.getfield 27, 3) := by decide +kernel
theorem dX2_sum_9 : decode cX2_sum 9 = .ok (.if_icmp .ge 23, 3) := by decide +kernel
theorem dX2_sum_12 : decode cX2_sum 12 = .ok (.lload_n 1, 1) := by decide +kernel
theorem dX2_sum_13 : decode cX2_sum 13 = .ok (.aload_n 0, 1) := by decide +kernel
theorem dX2_sum_14 : decode cX2_sum 14 = .ok (.getfield 15, 3) := by decide +kernel
theorem dX2_sum_17 : decode cX2_sum 17 = .ok (.aload_n 0, 1) := by decide +kernel
theorem dX2_sum_18 : decode cX2_sum 18 = .ok (.getfield 9, 3) := by decide +kernel
theorem dX2_sum_21 : decode cX2_sum 21 = .ok (.iload_n 3, 1) := by decide +kernel
theorem dX2_sum_22 : decode cX2_sum 22 = .ok (.iaload, 1) := by decide +kernel
theorem dX2_sum_23 : decode cX2_sum 23 = .ok (.laload, 1) := by decide +kernel
theorem dX2_sum_24 : decode cX2_sum 24 = .ok (.ladd, 1) := by decide +kernel
theorem dX2_sum_25 : decode cX2_sum 25 = .ok (.lstore_n 1, 1) := by decide +kernel
theorem dX2_sum_26 : decode cX2_sum 26 = .ok (.iinc 3 1, 3) := by decide +kernel
theorem dX2_sum_29 : decode cX2_sum 29 = .ok (.goto (-25), 3) := by decide +kernel
theorem dX2_sum_32 : decode cX2_sum 32 = .ok (.lload_n 1, 1) := by decide +kernel
theorem dX2_sum_33 : decode cX2_sum 33 = .ok (.lreturn, 1) := by decide +kernel
theorem dX3_init_0 : decode cX3_init 0 = .ok (.aload_n 0, 1) := by decide +kernel
theorem dX3_init_1 : decode cX3_init 1 = .ok (.invokespecial 1, 3) := by decide +kernel
theorem dX3_init_4 : decode cX3_init 4 = .ok (.return_, 1) := by decide +kernel
theorem dX3_begin_0 : decode cX3_begin 0 = .ok (.aload_n 0, 1) := by decide +kernel
theorem dX3_begin_1 : decode cX3_begin 1 = .ok (.iconst 0, 1) := by decide +kernel
theorem dX3_begin_2 : decode cX3_begin 2 = .ok (.putfield 7, 3) := by decide +kernel
theorem dX3_begin_5 : decode cX3_begin 5 = .ok (.aload_n 0, 1) := by decide +kernel
theorem dX3_begin_6 : decode cX3_begin 6 = .ok (.aload_n 1, 1) := by decide +kernel
theorem dX3_begin_7 : decode cX3_begin 7 = .ok (.invokevirtual 13, 3) := by decide +kernel
theorem dX3_begin_10 : decode cX3_begin 10 = .ok (.putfield 19, 3) := by decide +kernel
theorem dX3_begin_13 : decode cX3_begin 13 = .ok (.aload_n 0, 1) := by decide +kernel
theorem dX3_begin_14 : decode cX3_begin 14 = .ok (.iconst 0, 1) := by decide +kernel
theorem dX3_begin_15 : decode cX3_begin 15 = .ok (.putfield 22, 3) := by decide +kernel
theorem dX3_begin_18 : decode cX3_begin 18 = .ok (.return_, 1) := by decide +kernel
theorem dX4_init_0 : decode cX4_init 0 = .ok (.aload_n 0, 1) := by decide +kernel
theorem dX4_init_1 : decode cX4_init 1 = .ok (.invokespecial 3, 3) := by decide +kernel
theorem dX4_init_4 : decode cX4_init 4 = .ok (.aload_n 0, 1) := by decide +kernel
theorem dX4_init_5 : decode cX4_init 5 = .ok (.bipush 8, 2) := by decide +kernel
theorem dX4_init_7 : decode cX4_init 7 = .ok (.newarray .int, 2) := by decide +kernel
theorem dX4_init_9 : decode cX4_init 9 = .ok (.putfield 9, 3) := by decide +kernel
theorem dX4_init_12 : decode cX4_init 12 = .ok (.aload_n 0, 1) := by decide +kernel
theorem dX4_init_13 : decode cX4_init 13 = .ok (.bipush 8, 2) := by decide +kernel
theorem dX4_init_15 : decode cX4_init 15 = .ok (.newarray .int, 2) := by decide +kernel
theorem dX4_init_17 : decode cX4_init 17 = .ok (.putfield 15, 3) := by decide +kernel
theorem dX4_init_20 : decode cX4_init 20 = .ok (.aload_n 0, 1) := by decide +kernel
theorem dX4_init_21 : decode cX4_init 21 = .ok (.bipush 8, 2) := by decide +kernel
theorem dX4_init_23 : decode cX4_init 23 = .ok (.newarray .int, 2) := by decide +kernel
theorem dX4_init_25 : decode cX4_init 25 = .ok (.putfield 18, 3) := by decide +kernel
theorem dX4_init_28 : decode cX4_init 28 = .ok (.return_, 1) := by decide +kernel
theorem dX4_size_0 : decode cX4_size 0 = .ok (.aload_n 0, 1) := by decide +kernel
theorem dX4_size_1 : decode cX4_size 1 = .ok (.getfield 21, 3) := by decide +kernel
theorem dX4_size_4 : decode cX4_size 4 = .ok (.ireturn, 1) := by decide +kernel
theorem dX4_clear_0 : decode cX4_clear 0 = .ok (.aload_n 0, 1) := by decide +kernel
theorem dX4_clear_1 : decode cX4_clear 1 = .ok (.iconst 0, 1) := by decide +kernel
theorem dX4_clear_2 : decode cX4_clear 2 = .ok (.putfield 21, 3) := by decide +kernel
theorem dX4_clear_5 : decode cX4_clear 5 = .ok (.return_, 1) := by decide +kernel
theorem dX4_push_0 : decode cX4_push 0 = .ok (.aload_n 0, 1) := by decide +kernel
theorem dX4_push_1 : decode cX4_push 1 = .ok (.getfield 21, 3) := by decide +kernel
theorem dX4_push_4 : decode cX4_push 4 = .ok (.bipush 8, 2) := by decide +kernel
theorem dX4_push_6 : decode cX4_push 6 = .ok (.if_icmp .lt 7, 3) := by decide +kernel
theorem dX4_push_9 : decode cX4_push 9 = .ok (.aload_n 0, 1) := by decide +kernel
theorem dX4_push_10 : decode cX4_push 10 = .ok (.invokevirtual 25, 3) := by decide +kernel
theorem dX4_push_13 : decode cX4_push 13 = .ok (.aload_n 0, 1) := by decide +kernel
theorem dX4_push_14 : decode cX4_push 14 = .ok (.getfield 9, 3) := by decide +kernel
theorem dX4_push_17 : decode cX4_push 17 = .ok (.aload_n 0, 1) := by decide +kernel
theorem dX4_push_18 : decode cX4_push 18 = .ok (.getfield 21, 3) := by decide +kernel
theorem dX4_push_21 : decode cX4_push 21 = .ok (.aload_n 1, 1) := by decide +kernel
theorem dX4_push_22 : decode cX4_push 22 = .ok (.getfield 28, 3) := by decide +kernel
theorem dX4_push_25 : decode cX4_push 25 = .ok (.iastore, 1) := by decide +kernel
theorem dX4_push_26 : decode cX4_push 26 = .ok (.aload_n 0, 1) := by decide +kernel
theorem dX4_push_27 : decode cX4_push 27 = .ok (.getfield 15, 3) := by decide +kernel
theorem dX4_push_30 : decode cX4_push 30 = .ok (.aload_n 0, 1) := by decide +kernel
theorem dX4_push_31 : decode cX4_push 31 = .ok (.getfield 21, 3) := by decide +kernel
theorem dX4_push_34 : decode cX4_push 34 = .ok (.aload_n 1, 1) := by decide +kernel
theorem dX4_push_35 : decode cX4_push 35 = .ok (.getfield 33, 3) := by decide +kernel
theorem dX4_push_38 : decode cX4_push 38 = .ok (.iastore, 1) := by decide +kernel
theorem dX4_push_39 : decode cX4_push 39 = .ok (.aload_n 0, 1) := by decide +kernel
theorem dX4_push_40 : decode cX4_push 40 = .ok (.getfield 18, 3) := by decide +kernel
theorem dX4_push_43 : decode cX4_push 43 = .ok (.aload_n 0, 1) := by decide +kernel
theorem dX4_push_44 : decode cX4_push 44 = .ok (.getfield 21, 3) := by decide +kernel
theorem dX4_push_47 : decode cX4_push 47 = .ok (.aload_n 1, 1) := by decide +kernel
theorem dX4_push_48 : decode cX4_push 48 = .ok (.getfield 36, 3) := by decide +kernel
theorem dX4_push_51 : decode cX4_push 51 = .ok (.iastore, 1) := by decide +kernel
theorem dX4_push_52 : decode cX4_push 52 = .ok (.aload_n 0, 1) := by decide +kernel
theorem dX4_push_53 : decode cX4_push 53 = .ok (.dup, 1) := by decide +kernel
theorem dX4_push_54 : decode cX4_push 54 = .ok (.getfield 21, 3) := by decide +kernel
theorem dX4_push_57 : decode cX4_push 57 = .ok (.iconst 1, 1) := by decide +kernel
theorem dX4_push_58 : decode cX4_push 58 = .ok (.iadd, 1) := by decide +kernel
theorem dX4_push_59 : decode cX4_push 59 = .ok (.putfield 21, 3) := by decide +kernel
theorem dX4_push_62 : decode cX4_push 62 = .ok (.return_, 1) := by decide +kernel
theorem dX4_dropLowest_0 : decode cX4_dropLowest 0 = .ok (.iconst 1, 1) := by decide +kernel
theorem dX4_dropLowest_1 : decode cX4_dropLowest 1 = .ok (.istore_n 1, 1) := by decide +kernel
theorem dX4_dropLowest_2 : decode cX4_dropLowest 2 = .ok (.iload_n 1, 1) := by decide +kernel
theorem dX4_dropLowest_3 : decode cX4_dropLowest 3 = .ok (.bipush 8, 2) := by decide +kernel
theorem dX4_dropLowest_5 : decode cX4_dropLowest 5 = .ok (.if_icmp .ge 51, 3) := by decide +kernel
theorem dX4_dropLowest_8 : decode cX4_dropLowest 8 = .ok (.aload_n 0, 1) := by decide +kernel
theorem dX4_dropLowest_9 : decode cX4_dropLowest 9 = .ok (.getfield 9, 3) := by decide +kernel
theorem dX4_dropLowest_12 : decode cX4_dropLowest 12 = .ok (.iload_n 1, 1) := by decide +kernel
theorem dX4_dropLowest_13 : decode cX4_dropLowest 13 = .ok (.iconst 1, 1) := by decide +kernel
theorem dX4_dropLowest_14 : decode cX4_dropLowest 14 = .ok (.isub, 1) := by decide +kernel
theorem dX4_dropLowest_15 : decode cX4_dropLowest 15 = .ok (.aload_n 0, 1) := by decide +kernel
theorem dX4_dropLowest_16 : decode cX4_dropLowest 16 = .ok (.getfield 9, 3) := by decide +kernel
theorem dX4_dropLowest_19 : decode cX4_dropLowest 19 = .ok (.iload_n 1, 1) := by decide +kernel
theorem dX4_dropLowest_20 : decode cX4_dropLowest 20 = .ok (.iaload, 1) := by decide +kernel
theorem dX4_dropLowest_21 : decode cX4_dropLowest 21 = .ok (.iastore, 1) := by decide +kernel
theorem dX4_dropLowest_22 : decode cX4_dropLowest 22 = .ok (.aload_n 0, 1) := by decide +kernel
theorem dX4_dropLowest_23 : decode cX4_dropLowest 23 = .ok (.getfield 15, 3) := by decide +kernel
theorem dX4_dropLowest_26 : decode cX4_dropLowest 26 = .ok (.iload_n 1, 1) := by decide +kernel
theorem dX4_dropLowest_27 : decode cX4_dropLowest 27 = .ok (.iconst 1, 1) := by decide +kernel
theorem dX4_dropLowest_28 : decode cX4_dropLowest 28 = .ok (.isub, 1) := by decide +kernel
theorem dX4_dropLowest_29 : decode cX4_dropLowest 29 = .ok (.aload_n 0, 1) := by decide +kernel
theorem dX4_dropLowest_30 : decode cX4_dropLowest 30 = .ok (.getfield 15, 3) := by decide +kernel
theorem dX4_dropLowest_33 : decode cX4_dropLowest 33 = .ok (.iload_n 1, 1) := by decide +kernel
theorem dX4_dropLowest_34 : decode cX4_dropLowest 34 = .ok (.iaload, 1) := by decide +kernel
theorem dX4_dropLowest_35 : decode cX4_dropLowest 35 = .ok (.iastore, 1) := by decide +kernel
theorem dX4_dropLowest_36 : decode cX4_dropLowest 36 = .ok (.aload_n 0, 1) := by decide +kernel
theorem dX4_dropLowest_37 : decode cX4_dropLowest 37 = .ok (.getfield 18, 3) := by decide +kernel
theorem dX4_dropLowest_40 : decode cX4_dropLowest 40 = .ok (.iload_n 1, 1) := by decide +kernel
theorem dX4_dropLowest_41 : decode cX4_dropLowest 41 = .ok (.iconst 1, 1) := by decide +kernel
theorem dX4_dropLowest_42 : decode cX4_dropLowest 42 = .ok (.isub, 1) := by decide +kernel
theorem dX4_dropLowest_43 : decode cX4_dropLowest 43 = .ok (.aload_n 0, 1) := by decide +kernel
theorem dX4_dropLowest_44 : decode cX4_dropLowest 44 = .ok (.getfield 18, 3) := by decide +kernel
theorem dX4_dropLowest_47 : decode cX4_dropLowest 47 = .ok (.iload_n 1, 1) := by decide +kernel
theorem dX4_dropLowest_48 : decode cX4_dropLowest 48 = .ok (.iaload, 1) := by decide +kernel
theorem dX4_dropLowest_49 : decode cX4_dropLowest 49 = .ok (.iastore, 1) := by decide +kernel
theorem dX4_dropLowest_50 : decode cX4_dropLowest 50 = .ok (.iinc 1 1, 3) := by decide +kernel
theorem dX4_dropLowest_53 : decode cX4_dropLowest 53 = .ok (.goto (-51), 3) := by decide +kernel
theorem dX4_dropLowest_56 : decode cX4_dropLowest 56 = .ok (.aload_n 0, 1) := by decide +kernel
theorem dX4_dropLowest_57 : decode cX4_dropLowest 57 = .ok (.bipush 7, 2) := by decide +kernel
theorem dX4_dropLowest_59 : decode cX4_dropLowest 59 = .ok (.putfield 21, 3) := by decide +kernel
theorem dX4_dropLowest_62 : decode cX4_dropLowest 62 = .ok (.return_, 1) := by decide +kernel
theorem dX4_pop_0 : decode cX4_pop 0 = .ok (.aload_n 0, 1) := by decide +kernel
theorem dX4_pop_1 : decode cX4_pop 1 = .ok (.getfield 21, 3) := by decide +kernel
theorem dX4_pop_4 : decode cX4_pop 4 = .ok (.ifCond .le 52, 3) := by decide +kernel
theorem dX4_pop_7 : decode cX4_pop 7 = .ok (.aload_n 0, 1) := by decide +kernel
theorem dX4_pop_8 : decode cX4_pop 8 = .ok (.dup, 1) := by decide +kernel
theorem dX4_pop_9 : decode cX4_pop 9 = .ok (.getfield 21, 3) := by decide +kernel
theorem dX4_pop_12 : decode cX4_pop 12 = .ok (.iconst 1, 1) := by decide +kernel
theorem dX4_pop_13 : decode cX4_pop 13 = .ok (.isub, 1) := by decide +kernel
theorem dX4_pop_14 : decode cX4_pop 14 = .ok (.putfield 21, 3) := by decide +kernel
theorem dX4_pop_17 : decode cX4_pop 17 = .ok (.aload_n 1, 1) := by decide +kernel
theorem dX4_pop_18 : decode cX4_pop 18 = .ok (.aload_n 0, 1) := by decide +kernel
theorem dX4_pop_19 : decode cX4_pop 19 = .ok (.getfield 9, 3) := by decide +kernel
theorem dX4_pop_22 : decode cX4_pop 22 = .ok (.aload_n 0, 1) := by decide +kernel
theorem dX4_pop_23 : decode cX4_pop 23 = .ok (.getfield 21, 3) := by decide +kernel
theorem dX4_pop_26 : decode cX4_pop 26 = .ok (.iaload, 1) := by decide +kernel
theorem dX4_pop_27 : decode cX4_pop 27 = .ok (.putfield 28, 3) := by decide +kernel
theorem dX4_pop_30 : decode cX4_pop 30 = .ok (.aload_n 1, 1) := by decide +kernel
theorem dX4_pop_31 : decode cX4_pop 31 = .ok (.aload_n 0, 1) := by decide +kernel
theorem dX4_pop_32 : decode cX4_pop 32 = .ok (.getfield 15, 3) := by decide +kernel
theorem dX4_pop_35 : decode cX4_pop 35 = .ok (.aload_n 0, 1) := by decide +kernel
theorem dX4_pop_36 : decode cX4_pop 36 = .ok (.getfield 21, 3) := by decide +kernel
theorem dX4_pop_39 : decode cX4_pop 39 = .ok (.iaload, 1) := by decide +kernel
theorem dX4_pop_40 : decode cX4_pop 40 = .ok (.putfield 33, 3) := by decide +kernel
theorem dX4_pop_43 : decode cX4_pop 43 = .ok (.aload_n 1, 1) := by decide +kernel
theorem dX4_pop_44 : decode cX4_pop 44 = .ok (.aload_n 0, 1) := by decide +kernel
theorem dX4_pop_45 : decode cX4_pop 45 = .ok (.getfield 18, 3) := by decide +kernel
theorem dX4_pop_48 : decode cX4_pop 48 = .ok (.aload_n 0, 1) := by decide +kernel
theorem dX4_pop_49 : decode cX4_pop 49 = .ok (.getfield 21, 3) := by decide +kernel
theorem dX4_pop_52 : decode cX4_pop 52 = .ok (.iaload, 1) := by decide +kernel
theorem dX4_pop_53 : decode cX4_pop 53 = .ok (.putfield 36, 3) := by decide +kernel
theorem dX4_pop_56 : decode cX4_pop 56 = .ok (.return_, 1) := by decide +kernel
theorem dX5_init_0 : decode cX5_init 0 = .ok (.aload_n 0, 1) := by decide +kernel
theorem dX5_init_1 : decode cX5_init 1 = .ok (.invokespecial 3, 3) := by decide +kernel
theorem dX5_init_4 : decode cX5_init 4 = .ok (.aload_n 0, 1) := by decide +kernel
theorem dX5_init_5 : decode cX5_init 5 = .ok (.aload_n 1, 1) := by decide +kernel
theorem dX5_init_6 : decode cX5_init 6 = .ok (.putfield 9, 3) := by decide +kernel
theorem dX5_init_9 : decode cX5_init 9 = .ok (.return_, 1) := by decide +kernel
theorem dX5_readInto_0 : decode cX5_readInto 0 = .ok (.aload_n 1, 1) := by decide +kernel
theorem dX5_readInto_1 : decode cX5_readInto 1 = .ok (.invokevirtual 15, 3) := by decide +kernel
theorem dX5_readInto_4 : decode cX5_readInto 4 = .ok (.aload_n 0, 1) := by decide +kernel
theorem dX5_readInto_5 : decode cX5_readInto 5 = .ok (.iconst 0, 1) := by decide +kernel
theorem dX5_readInto_6 : decode cX5_readInto 6 = .ok (.putfield 20, 3) := by decide +kernel
theorem dX5_readInto_9 : decode cX5_readInto 9 = .ok (.iconst 0, 1) := by decide +kernel
theorem dX5_readInto_10 : decode cX5_readInto 10 = .ok (.istore_n 2, 1) := by decide +kernel
theorem dX5_readInto_11 : decode cX5_readInto 11 = .ok (.iload_n 2, 1) := by decide +kernel
theorem dX5_readInto_12 : decode cX5_readInto 12 = .ok (.sipush 300, 3) := by decide +kernel
theorem dX5_readInto_15 : decode cX5_readInto 15 = .ok (.if_icmp .ge 38, 3) := by decide +kernel
theorem dX5_readInto_18 : decode cX5_readInto 18 = .ok (.aload_n 0, 1) := by decide +kernel
theorem dX5_readInto_19 : decode cX5_readInto 19 = .ok (.getfield 20, 3) := by decide +kernel
theorem dX5_readInto_22 : decode cX5_readInto 22 = .ok (.aload_n 0, 1) := by decide +kernel
theorem dX5_readInto_23 : decode cX5_readInto 23 = .ok (.getfield 9, 3) := by decide +kernel
theorem dX5_readInto_26 : decode cX5_readInto 26 = .ok (.invokevirtual 24, 3) := by decide +kernel
theorem dX5_readInto_29 : decode cX5_readInto 29 = .ok (.if_icmp .ge 24, 3) := by decide +kernel
theorem dX5_readInto_32 : decode cX5_readInto 32 = .ok (.aload_n 0, 1) := by decide +kernel
theorem dX5_readInto_33 : decode cX5_readInto 33 = .ok (.getfield 20, 3) := by decide +kernel
theorem dX5_readInto_36 : decode cX5_readInto 36 = .ok (.istore_n 3, 1) := by decide +kernel
theorem dX5_readInto_37 : decode cX5_readInto 37 = .ok (.aload_n 0, 1) := by decide +kernel
theorem dX5_readInto_38 : decode cX5_readInto 38 = .ok (.aload_n 1, 1) := by decide +kernel
theorem dX5_readInto_39 : decode cX5_readInto 39 = .ok (.invokevirtual 30, 3) := by decide +kernel
theorem dX5_readInto_42 : decode cX5_readInto 42 = .ok (.ifCond .ne 5, 3) := by decide +kernel
theorem dX5_readInto_45 : decode cX5_readInto 45 = .ok (.iload_n 3, 1) := by decide +kernel
theorem dX5_readInto_46 : decode cX5_readInto 46 = .ok (.ireturn, 1) := by decide +kernel
theorem dX5_readInto_47 : decode cX5_readInto 47 = .ok (.iinc 2 1, 3) := by decide +kernel
theorem dX5_readInto_50 : decode cX5_readInto 50 = .ok (.goto (-39), 3) := by decide +kernel
theorem dX5_readInto_53 : decode cX5_readInto 53 = .ok (.bipush (-4), 2) := by decide +kernel
theorem dX5_readInto_55 : decode cX5_readInto 55 = .ok (.ireturn, 1) := by decide +kernel
theorem dX5_readItem_0 : decode cX5_readItem 0 = .ok (.aload_n 0, 1) := by decide +kernel
theorem dX5_readItem_1 : decode cX5_readItem 1 = .ok (.getfield 9, 3) := by decide +kernel
theorem dX5_readItem_4 : decode cX5_readItem 4 = .ok (.aload_n 0, 1) := by decide +kernel
theorem dX5_readItem_5 : decode cX5_readItem 5 = .ok (.getfield 20, 3) := by decide +kernel
theorem dX5_readItem_8 : decode cX5_readItem 8 = .ok (.invokevirtual 34, 3) := by decide +kernel
theorem dX5_readItem_11 : decode cX5_readItem 11 = .ok (.istore_n 2, 1) := by decide +kernel
theorem dX5_readItem_12 : decode cX5_readItem 12 = .ok (.aload_n 0, 1) := by decide +kernel
theorem dX5_readItem_13 : decode cX5_readItem 13 = .ok (.dup, 1) := by decide +kernel
theorem dX5_readItem_14 : decode cX5_readItem 14 = .ok (.getfield 20, 3) := by decide +kernel
theorem dX5_readItem_17 : decode cX5_readItem 17 = .ok (.iconst 1, 1) := by decide +kernel
theorem dX5_readItem_18 : decode cX5_readItem 18 = .ok (.iadd, 1) := by decide +kernel
theorem dX5_readItem_19 : decode cX5_readItem 19 = .ok (.putfield 20, 3) := by decide +kernel
theorem dX5_readItem_22 : decode cX5_readItem 22 = .ok (.iload_n 2, 1) := by decide +kernel
theorem dX5_readItem_23 : decode cX5_readItem 23 = .ok (.bipush 108, 2) := by decide +kernel
theorem dX5_readItem_25 : decode cX5_readItem 25 = .ok (.if_icmp .ne 9, 3) := by decide +kernel
theorem dX5_readItem_28 : decode cX5_readItem 28 = .ok (.aload_n 0, 1) := by decide +kernel
theorem dX5_readItem_29 : decode cX5_readItem 29 = .ok (.aload_n 1, 1) := by decide +kernel
theorem dX5_readItem_30 : decode cX5_readItem 30 = .ok (.invokevirtual 38, 3) := by decide +kernel
theorem dX5_readItem_33 : decode cX5_readItem 33 = .ok (.ireturn, 1) := by decide +kernel
theorem dX5_readItem_34 : decode cX5_readItem 34 = .ok (.iload_n 2, 1) := by decide +kernel
theorem dX5_readItem_35 : decode cX5_readItem 35 = .ok (.bipush 119, 2) := by decide +kernel
theorem dX5_readItem_37 : decode cX5_readItem 37 = .ok (.if_icmp .ne 9, 3) := by decide +kernel
theorem dX5_readItem_40 : decode cX5_readItem 40 = .ok (.aload_n 0, 1) := by decide +kernel
theorem dX5_readItem_41 : decode cX5_readItem 41 = .ok (.aload_n 1, 1) := by decide +kernel
theorem dX5_readItem_42 : decode cX5_readItem 42 = .ok (.invokevirtual 41, 3) := by decide +kernel
theorem dX5_readItem_45 : decode cX5_readItem 45 = .ok (.ireturn, 1) := by decide +kernel
theorem dX5_readItem_46 : decode cX5_readItem 46 = .ok (.aload_n 0, 1) := by decide +kernel
theorem dX5_readItem_47 : decode cX5_readItem 47 = .ok (.invokevirtual 44, 3) := by decide +kernel
theorem dX5_readItem_50 : decode cX5_readItem 50 = .ok (.istore_n 3, 1) := by decide +kernel
theorem dX5_readItem_51 : decode cX5_readItem 51 = .ok (.iload_n 3, 1) := by decide +kernel
theorem dX5_readItem_52 : decode cX5_readItem 52 = .ok (.ifCond .lt 12, 3) := by decide +kernel
theorem dX5_readItem_55 : decode cX5_readItem 55 = .ok (.aload_n 0, 1) := by decide +kernel
theorem dX5_readItem_56 : decode cX5_readItem 56 = .ok (.bipush 59, 2) := by decide +kernel
theorem dX5_readItem_58 : decode cX5_readItem 58 = .ok (.invokevirtual 47, 3) := by decide +kernel
theorem dX5_readItem_61 : decode cX5_readItem 61 = .ok (.ifCond .ne 5, 3) := by decide +kernel
theorem dX5_readItem_64 : decode cX5_readItem 64 = .ok (.iconst 0, 1) := by decide +kernel
theorem dX5_readItem_65 : decode cX5_readItem 65 = .ok (.ireturn, 1) := by decide +kernel
theorem dX5_readItem_66 : decode cX5_readItem 66 = .ok (.iload_n 2, 1) := by decide +kernel
theorem dX5_readItem_67 : decode cX5_readItem 67 = .ok (.lookupswitch 65 #[(99, 59), (102, 53), (112, 47), (121, 41)], 41) := by decide +kernel
theorem dX5_readItem_108 : decode cX5_readItem 108 = .ok (.aload_n 1, 1) := by decide +kernel
theorem dX5_readItem_109 : decode cX5_readItem 109 = .ok (.iload_n 3, 1) := by decide +kernel
theorem dX5_readItem_110 : decode cX5_readItem 110 = .ok (.invokevirtual 51, 3) := by decide +kernel
theorem dX5_readItem_113 : decode cX5_readItem 113 = .ok (.ireturn, 1) := by decide +kernel
theorem dX5_readItem_114 : decode cX5_readItem 114 = .ok (.aload_n 1, 1) := by decide +kernel
theorem dX5_readItem_115 : decode cX5_readItem 115 = .ok (.iload_n 3, 1) := by decide +kernel
theorem dX5_readItem_116 : decode cX5_readItem 116 = .ok (.invokevirtual 54, 3) := by decide +kernel
theorem dX5_readItem_119 : decode cX5_readItem 119 = .ok (.ireturn, 1) := by decide +kernel
theorem dX5_readItem_120 : decode cX5_readItem 120 = .ok (.aload_n 1, 1) := by decide +kernel
theorem dX5_readItem_121 : decode cX5_readItem 121 = .ok (.iload_n 3, 1) := by decide +kernel
theorem dX5_readItem_122 : decode cX5_readItem 122 = .ok (.invokevirtual 57, 3) := by decide +kernel
theorem dX5_readItem_125 : decode cX5_readItem 125 = .ok (.ireturn, 1) := by decide +kernel
theorem dX5_readItem_126 : decode cX5_readItem 126 = .ok (.aload_n 1, 1) := by decide +kernel
theorem dX5_readItem_127 : decode cX5_readItem 127 = .ok (.iload_n 3, 1) := by decide +kernel
theorem dX5_readItem_128 : decode cX5_readItem 128 = .ok (.invokevirtual 60, 3) := by decide +kernel
theorem dX5_readItem_131 : decode cX5_readItem 131 = .ok (.ireturn, 1) := by decide +kernel
theorem dX5_readItem_132 : decode cX5_readItem 132 = .ok (.iconst 0, 1) := by decide +kernel
theorem dX5_readItem_133 : decode cX5_readItem 133 = .ok (.ireturn, 1) := by decide +kernel
theorem dX5_readLane_0 : decode cX5_readLane 0 = .ok (.aload_n 0, 1) := by decide +kernel
theorem dX5_readLane_1 : decode cX5_readLane 1 = .ok (.invokevirtual 44, 3) := by decide +kernel
theorem dX5_readLane_4 : decode cX5_readLane 4 = .ok (.istore_n 2, 1) := by decide +kernel
theorem dX5_readLane_5 : decode cX5_readLane 5 = .ok (.iload_n 2, 1) := by decide +kernel
theorem dX5_readLane_6 : decode cX5_readLane 6 = .ok (.ifCond .lt 12, 3) := by decide +kernel
theorem dX5_readLane_9 : decode cX5_readLane 9 = .ok (.aload_n 0, 1) := by decide +kernel
theorem dX5_readLane_10 : decode cX5_readLane 10 = .ok (.bipush 44, 2) := by decide +kernel
theorem dX5_readLane_12 : decode cX5_readLane 12 = .ok (.invokevirtual 47, 3) := by decide +kernel
theorem dX5_readLane_15 : decode cX5_readLane 15 = .ok (.ifCond .ne 5, 3) := by decide +kernel
theorem dX5_readLane_18 : decode cX5_readLane 18 = .ok (.iconst 0, 1) := by decide +kernel
theorem dX5_readLane_19 : decode cX5_readLane 19 = .ok (.ireturn, 1) := by decide +kernel
theorem dX5_readLane_20 : decode cX5_readLane 20 = .ok (.aload_n 0, 1) := by decide +kernel
theorem dX5_readLane_21 : decode cX5_readLane 21 = .ok (.invokevirtual 44, 3) := by decide +kernel
theorem dX5_readLane_24 : decode cX5_readLane 24 = .ok (.istore_n 3, 1) := by decide +kernel
theorem dX5_readLane_25 : decode cX5_readLane 25 = .ok (.iload_n 3, 1) := by decide +kernel
theorem dX5_readLane_26 : decode cX5_readLane 26 = .ok (.ifCond .lt 25, 3) := by decide +kernel
theorem dX5_readLane_29 : decode cX5_readLane 29 = .ok (.aload_n 0, 1) := by decide +kernel
theorem dX5_readLane_30 : decode cX5_readLane 30 = .ok (.bipush 59, 2) := by decide +kernel
theorem dX5_readLane_32 : decode cX5_readLane 32 = .ok (.invokevirtual 47, 3) := by decide +kernel
theorem dX5_readLane_35 : decode cX5_readLane 35 = .ok (.ifCond .eq 16, 3) := by decide +kernel
theorem dX5_readLane_38 : decode cX5_readLane 38 = .ok (.aload_n 1, 1) := by decide +kernel
theorem dX5_readLane_39 : decode cX5_readLane 39 = .ok (.iload_n 2, 1) := by decide +kernel
theorem dX5_readLane_40 : decode cX5_readLane 40 = .ok (.iload_n 3, 1) := by decide +kernel
theorem dX5_readLane_41 : decode cX5_readLane 41 = .ok (.invokevirtual 63, 3) := by decide +kernel
theorem dX5_readLane_44 : decode cX5_readLane 44 = .ok (.ifCond .eq 7, 3) := by decide +kernel
theorem dX5_readLane_47 : decode cX5_readLane 47 = .ok (.iconst 1, 1) := by decide +kernel
theorem dX5_readLane_48 : decode cX5_readLane 48 = .ok (.goto 4, 3) := by decide +kernel
theorem dX5_readLane_51 : decode cX5_readLane 51 = .ok (.iconst 0, 1) := by decide +kernel
theorem dX5_readLane_52 : decode cX5_readLane 52 = .ok (.ireturn, 1) := by decide +kernel
theorem dX5_readWay_0 : decode cX5_readWay 0 = .ok (.aload_n 1, 1) := by decide +kernel
theorem dX5_readWay_1 : decode cX5_readWay 1 = .ok (.invokevirtual 67, 3) := by decide +kernel
theorem dX5_readWay_4 : decode cX5_readWay 4 = .ok (.ifCond .ne 5, 3) := by decide +kernel
theorem dX5_readWay_7 : decode cX5_readWay 7 = .ok (.iconst 0, 1) := by decide +kernel
theorem dX5_readWay_8 : decode cX5_readWay 8 = .ok (.ireturn, 1) := by decide +kernel
theorem dX5_readWay_9 : decode cX5_readWay 9 = .ok (.iconst 0, 1) := by decide +kernel
theorem dX5_readWay_10 : decode cX5_readWay 10 = .ok (.istore_n 2, 1) := by decide +kernel
theorem dX5_readWay_11 : decode cX5_readWay 11 = .ok (.iconst 0, 1) := by decide +kernel
theorem dX5_readWay_12 : decode cX5_readWay 12 = .ok (.istore_n 3, 1) := by decide +kernel
theorem dX5_readWay_13 : decode cX5_readWay 13 = .ok (.iload_n 3, 1) := by decide +kernel
theorem dX5_readWay_14 : decode cX5_readWay 14 = .ok (.bipush 12, 2) := by decide +kernel
theorem dX5_readWay_16 : decode cX5_readWay 16 = .ok (.if_icmp .ge 59, 3) := by decide +kernel
theorem dX5_readWay_19 : decode cX5_readWay 19 = .ok (.aload_n 0, 1) := by decide +kernel
theorem dX5_readWay_20 : decode cX5_readWay 20 = .ok (.getfield 9, 3) := by decide +kernel
theorem dX5_readWay_23 : decode cX5_readWay 23 = .ok (.aload_n 0, 1) := by decide +kernel
theorem dX5_readWay_24 : decode cX5_readWay 24 = .ok (.getfield 20, 3) := by decide +kernel
theorem dX5_readWay_27 : decode cX5_readWay 27 = .ok (.invokevirtual 34, 3) := by decide +kernel
theorem dX5_readWay_30 : decode cX5_readWay 30 = .ok (.bipush 48, 2) := by decide +kernel
theorem dX5_readWay_32 : decode cX5_readWay 32 = .ok (.isub, 1) := by decide +kernel
theorem dX5_readWay_33 : decode cX5_readWay 33 = .ok (.istore 4, 2) := by decide +kernel
theorem dX5_readWay_35 : decode cX5_readWay 35 = .ok (.iload 4, 2) := by decide +kernel
theorem dX5_readWay_37 : decode cX5_readWay 37 = .ok (.ifCond .lt 38, 3) := by decide +kernel
theorem dX5_readWay_40 : decode cX5_readWay 40 = .ok (.iload 4, 2) := by decide +kernel
theorem dX5_readWay_42 : decode cX5_readWay 42 = .ok (.bipush 8, 2) := by decide +kernel
theorem dX5_readWay_44 : decode cX5_readWay 44 = .ok (.if_icmp .lt 6, 3) := by decide +kernel
theorem dX5_readWay_47 : decode cX5_readWay 47 = .ok (.goto 28, 3) := by decide +kernel
theorem dX5_readWay_50 : decode cX5_readWay 50 = .ok (.aload_n 1, 1) := by decide +kernel
theorem dX5_readWay_51 : decode cX5_readWay 51 = .ok (.iload 4, 2) := by decide +kernel
theorem dX5_readWay_53 : decode cX5_readWay 53 = .ok (.invokevirtual 71, 3) := by decide +kernel
theorem dX5_readWay_56 : decode cX5_readWay 56 = .ok (.iinc 2 1, 3) := by decide +kernel
theorem dX5_readWay_59 : decode cX5_readWay 59 = .ok (.aload_n 0, 1) := by decide +kernel
theorem dX5_readWay_60 : decode cX5_readWay 60 = .ok (.dup, 1) := by decide +kernel
theorem dX5_readWay_61 : decode cX5_readWay 61 = .ok (.getfield 20, 3) := by decide +kernel
theorem dX5_readWay_64 : decode cX5_readWay 64 = .ok (.iconst 1, 1) := by decide +kernel
theorem dX5_readWay_65 : decode cX5_readWay 65 = .ok (.iadd, 1) := by decide +kernel
theorem dX5_readWay_66 : decode cX5_readWay 66 = .ok (.putfield 20, 3) := by decide +kernel
theorem dX5_readWay_69 : decode cX5_readWay 69 = .ok (.iinc 3 1, 3) := by decide +kernel
theorem dX5_readWay_72 : decode cX5_readWay 72 = .ok (.goto (-59), 3) := by decide +kernel
theorem dX5_readWay_75 : decode cX5_readWay 75 = .ok (.iload_n 2, 1) := by decide +kernel
theorem dX5_readWay_76 : decode cX5_readWay 76 = .ok (.ifCond .le 16, 3) := by decide +kernel
theorem dX5_readWay_79 : decode cX5_readWay 79 = .ok (.aload_n 0, 1) := by decide +kernel
theorem dX5_readWay_80 : decode cX5_readWay 80 = .ok (.bipush 59, 2) := by decide +kernel
theorem dX5_readWay_82 : decode cX5_readWay 82 = .ok (.invokevirtual 47, 3) := by decide +kernel
theorem dX5_readWay_85 : decode cX5_readWay 85 = .ok (.ifCond .eq 7, 3) := by decide +kernel
theorem dX5_readWay_88 : decode cX5_readWay 88 = .ok (.iconst 1, 1) := by decide +kernel
theorem dX5_readWay_89 : decode cX5_readWay 89 = .ok (.goto 4, 3) := by decide +kernel
theorem dX5_readWay_92 : decode cX5_readWay 92 = .ok (.iconst 0, 1) := by decide +kernel
theorem dX5_readWay_93 : decode cX5_readWay 93 = .ok (.ireturn, 1) := by decide +kernel
theorem dX5_readNumber_0 : decode cX5_readNumber 0 = .ok (.aload_n 0, 1) := by decide +kernel
theorem dX5_readNumber_1 : decode cX5_readNumber 1 = .ok (.invokevirtual 75, 3) := by decide +kernel
theorem dX5_readNumber_4 : decode cX5_readNumber 4 = .ok (.istore_n 1, 1) := by decide +kernel
theorem dX5_readNumber_5 : decode cX5_readNumber 5 = .ok (.iload_n 1, 1) := by decide +kernel
theorem dX5_readNumber_6 : decode cX5_readNumber 6 = .ok (.ifCond .ge 5, 3) := by decide +kernel
theorem dX5_readNumber_9 : decode cX5_readNumber 9 = .ok (.iconst (-1), 1) := by decide +kernel
theorem dX5_readNumber_10 : decode cX5_readNumber 10 = .ok (.ireturn, 1) := by decide +kernel
theorem dX5_readNumber_11 : decode cX5_readNumber 11 = .ok (.aload_n 0, 1) := by decide +kernel
theorem dX5_readNumber_12 : decode cX5_readNumber 12 = .ok (.dup, 1) := by decide +kernel
theorem dX5_readNumber_13 : decode cX5_readNumber 13 = .ok (.getfield 20, 3) := by decide +kernel
theorem dX5_readNumber_16 : decode cX5_readNumber 16 = .ok (.iconst 1, 1) := by decide +kernel
theorem dX5_readNumber_17 : decode cX5_readNumber 17 = .ok (.iadd, 1) := by decide +kernel
theorem dX5_readNumber_18 : decode cX5_readNumber 18 = .ok (.putfield 20, 3) := by decide +kernel
theorem dX5_readNumber_21 : decode cX5_readNumber 21 = .ok (.aload_n 0, 1) := by decide +kernel
theorem dX5_readNumber_22 : decode cX5_readNumber 22 = .ok (.invokevirtual 75, 3) := by decide +kernel
theorem dX5_readNumber_25 : decode cX5_readNumber 25 = .ok (.istore_n 2, 1) := by decide +kernel
theorem dX5_readNumber_26 : decode cX5_readNumber 26 = .ok (.iload_n 2, 1) := by decide +kernel
theorem dX5_readNumber_27 : decode cX5_readNumber 27 = .ok (.ifCond .ge 5, 3) := by decide +kernel
theorem dX5_readNumber_30 : decode cX5_readNumber 30 = .ok (.iload_n 1, 1) := by decide +kernel
theorem dX5_readNumber_31 : decode cX5_readNumber 31 = .ok (.ireturn, 1) := by decide +kernel
theorem dX5_readNumber_32 : decode cX5_readNumber 32 = .ok (.aload_n 0, 1) := by decide +kernel
theorem dX5_readNumber_33 : decode cX5_readNumber 33 = .ok (.dup, 1) := by decide +kernel
theorem dX5_readNumber_34 : decode cX5_readNumber 34 = .ok (.getfield 20, 3) := by decide +kernel
theorem dX5_readNumber_37 : decode cX5_readNumber 37 = .ok (.iconst 1, 1) := by decide +kernel
theorem dX5_readNumber_38 : decode cX5_readNumber 38 = .ok (.iadd, 1) := by decide +kernel
theorem dX5_readNumber_39 : decode cX5_readNumber 39 = .ok (.putfield 20, 3) := by decide +kernel
theorem dX5_readNumber_42 : decode cX5_readNumber 42 = .ok (.iload_n 1, 1) := by decide +kernel
theorem dX5_readNumber_43 : decode cX5_readNumber 43 = .ok (.bipush 10, 2) := by decide +kernel
theorem dX5_readNumber_45 : decode cX5_readNumber 45 = .ok (.imul, 1) := by decide +kernel
theorem dX5_readNumber_46 : decode cX5_readNumber 46 = .ok (.iload_n 2, 1) := by decide +kernel
theorem dX5_readNumber_47 : decode cX5_readNumber 47 = .ok (.iadd, 1) := by decide +kernel
theorem dX5_readNumber_48 : decode cX5_readNumber 48 = .ok (.ireturn, 1) := by decide +kernel
theorem dX5_figureHere_0 : decode cX5_figureHere 0 = .ok (.aload_n 0, 1) := by decide +kernel
theorem dX5_figureHere_1 : decode cX5_figureHere 1 = .ok (.getfield 9, 3) := by decide +kernel
theorem dX5_figureHere_4 : decode cX5_figureHere 4 = .ok (.aload_n 0, 1) := by decide +kernel
theorem dX5_figureHere_5 : decode cX5_figureHere 5 = .ok (.getfield 20, 3) := by decide +kernel
theorem dX5_figureHere_8 : decode cX5_figureHere 8 = .ok (.invokevirtual 34, 3) := by decide +kernel
theorem dX5_figureHere_11 : decode cX5_figureHere 11 = .ok (.istore_n 1, 1) := by decide +kernel
theorem dX5_figureHere_12 : decode cX5_figureHere 12 = .ok (.iload_n 1, 1) := by decide +kernel
theorem dX5_figureHere_13 : decode cX5_figureHere 13 = .ok (.bipush 48, 2) := by decide +kernel
theorem dX5_figureHere_15 : decode cX5_figureHere 15 = .ok (.if_icmp .lt 16, 3) := by decide +kernel
theorem dX5_figureHere_18 : decode cX5_figureHere 18 = .ok (.iload_n 1, 1) := by decide +kernel
theorem dX5_figureHere_19 : decode cX5_figureHere 19 = .ok (.bipush 57, 2) := by decide +kernel
theorem dX5_figureHere_21 : decode cX5_figureHere 21 = .ok (.if_icmp .gt 10, 3) := by decide +kernel
theorem dX5_figureHere_24 : decode cX5_figureHere 24 = .ok (.iload_n 1, 1) := by decide +kernel
theorem dX5_figureHere_25 : decode cX5_figureHere 25 = .ok (.bipush 48, 2) := by decide +kernel
theorem dX5_figureHere_27 : decode cX5_figureHere 27 = .ok (.isub, 1) := by decide +kernel
theorem dX5_figureHere_28 : decode cX5_figureHere 28 = .ok (.goto 4, 3) := by decide +kernel
theorem dX5_figureHere_31 : decode cX5_figureHere 31 = .ok (.iconst (-1), 1) := by decide +kernel
theorem dX5_figureHere_32 : decode cX5_figureHere 32 = .ok (.ireturn, 1) := by decide +kernel
theorem dX5_takes_0 : decode cX5_takes 0 = .ok (.aload_n 0, 1) := by decide +kernel
theorem dX5_takes_1 : decode cX5_takes 1 = .ok (.getfield 9, 3) := by decide +kernel
theorem dX5_takes_4 : decode cX5_takes 4 = .ok (.aload_n 0, 1) := by decide +kernel
theorem dX5_takes_5 : decode cX5_takes 5 = .ok (.getfield 20, 3) := by decide +kernel
theorem dX5_takes_8 : decode cX5_takes 8 = .ok (.invokevirtual 34, 3) := by decide +kernel
theorem dX5_takes_11 : decode cX5_takes 11 = .ok (.iload_n 1, 1) := by decide +kernel
theorem dX5_takes_12 : decode cX5_takes 12 = .ok (.if_icmp .eq 5, 3) := by decide +kernel
theorem dX5_takes_15 : decode cX5_takes 15 = .ok (.iconst 0, 1) := by decide +kernel
theorem dX5_takes_16 : decode cX5_takes 16 = .ok (.ireturn, 1) := by decide +kernel
theorem dX5_takes_17 : decode cX5_takes 17 = .ok (.aload_n 0, 1) := by decide +kernel
theorem dX5_takes_18 : decode cX5_takes 18 = .ok (.dup, 1) := by decide +kernel
theorem dX5_takes_19 : decode cX5_takes 19 = .ok (.getfield 20, 3) := by decide +kernel
theorem dX5_takes_22 : decode cX5_takes 22 = .ok (.iconst 1, 1) := by decide +kernel
theorem dX5_takes_23 : decode cX5_takes 23 = .ok (.iadd, 1) := by decide +kernel
theorem dX5_takes_24 : decode cX5_takes 24 = .ok (.putfield 20, 3) := by decide +kernel
theorem dX5_takes_27 : decode cX5_takes 27 = .ok (.iconst 1, 1) := by decide +kernel
theorem dX5_takes_28 : decode cX5_takes 28 = .ok (.ireturn, 1) := by decide +kernel
theorem dX6_init_0 : decode cX6_init 0 = .ok (.aload_n 0, 1) := by decide +kernel
theorem dX6_init_1 : decode cX6_init 1 = .ok (.invokespecial 3, 3) := by decide +kernel
theorem dX6_init_4 : decode cX6_init 4 = .ok (.aload_n 0, 1) := by decide +kernel
theorem dX6_init_5 : decode cX6_init 5 = .ok (.sipush 390, 3) := by decide +kernel
theorem dX6_init_8 : decode cX6_init 8 = .ok (.newarray .int, 2) := by decide +kernel
theorem dX6_init_10 : decode cX6_init 10 = .ok (.putfield 11, 3) := by decide +kernel
theorem dX6_init_13 : decode cX6_init 13 = .ok (.return_, 1) := by decide +kernel
theorem dX6_clear_0 : decode cX6_clear 0 = .ok (.aload_n 0, 1) := by decide +kernel
theorem dX6_clear_1 : decode cX6_clear 1 = .ok (.getfield 11, 3) := by decide +kernel
theorem dX6_clear_4 : decode cX6_clear 4 = .ok (.iconst 0, 1) := by decide +kernel
theorem dX6_clear_5 : decode cX6_clear 5 = .ok (.invokestatic 15, 3) := by decide +kernel
theorem dX6_clear_8 : decode cX6_clear 8 = .ok (.return_, 1) := by decide +kernel
theorem dX6_has_0 : decode cX6_has 0 = .ok (.iload_n 1, 1) := by decide +kernel
theorem dX6_has_1 : decode cX6_has 1 = .ok (.iload_n 2, 1) := by decide +kernel
theorem dX6_has_2 : decode cX6_has 2 = .ok (.invokestatic 21, 3) := by decide +kernel
theorem dX6_has_5 : decode cX6_has 5 = .ok (.ifCond .eq 31, 3) := by decide +kernel
theorem dX6_has_8 : decode cX6_has 8 = .ok (.aload_n 0, 1) := by decide +kernel
theorem dX6_has_9 : decode cX6_has 9 = .ok (.getfield 11, 3) := by decide +kernel
theorem dX6_has_12 : decode cX6_has 12 = .ok (.iload_n 1, 1) := by decide +kernel
theorem dX6_has_13 : decode cX6_has 13 = .ok (.bipush 30, 2) := by decide +kernel
theorem dX6_has_15 : decode cX6_has 15 = .ok (.imul, 1) := by decide +kernel
theorem dX6_has_16 : decode cX6_has 16 = .ok (.iload_n 2, 1) := by decide +kernel
theorem dX6_has_17 : decode cX6_has 17 = .ok (.bipush 32, 2) := by decide +kernel
theorem dX6_has_19 : decode cX6_has 19 = .ok (.idiv, 1) := by decide +kernel
theorem dX6_has_20 : decode cX6_has 20 = .ok (.iadd, 1) := by decide +kernel
theorem dX6_has_21 : decode cX6_has 21 = .ok (.iaload, 1) := by decide +kernel
theorem dX6_has_22 : decode cX6_has 22 = .ok (.iload_n 2, 1) := by decide +kernel
theorem dX6_has_23 : decode cX6_has 23 = .ok (.bipush 32, 2) := by decide +kernel
theorem dX6_has_25 : decode cX6_has 25 = .ok (.irem, 1) := by decide +kernel
theorem dX6_has_26 : decode cX6_has 26 = .ok (.iushr, 1) := by decide +kernel
theorem dX6_has_27 : decode cX6_has 27 = .ok (.iconst 1, 1) := by decide +kernel
theorem dX6_has_28 : decode cX6_has 28 = .ok (.iand, 1) := by decide +kernel
theorem dX6_has_29 : decode cX6_has 29 = .ok (.ifCond .eq 7, 3) := by decide +kernel
theorem dX6_has_32 : decode cX6_has 32 = .ok (.iconst 1, 1) := by decide +kernel
theorem dX6_has_33 : decode cX6_has 33 = .ok (.goto 4, 3) := by decide +kernel
theorem dX6_has_36 : decode cX6_has 36 = .ok (.iconst 0, 1) := by decide +kernel
theorem dX6_has_37 : decode cX6_has 37 = .ok (.ireturn, 1) := by decide +kernel
theorem dX6_add_0 : decode cX6_add 0 = .ok (.iload_n 1, 1) := by decide +kernel
theorem dX6_add_1 : decode cX6_add 1 = .ok (.iload_n 2, 1) := by decide +kernel
theorem dX6_add_2 : decode cX6_add 2 = .ok (.invokestatic 21, 3) := by decide +kernel
theorem dX6_add_5 : decode cX6_add 5 = .ok (.ifCond .eq 26, 3) := by decide +kernel
theorem dX6_add_8 : decode cX6_add 8 = .ok (.aload_n 0, 1) := by decide +kernel
theorem dX6_add_9 : decode cX6_add 9 = .ok (.getfield 11, 3) := by decide +kernel
theorem dX6_add_12 : decode cX6_add 12 = .ok (.iload_n 1, 1) := by decide +kernel
theorem dX6_add_13 : decode cX6_add 13 = .ok (.bipush 30, 2) := by decide +kernel
theorem dX6_add_15 : decode cX6_add 15 = .ok (.imul, 1) := by decide +kernel
end
section
theorem dX6_add_16 : decode cX6_add 16 = .ok (.iload_n 2, 1) := by decide +kernel
theorem dX6_add_17 : decode cX6_add 17 = .ok (.bipush 32, 2) := by decide +kernel
theorem dX6_add_19 : decode cX6_add 19 = .ok (.idiv, 1) := by decide +kernel
theorem dX6_add_20 : decode cX6_add 20 = .ok (.iadd, 1) := by decide +kernel
theorem dX6_add_21 : decode cX6_add 21 = .ok (.dup2, 1) := by decide +kernel
theorem dX6_add_22 : decode cX6_add 22 = .ok (.iaload, 1) := by decide +kernel
theorem dX6_add_23 : decode cX6_add 23 = .ok (.iconst 1, 1) := by decide +kernel
theorem dX6_add_24 : decode cX6_add 24 = .ok (.iload_n 2, 1) := by decide +kernel
theorem dX6_add_25 : decode cX6_add 25 = .ok (.bipush 32, 2) := by decide +kernel
theorem dX6_add_27 : decode cX6_add 27 = .ok (.irem, 1) := by decide +kernel
theorem dX6_add_28 : decode cX6_add 28 = .ok (.ishl, 1) := by decide +kernel
theorem dX6_add_29 : decode cX6_add 29 = .ok (.ior, 1) := by decide +kernel
theorem dX6_add_30 : decode cX6_add 30 = .ok (.iastore, 1) := by decide +kernel
theorem dX6_add_31 : decode cX6_add 31 = .ok (.return_, 1) := by decide +kernel
theorem dX6_remove_0 : decode cX6_remove 0 = .ok (.iload_n 1, 1) := by decide +kernel
theorem dX6_remove_1 : decode cX6_remove 1 = .ok (.iload_n 2, 1) := by decide +kernel
theorem dX6_remove_2 : decode cX6_remove 2 = .ok (.invokestatic 21, 3) := by decide +kernel
theorem dX6_remove_5 : decode cX6_remove 5 = .ok (.ifCond .eq 28, 3) := by decide +kernel
theorem dX6_remove_8 : decode cX6_remove 8 = .ok (.aload_n 0, 1) := by decide +kernel
theorem dX6_remove_9 : decode cX6_remove 9 = .ok (.getfield 11, 3) := by decide +kernel
theorem dX6_remove_12 : decode cX6_remove 12 = .ok (.iload_n 1, 1) := by decide +kernel
theorem dX6_remove_13 : decode cX6_remove 13 = .ok (.bipush 30, 2) := by decide +kernel
theorem dX6_remove_15 : decode cX6_remove 15 = .ok (.imul, 1) := by decide +kernel
theorem dX6_remove_16 : decode cX6_remove 16 = .ok (.iload_n 2, 1) := by decide +kernel
theorem dX6_remove_17 : decode cX6_remove 17 = .ok (.bipush 32, 2) := by decide +kernel
theorem dX6_remove_19 : decode cX6_remove 19 = .ok (.idiv, 1) := by decide +kernel
theorem dX6_remove_20 : decode cX6_remove 20 = .ok (.iadd, 1) := by decide +kernel
theorem dX6_remove_21 : decode cX6_remove 21 = .ok (.dup2, 1) := by decide +kernel
theorem dX6_remove_22 : decode cX6_remove 22 = .ok (.iaload, 1) := by decide +kernel
theorem dX6_remove_23 : decode cX6_remove 23 = .ok (.iconst 1, 1) := by decide +kernel
theorem dX6_remove_24 : decode cX6_remove 24 = .ok (.iload_n 2, 1) := by decide +kernel
theorem dX6_remove_25 : decode cX6_remove 25 = .ok (.bipush 32, 2) := by decide +kernel
theorem dX6_remove_27 : decode cX6_remove 27 = .ok (.irem, 1) := by decide +kernel
theorem dX6_remove_28 : decode cX6_remove 28 = .ok (.ishl, 1) := by decide +kernel
theorem dX6_remove_29 : decode cX6_remove 29 = .ok (.iconst (-1), 1) := by decide +kernel
theorem dX6_remove_30 : decode cX6_remove 30 = .ok (.ixor, 1) := by decide +kernel
theorem dX6_remove_31 : decode cX6_remove 31 = .ok (.iand, 1) := by decide +kernel
theorem dX6_remove_32 : decode cX6_remove 32 = .ok (.iastore, 1) := by decide +kernel
theorem dX6_remove_33 : decode cX6_remove 33 = .ok (.return_, 1) := by decide +kernel
theorem dX6_isOne_0 : decode cX6_isOne 0 = .ok (.iload_n 0, 1) := by decide +kernel
theorem dX6_isOne_1 : decode cX6_isOne 1 = .ok (.ifCond .lt 24, 3) := by decide +kernel
theorem dX6_isOne_4 : decode cX6_isOne 4 = .ok (.iload_n 0, 1) := by decide +kernel
theorem dX6_isOne_5 : decode cX6_isOne 5 = .ok (.bipush 12, 2) := by decide +kernel
theorem dX6_isOne_7 : decode cX6_isOne 7 = .ok (.if_icmp .gt 18, 3) := by decide +kernel
theorem dX6_isOne_10 : decode cX6_isOne 10 = .ok (.iload_n 1, 1) := by decide +kernel
theorem dX6_isOne_11 : decode cX6_isOne 11 = .ok (.ifCond .lt 14, 3) := by decide +kernel
theorem dX6_isOne_14 : decode cX6_isOne 14 = .ok (.iload_n 1, 1) := by decide +kernel
theorem dX6_isOne_15 : decode cX6_isOne 15 = .ok (.sipush 960, 3) := by decide +kernel
theorem dX6_isOne_18 : decode cX6_isOne 18 = .ok (.if_icmp .ge 7, 3) := by decide +kernel
theorem dX6_isOne_21 : decode cX6_isOne 21 = .ok (.iconst 1, 1) := by decide +kernel
theorem dX6_isOne_22 : decode cX6_isOne 22 = .ok (.goto 4, 3) := by decide +kernel
theorem dX6_isOne_25 : decode cX6_isOne 25 = .ok (.iconst 0, 1) := by decide +kernel
theorem dX6_isOne_26 : decode cX6_isOne 26 = .ok (.ireturn, 1) := by decide +kernel
theorem dX7_init_0 : decode cX7_init 0 = .ok (.aload_n 0, 1) := by decide +kernel
theorem dX7_init_1 : decode cX7_init 1 = .ok (.invokespecial 3, 3) := by decide +kernel
theorem dX7_init_4 : decode cX7_init 4 = .ok (.aload_n 0, 1) := by decide +kernel
theorem dX7_init_5 : decode cX7_init 5 = .ok (.new 9, 3) := by decide +kernel
theorem dX7_init_8 : decode cX7_init 8 = .ok (.dup, 1) := by decide +kernel
theorem dX7_init_9 : decode cX7_init 9 = .ok (.invokespecial 11, 3) := by decide +kernel
theorem dX7_init_12 : decode cX7_init 12 = .ok (.putfield 12, 3) := by decide +kernel
theorem dX7_init_15 : decode cX7_init 15 = .ok (.aload_n 0, 1) := by decide +kernel
theorem dX7_init_16 : decode cX7_init 16 = .ok (.new 9, 3) := by decide +kernel
theorem dX7_init_19 : decode cX7_init 19 = .ok (.dup, 1) := by decide +kernel
theorem dX7_init_20 : decode cX7_init 20 = .ok (.invokespecial 11, 3) := by decide +kernel
theorem dX7_init_23 : decode cX7_init 23 = .ok (.putfield 18, 3) := by decide +kernel
theorem dX7_init_26 : decode cX7_init 26 = .ok (.return_, 1) := by decide +kernel
theorem dX7_cheapest_0 : decode cX7_cheapest 0 = .ok (.aload_n 0, 1) := by decide +kernel
theorem dX7_cheapest_1 : decode cX7_cheapest 1 = .ok (.iconst 0, 1) := by decide +kernel
theorem dX7_cheapest_2 : decode cX7_cheapest 2 = .ok (.iconst (-1), 1) := by decide +kernel
theorem dX7_cheapest_3 : decode cX7_cheapest 3 = .ok (.invokevirtual 21, 3) := by decide +kernel
theorem dX7_cheapest_6 : decode cX7_cheapest 6 = .ok (.aload_n 0, 1) := by decide +kernel
theorem dX7_cheapest_7 : decode cX7_cheapest 7 = .ok (.getfield 12, 3) := by decide +kernel
theorem dX7_cheapest_10 : decode cX7_cheapest 10 = .ok (.aload_n 2, 1) := by decide +kernel
theorem dX7_cheapest_11 : decode cX7_cheapest 11 = .ok (.getfield 25, 3) := by decide +kernel
theorem dX7_cheapest_14 : decode cX7_cheapest 14 = .ok (.lconst 0, 1) := by decide +kernel
theorem dX7_cheapest_15 : decode cX7_cheapest 15 = .ok (.iconst 1, 1) := by decide +kernel
theorem dX7_cheapest_16 : decode cX7_cheapest 16 = .ok (.invokevirtual 31, 3) := by decide +kernel
theorem dX7_cheapest_19 : decode cX7_cheapest 19 = .ok (.aload_n 0, 1) := by decide +kernel
theorem dX7_cheapest_20 : decode cX7_cheapest 20 = .ok (.aload_n 1, 1) := by decide +kernel
theorem dX7_cheapest_21 : decode cX7_cheapest 21 = .ok (.aload_n 2, 1) := by decide +kernel
theorem dX7_cheapest_22 : decode cX7_cheapest 22 = .ok (.getfield 35, 3) := by decide +kernel
theorem dX7_cheapest_25 : decode cX7_cheapest 25 = .ok (.aload_n 3, 1) := by decide +kernel
theorem dX7_cheapest_26 : decode cX7_cheapest 26 = .ok (.invokevirtual 38, 3) := by decide +kernel
theorem dX7_cheapest_29 : decode cX7_cheapest 29 = .ok (.ireturn, 1) := by decide +kernel
theorem dX7_leastCost_0 : decode cX7_leastCost 0 = .ok (.aload_n 0, 1) := by decide +kernel
theorem dX7_leastCost_1 : decode cX7_leastCost 1 = .ok (.getfield 12, 3) := by decide +kernel
theorem dX7_leastCost_4 : decode cX7_leastCost 4 = .ok (.invokevirtual 42, 3) := by decide +kernel
theorem dX7_leastCost_7 : decode cX7_leastCost 7 = .ok (.ldc2_w 46, 3) := by decide +kernel
theorem dX7_leastCost_10 : decode cX7_leastCost 10 = .ok (.ldiv, 1) := by decide +kernel
theorem dX7_leastCost_11 : decode cX7_leastCost 11 = .ok (.l2i, 1) := by decide +kernel
theorem dX7_leastCost_12 : decode cX7_leastCost 12 = .ok (.ireturn, 1) := by decide +kernel
theorem dX7_firstFeeder_0 : decode cX7_firstFeeder 0 = .ok (.aload_n 0, 1) := by decide +kernel
theorem dX7_firstFeeder_1 : decode cX7_firstFeeder 1 = .ok (.getfield 12, 3) := by decide +kernel
theorem dX7_firstFeeder_4 : decode cX7_firstFeeder 4 = .ok (.invokevirtual 42, 3) := by decide +kernel
theorem dX7_firstFeeder_7 : decode cX7_firstFeeder 7 = .ok (.ldc2_w 46, 3) := by decide +kernel
theorem dX7_firstFeeder_10 : decode cX7_firstFeeder 10 = .ok (.lrem, 1) := by decide +kernel
theorem dX7_firstFeeder_11 : decode cX7_firstFeeder 11 = .ok (.l2i, 1) := by decide +kernel
theorem dX7_firstFeeder_12 : decode cX7_firstFeeder 12 = .ok (.iconst 1, 1) := by decide +kernel
theorem dX7_firstFeeder_13 : decode cX7_firstFeeder 13 = .ok (.isub, 1) := by decide +kernel
theorem dX7_firstFeeder_14 : decode cX7_firstFeeder 14 = .ok (.ireturn, 1) := by decide +kernel
theorem dX7_ways_0 : decode cX7_ways 0 = .ok (.aload_n 0, 1) := by decide +kernel
theorem dX7_ways_1 : decode cX7_ways 1 = .ok (.iconst 1, 1) := by decide +kernel
theorem dX7_ways_2 : decode cX7_ways 2 = .ok (.iload_n 3, 1) := by decide +kernel
theorem dX7_ways_3 : decode cX7_ways 3 = .ok (.invokevirtual 21, 3) := by decide +kernel
theorem dX7_ways_6 : decode cX7_ways 6 = .ok (.aload_n 0, 1) := by decide +kernel
theorem dX7_ways_7 : decode cX7_ways 7 = .ok (.getfield 12, 3) := by decide +kernel
theorem dX7_ways_10 : decode cX7_ways 10 = .ok (.aload_n 1, 1) := by decide +kernel
theorem dX7_ways_11 : decode cX7_ways 11 = .ok (.invokevirtual 48, 3) := by decide +kernel
theorem dX7_ways_14 : decode cX7_ways 14 = .ok (.lconst 1, 1) := by decide +kernel
theorem dX7_ways_15 : decode cX7_ways 15 = .ok (.iconst 0, 1) := by decide +kernel
theorem dX7_ways_16 : decode cX7_ways 16 = .ok (.invokevirtual 31, 3) := by decide +kernel
theorem dX7_ways_19 : decode cX7_ways 19 = .ok (.aload_n 0, 1) := by decide +kernel
theorem dX7_ways_20 : decode cX7_ways 20 = .ok (.aload_n 1, 1) := by decide +kernel
theorem dX7_ways_21 : decode cX7_ways 21 = .ok (.iconst 0, 1) := by decide +kernel
theorem dX7_ways_22 : decode cX7_ways 22 = .ok (.aload_n 2, 1) := by decide +kernel
theorem dX7_ways_23 : decode cX7_ways 23 = .ok (.invokevirtual 38, 3) := by decide +kernel
theorem dX7_ways_26 : decode cX7_ways 26 = .ok (.pop, 1) := by decide +kernel
theorem dX7_ways_27 : decode cX7_ways 27 = .ok (.aload_n 0, 1) := by decide +kernel
theorem dX7_ways_28 : decode cX7_ways 28 = .ok (.getfield 12, 3) := by decide +kernel
theorem dX7_ways_31 : decode cX7_ways 31 = .ok (.invokevirtual 54, 3) := by decide +kernel
theorem dX7_ways_34 : decode cX7_ways 34 = .ok (.lreturn, 1) := by decide +kernel
theorem dX7_weight_0 : decode cX7_weight 0 = .ok (.aload_n 0, 1) := by decide +kernel
theorem dX7_weight_1 : decode cX7_weight 1 = .ok (.iconst 2, 1) := by decide +kernel
theorem dX7_weight_2 : decode cX7_weight 2 = .ok (.iconst (-1), 1) := by decide +kernel
theorem dX7_weight_3 : decode cX7_weight 3 = .ok (.invokevirtual 21, 3) := by decide +kernel
theorem dX7_weight_6 : decode cX7_weight 6 = .ok (.aload_n 0, 1) := by decide +kernel
theorem dX7_weight_7 : decode cX7_weight 7 = .ok (.getfield 12, 3) := by decide +kernel
theorem dX7_weight_10 : decode cX7_weight 10 = .ok (.aload_n 2, 1) := by decide +kernel
theorem dX7_weight_11 : decode cX7_weight 11 = .ok (.getfield 25, 3) := by decide +kernel
theorem dX7_weight_14 : decode cX7_weight 14 = .ok (.lconst 1, 1) := by decide +kernel
theorem dX7_weight_15 : decode cX7_weight 15 = .ok (.iconst 0, 1) := by decide +kernel
theorem dX7_weight_16 : decode cX7_weight 16 = .ok (.invokevirtual 31, 3) := by decide +kernel
theorem dX7_weight_19 : decode cX7_weight 19 = .ok (.iconst 0, 1) := by decide +kernel
theorem dX7_weight_20 : decode cX7_weight 20 = .ok (.istore 5, 2) := by decide +kernel
theorem dX7_weight_22 : decode cX7_weight 22 = .ok (.iload 5, 2) := by decide +kernel
theorem dX7_weight_24 : decode cX7_weight 24 = .ok (.iload_n 3, 1) := by decide +kernel
theorem dX7_weight_25 : decode cX7_weight 25 = .ok (.if_icmp .ge 21, 3) := by decide +kernel
theorem dX7_weight_28 : decode cX7_weight 28 = .ok (.aload_n 0, 1) := by decide +kernel
theorem dX7_weight_29 : decode cX7_weight 29 = .ok (.aload_n 1, 1) := by decide +kernel
theorem dX7_weight_30 : decode cX7_weight 30 = .ok (.aload_n 2, 1) := by decide +kernel
theorem dX7_weight_31 : decode cX7_weight 31 = .ok (.getfield 35, 3) := by decide +kernel
theorem dX7_weight_34 : decode cX7_weight 34 = .ok (.iload 5, 2) := by decide +kernel
theorem dX7_weight_36 : decode cX7_weight 36 = .ok (.iadd, 1) := by decide +kernel
theorem dX7_weight_37 : decode cX7_weight 37 = .ok (.invokevirtual 57, 3) := by decide +kernel
theorem dX7_weight_40 : decode cX7_weight 40 = .ok (.iinc 5 1, 3) := by decide +kernel
theorem dX7_weight_43 : decode cX7_weight 43 = .ok (.goto (-21), 3) := by decide +kernel
theorem dX7_weight_46 : decode cX7_weight 46 = .ok (.aload_n 0, 1) := by decide +kernel
theorem dX7_weight_47 : decode cX7_weight 47 = .ok (.getfield 12, 3) := by decide +kernel
theorem dX7_weight_50 : decode cX7_weight 50 = .ok (.iload 4, 2) := by decide +kernel
theorem dX7_weight_52 : decode cX7_weight 52 = .ok (.invokevirtual 61, 3) := by decide +kernel
theorem dX7_weight_55 : decode cX7_weight 55 = .ok (.aload_n 0, 1) := by decide +kernel
theorem dX7_weight_56 : decode cX7_weight 56 = .ok (.getfield 12, 3) := by decide +kernel
theorem dX7_weight_59 : decode cX7_weight 59 = .ok (.invokevirtual 54, 3) := by decide +kernel
theorem dX7_weight_62 : decode cX7_weight 62 = .ok (.lreturn, 1) := by decide +kernel
theorem dX7_begin_0 : decode cX7_begin 0 = .ok (.aload_n 0, 1) := by decide +kernel
theorem dX7_begin_1 : decode cX7_begin 1 = .ok (.iload_n 1, 1) := by decide +kernel
theorem dX7_begin_2 : decode cX7_begin 2 = .ok (.putfield 65, 3) := by decide +kernel
theorem dX7_begin_5 : decode cX7_begin 5 = .ok (.aload_n 0, 1) := by decide +kernel
theorem dX7_begin_6 : decode cX7_begin 6 = .ok (.iload_n 2, 1) := by decide +kernel
theorem dX7_begin_7 : decode cX7_begin 7 = .ok (.putfield 68, 3) := by decide +kernel
theorem dX7_begin_10 : decode cX7_begin 10 = .ok (.aload_n 0, 1) := by decide +kernel
theorem dX7_begin_11 : decode cX7_begin 11 = .ok (.iconst 1, 1) := by decide +kernel
theorem dX7_begin_12 : decode cX7_begin 12 = .ok (.putfield 71, 3) := by decide +kernel
theorem dX7_begin_15 : decode cX7_begin 15 = .ok (.aload_n 0, 1) := by decide +kernel
theorem dX7_begin_16 : decode cX7_begin 16 = .ok (.getfield 12, 3) := by decide +kernel
theorem dX7_begin_19 : decode cX7_begin 19 = .ok (.invokevirtual 75, 3) := by decide +kernel
theorem dX7_begin_22 : decode cX7_begin 22 = .ok (.aload_n 0, 1) := by decide +kernel
theorem dX7_begin_23 : decode cX7_begin 23 = .ok (.getfield 18, 3) := by decide +kernel
theorem dX7_begin_26 : decode cX7_begin 26 = .ok (.invokevirtual 75, 3) := by decide +kernel
theorem dX7_begin_29 : decode cX7_begin 29 = .ok (.return_, 1) := by decide +kernel
theorem dX7_follow_0 : decode cX7_follow 0 = .ok (.aload_n 3, 1) := by decide +kernel
theorem dX7_follow_1 : decode cX7_follow 1 = .ok (.invokevirtual 78, 3) := by decide +kernel
theorem dX7_follow_4 : decode cX7_follow 4 = .ok (.istore 4, 2) := by decide +kernel
theorem dX7_follow_6 : decode cX7_follow 6 = .ok (.iconst 0, 1) := by decide +kernel
theorem dX7_follow_7 : decode cX7_follow 7 = .ok (.istore 5, 2) := by decide +kernel
theorem dX7_follow_9 : decode cX7_follow 9 = .ok (.iload 5, 2) := by decide +kernel
theorem dX7_follow_11 : decode cX7_follow 11 = .ok (.iload 4, 2) := by decide +kernel
theorem dX7_follow_13 : decode cX7_follow 13 = .ok (.if_icmp .gt 44, 3) := by decide +kernel
theorem dX7_follow_16 : decode cX7_follow 16 = .ok (.aload_n 0, 1) := by decide +kernel
theorem dX7_follow_17 : decode cX7_follow 17 = .ok (.aload_n 3, 1) := by decide +kernel
theorem dX7_follow_18 : decode cX7_follow 18 = .ok (.iload 5, 2) := by decide +kernel
theorem dX7_follow_20 : decode cX7_follow 20 = .ok (.invokevirtual 83, 3) := by decide +kernel
theorem dX7_follow_23 : decode cX7_follow 23 = .ok (.istore 6, 2) := by decide +kernel
theorem dX7_follow_25 : decode cX7_follow 25 = .ok (.iload 6, 2) := by decide +kernel
theorem dX7_follow_27 : decode cX7_follow 27 = .ok (.bipush (-4), 2) := by decide +kernel
theorem dX7_follow_29 : decode cX7_follow 29 = .ok (.if_icmp .eq 6, 3) := by decide +kernel
theorem dX7_follow_32 : decode cX7_follow 32 = .ok (.iload 6, 2) := by decide +kernel
theorem dX7_follow_34 : decode cX7_follow 34 = .ok (.ireturn, 1) := by decide +kernel
theorem dX7_follow_35 : decode cX7_follow 35 = .ok (.iload 5, 2) := by decide +kernel
theorem dX7_follow_37 : decode cX7_follow 37 = .ok (.iload 4, 2) := by decide +kernel
theorem dX7_follow_39 : decode cX7_follow 39 = .ok (.if_icmp .ge 12, 3) := by decide +kernel
theorem dX7_follow_42 : decode cX7_follow 42 = .ok (.aload_n 0, 1) := by decide +kernel
theorem dX7_follow_43 : decode cX7_follow 43 = .ok (.aload_n 1, 1) := by decide +kernel
theorem dX7_follow_44 : decode cX7_follow 44 = .ok (.iload_n 2, 1) := by decide +kernel
theorem dX7_follow_45 : decode cX7_follow 45 = .ok (.iload 5, 2) := by decide +kernel
theorem dX7_follow_47 : decode cX7_follow 47 = .ok (.iadd, 1) := by decide +kernel
theorem dX7_follow_48 : decode cX7_follow 48 = .ok (.invokevirtual 57, 3) := by decide +kernel
theorem dX7_follow_51 : decode cX7_follow 51 = .ok (.iinc 5 1, 3) := by decide +kernel
theorem dX7_follow_54 : decode cX7_follow 54 = .ok (.goto (-45), 3) := by decide +kernel
theorem dX7_follow_57 : decode cX7_follow 57 = .ok (.bipush (-4), 2) := by decide +kernel
theorem dX7_follow_59 : decode cX7_follow 59 = .ok (.ireturn, 1) := by decide +kernel
theorem dX7_sieve_0 : decode cX7_sieve 0 = .ok (.iconst 0, 1) := by decide +kernel
theorem dX7_sieve_1 : decode cX7_sieve 1 = .ok (.istore_n 3, 1) := by decide +kernel
theorem dX7_sieve_2 : decode cX7_sieve 2 = .ok (.iload_n 3, 1) := by decide +kernel
theorem dX7_sieve_3 : decode cX7_sieve 3 = .ok (.aload_n 1, 1) := by decide +kernel
theorem dX7_sieve_4 : decode cX7_sieve 4 = .ok (.invokevirtual 87, 3) := by decide +kernel
theorem dX7_sieve_7 : decode cX7_sieve 7 = .ok (.if_icmp .ge 42, 3) := by decide +kernel
theorem dX7_sieve_10 : decode cX7_sieve 10 = .ok (.aload_n 1, 1) := by decide +kernel
theorem dX7_sieve_11 : decode cX7_sieve 11 = .ok (.iload_n 3, 1) := by decide +kernel
theorem dX7_sieve_12 : decode cX7_sieve 12 = .ok (.iload_n 2, 1) := by decide +kernel
theorem dX7_sieve_13 : decode cX7_sieve 13 = .ok (.invokevirtual 90, 3) := by decide +kernel
theorem dX7_sieve_16 : decode cX7_sieve 16 = .ok (.ifCond .eq 27, 3) := by decide +kernel
theorem dX7_sieve_19 : decode cX7_sieve 19 = .ok (.aload_n 0, 1) := by decide +kernel
theorem dX7_sieve_20 : decode cX7_sieve 20 = .ok (.getfield 12, 3) := by decide +kernel
theorem dX7_sieve_23 : decode cX7_sieve 23 = .ok (.aload_n 1, 1) := by decide +kernel
theorem dX7_sieve_24 : decode cX7_sieve 24 = .ok (.iload_n 3, 1) := by decide +kernel
theorem dX7_sieve_25 : decode cX7_sieve 25 = .ok (.invokevirtual 94, 3) := by decide +kernel
theorem dX7_sieve_28 : decode cX7_sieve 28 = .ok (.invokevirtual 61, 3) := by decide +kernel
theorem dX7_sieve_31 : decode cX7_sieve 31 = .ok (.aload_n 0, 1) := by decide +kernel
theorem dX7_sieve_32 : decode cX7_sieve 32 = .ok (.getfield 12, 3) := by decide +kernel
theorem dX7_sieve_35 : decode cX7_sieve 35 = .ok (.invokevirtual 98, 3) := by decide +kernel
theorem dX7_sieve_38 : decode cX7_sieve 38 = .ok (.ifCond .ne 5, 3) := by decide +kernel
theorem dX7_sieve_41 : decode cX7_sieve 41 = .ok (.iload_n 3, 1) := by decide +kernel
theorem dX7_sieve_42 : decode cX7_sieve 42 = .ok (.ireturn, 1) := by decide +kernel
theorem dX7_sieve_43 : decode cX7_sieve 43 = .ok (.iinc 3 1, 3) := by decide +kernel
theorem dX7_sieve_46 : decode cX7_sieve 46 = .ok (.goto (-44), 3) := by decide +kernel
theorem dX7_sieve_49 : decode cX7_sieve 49 = .ok (.bipush (-4), 2) := by decide +kernel
theorem dX7_sieve_51 : decode cX7_sieve 51 = .ok (.ireturn, 1) := by decide +kernel
theorem dX7_spread_0 : decode cX7_spread 0 = .ok (.iconst 0, 1) := by decide +kernel
theorem dX7_spread_1 : decode cX7_spread 1 = .ok (.istore_n 3, 1) := by decide +kernel
theorem dX7_spread_2 : decode cX7_spread 2 = .ok (.iload_n 3, 1) := by decide +kernel
theorem dX7_spread_3 : decode cX7_spread 3 = .ok (.aload_n 0, 1) := by decide +kernel
theorem dX7_spread_4 : decode cX7_spread 4 = .ok (.getfield 12, 3) := by decide +kernel
theorem dX7_spread_7 : decode cX7_spread 7 = .ok (.invokevirtual 98, 3) := by decide +kernel
theorem dX7_spread_10 : decode cX7_spread 10 = .ok (.if_icmp .ge 31, 3) := by decide +kernel
theorem dX7_spread_13 : decode cX7_spread 13 = .ok (.aload_n 0, 1) := by decide +kernel
theorem dX7_spread_14 : decode cX7_spread 14 = .ok (.aload_n 1, 1) := by decide +kernel
theorem dX7_spread_15 : decode cX7_spread 15 = .ok (.aload_n 0, 1) := by decide +kernel
theorem dX7_spread_16 : decode cX7_spread 16 = .ok (.getfield 12, 3) := by decide +kernel
theorem dX7_spread_19 : decode cX7_spread 19 = .ok (.iload_n 3, 1) := by decide +kernel
theorem dX7_spread_20 : decode cX7_spread 20 = .ok (.invokevirtual 99, 3) := by decide +kernel
theorem dX7_spread_23 : decode cX7_spread 23 = .ok (.aload_n 0, 1) := by decide +kernel
theorem dX7_spread_24 : decode cX7_spread 24 = .ok (.getfield 12, 3) := by decide +kernel
theorem dX7_spread_27 : decode cX7_spread 27 = .ok (.iload_n 3, 1) := by decide +kernel
theorem dX7_spread_28 : decode cX7_spread 28 = .ok (.invokevirtual 101, 3) := by decide +kernel
theorem dX7_spread_31 : decode cX7_spread 31 = .ok (.iload_n 2, 1) := by decide +kernel
theorem dX7_spread_32 : decode cX7_spread 32 = .ok (.invokevirtual 105, 3) := by decide +kernel
theorem dX7_spread_35 : decode cX7_spread 35 = .ok (.iinc 3 1, 3) := by decide +kernel
theorem dX7_spread_38 : decode cX7_spread 38 = .ok (.goto (-36), 3) := by decide +kernel
theorem dX7_spread_41 : decode cX7_spread 41 = .ok (.aload_n 0, 1) := by decide +kernel
theorem dX7_spread_42 : decode cX7_spread 42 = .ok (.getfield 12, 3) := by decide +kernel
theorem dX7_spread_45 : decode cX7_spread 45 = .ok (.invokevirtual 75, 3) := by decide +kernel
theorem dX7_spread_48 : decode cX7_spread 48 = .ok (.aload_n 0, 1) := by decide +kernel
theorem dX7_spread_49 : decode cX7_spread 49 = .ok (.getfield 12, 3) := by decide +kernel
theorem dX7_spread_52 : decode cX7_spread 52 = .ok (.astore_n 3, 1) := by decide +kernel
theorem dX7_spread_53 : decode cX7_spread 53 = .ok (.aload_n 0, 1) := by decide +kernel
theorem dX7_spread_54 : decode cX7_spread 54 = .ok (.aload_n 0, 1) := by decide +kernel
theorem dX7_spread_55 : decode cX7_spread 55 = .ok (.getfield 18, 3) := by decide +kernel
theorem dX7_spread_58 : decode cX7_spread 58 = .ok (.putfield 12, 3) := by decide +kernel
theorem dX7_spread_61 : decode cX7_spread 61 = .ok (.aload_n 0, 1) := by decide +kernel
theorem dX7_spread_62 : decode cX7_spread 62 = .ok (.aload_n 3, 1) := by decide +kernel
theorem dX7_spread_63 : decode cX7_spread 63 = .ok (.putfield 18, 3) := by decide +kernel
theorem dX7_spread_66 : decode cX7_spread 66 = .ok (.aload_n 0, 1) := by decide +kernel
theorem dX7_spread_67 : decode cX7_spread 67 = .ok (.iconst 0, 1) := by decide +kernel
theorem dX7_spread_68 : decode cX7_spread 68 = .ok (.putfield 71, 3) := by decide +kernel
theorem dX7_spread_71 : decode cX7_spread 71 = .ok (.return_, 1) := by decide +kernel
theorem dX7_branch_0 : decode cX7_branch 0 = .ok (.aload_n 0, 1) := by decide +kernel
theorem dX7_branch_1 : decode cX7_branch 1 = .ok (.getfield 65, 3) := by decide +kernel
theorem dX7_branch_4 : decode cX7_branch 4 = .ok (.ifCond .ne 7, 3) := by decide +kernel
theorem dX7_branch_7 : decode cX7_branch 7 = .ok (.iconst 1, 1) := by decide +kernel
theorem dX7_branch_8 : decode cX7_branch 8 = .ok (.goto 4, 3) := by decide +kernel
theorem dX7_branch_11 : decode cX7_branch 11 = .ok (.iconst 0, 1) := by decide +kernel
theorem dX7_branch_12 : decode cX7_branch 12 = .ok (.istore 6, 2) := by decide +kernel
theorem dX7_branch_14 : decode cX7_branch 14 = .ok (.aload_n 0, 1) := by decide +kernel
theorem dX7_branch_15 : decode cX7_branch 15 = .ok (.getfield 65, 3) := by decide +kernel
theorem dX7_branch_18 : decode cX7_branch 18 = .ok (.iconst 2, 1) := by decide +kernel
theorem dX7_branch_19 : decode cX7_branch 19 = .ok (.if_icmp .ne 14, 3) := by decide +kernel
theorem dX7_branch_22 : decode cX7_branch 22 = .ok (.aload_n 0, 1) := by decide +kernel
theorem dX7_branch_23 : decode cX7_branch 23 = .ok (.aload_n 1, 1) := by decide +kernel
theorem dX7_branch_24 : decode cX7_branch 24 = .ok (.iload_n 2, 1) := by decide +kernel
theorem dX7_branch_25 : decode cX7_branch 25 = .ok (.iload 5, 2) := by decide +kernel
theorem dX7_branch_27 : decode cX7_branch 27 = .ok (.invokevirtual 109, 3) := by decide +kernel
theorem dX7_branch_30 : decode cX7_branch 30 = .ok (.goto 4, 3) := by decide +kernel
theorem dX7_branch_33 : decode cX7_branch 33 = .ok (.iconst 0, 1) := by decide +kernel
theorem dX7_branch_34 : decode cX7_branch 34 = .ok (.istore 7, 2) := by decide +kernel
theorem dX7_branch_36 : decode cX7_branch 36 = .ok (.aload_n 0, 1) := by decide +kernel
theorem dX7_branch_37 : decode cX7_branch 37 = .ok (.getfield 18, 3) := by decide +kernel
theorem dX7_branch_40 : decode cX7_branch 40 = .ok (.aload_n 1, 1) := by decide +kernel
theorem dX7_branch_41 : decode cX7_branch 41 = .ok (.iload_n 2, 1) := by decide +kernel
theorem dX7_branch_42 : decode cX7_branch 42 = .ok (.iload 5, 2) := by decide +kernel
theorem dX7_branch_44 : decode cX7_branch 44 = .ok (.iconst 1, 1) := by decide +kernel
theorem dX7_branch_45 : decode cX7_branch 45 = .ok (.iadd, 1) := by decide +kernel
theorem dX7_branch_46 : decode cX7_branch 46 = .ok (.invokevirtual 113, 3) := by decide +kernel
theorem dX7_branch_49 : decode cX7_branch 49 = .ok (.aload_n 0, 1) := by decide +kernel
theorem dX7_branch_50 : decode cX7_branch 50 = .ok (.lload_n 3, 1) := by decide +kernel
theorem dX7_branch_51 : decode cX7_branch 51 = .ok (.iload 7, 2) := by decide +kernel
theorem dX7_branch_53 : decode cX7_branch 53 = .ok (.invokevirtual 117, 3) := by decide +kernel
theorem dX7_branch_56 : decode cX7_branch 56 = .ok (.iload 6, 2) := by decide +kernel
theorem dX7_branch_58 : decode cX7_branch 58 = .ok (.invokevirtual 31, 3) := by decide +kernel
theorem dX7_branch_61 : decode cX7_branch 61 = .ok (.iconst 0, 1) := by decide +kernel
theorem dX7_branch_62 : decode cX7_branch 62 = .ok (.istore 8, 2) := by decide +kernel
theorem dX7_branch_64 : decode cX7_branch 64 = .ok (.iload 8, 2) := by decide +kernel
theorem dX7_branch_66 : decode cX7_branch 66 = .ok (.aload_n 1, 1) := by decide +kernel
theorem dX7_branch_67 : decode cX7_branch 67 = .ok (.invokevirtual 121, 3) := by decide +kernel
theorem dX7_branch_70 : decode cX7_branch 70 = .ok (.if_icmp .ge 67, 3) := by decide +kernel
theorem dX7_branch_73 : decode cX7_branch 73 = .ok (.iload 8, 2) := by decide +kernel
theorem dX7_branch_75 : decode cX7_branch 75 = .ok (.aload_n 0, 1) := by decide +kernel
theorem dX7_branch_76 : decode cX7_branch 76 = .ok (.getfield 68, 3) := by decide +kernel
theorem dX7_branch_79 : decode cX7_branch 79 = .ok (.if_icmp .eq 52, 3) := by decide +kernel
theorem dX7_branch_82 : decode cX7_branch 82 = .ok (.aload_n 1, 1) := by decide +kernel
theorem dX7_branch_83 : decode cX7_branch 83 = .ok (.iload 8, 2) := by decide +kernel
theorem dX7_branch_85 : decode cX7_branch 85 = .ok (.iload_n 2, 1) := by decide +kernel
theorem dX7_branch_86 : decode cX7_branch 86 = .ok (.iload 5, 2) := by decide +kernel
theorem dX7_branch_88 : decode cX7_branch 88 = .ok (.invokevirtual 124, 3) := by decide +kernel
theorem dX7_branch_91 : decode cX7_branch 91 = .ok (.ifCond .eq 40, 3) := by decide +kernel
theorem dX7_branch_94 : decode cX7_branch 94 = .ok (.aload_n 1, 1) := by decide +kernel
theorem dX7_branch_95 : decode cX7_branch 95 = .ok (.iload_n 2, 1) := by decide +kernel
theorem dX7_branch_96 : decode cX7_branch 96 = .ok (.iload 8, 2) := by decide +kernel
theorem dX7_branch_98 : decode cX7_branch 98 = .ok (.invokestatic 128, 3) := by decide +kernel
theorem dX7_branch_101 : decode cX7_branch 101 = .ok (.iload 5, 2) := by decide +kernel
theorem dX7_branch_103 : decode cX7_branch 103 = .ok (.iconst 1, 1) := by decide +kernel
theorem dX7_branch_104 : decode cX7_branch 104 = .ok (.iadd, 1) := by decide +kernel
theorem dX7_branch_105 : decode cX7_branch 105 = .ok (.invokevirtual 113, 3) := by decide +kernel
theorem dX7_branch_108 : decode cX7_branch 108 = .ok (.istore 9, 2) := by decide +kernel
theorem dX7_branch_110 : decode cX7_branch 110 = .ok (.aload_n 0, 1) := by decide +kernel
theorem dX7_branch_111 : decode cX7_branch 111 = .ok (.getfield 18, 3) := by decide +kernel
theorem dX7_branch_114 : decode cX7_branch 114 = .ok (.iload 9, 2) := by decide +kernel
theorem dX7_branch_116 : decode cX7_branch 116 = .ok (.aload_n 0, 1) := by decide +kernel
theorem dX7_branch_117 : decode cX7_branch 117 = .ok (.aload_n 1, 1) := by decide +kernel
theorem dX7_branch_118 : decode cX7_branch 118 = .ok (.lload_n 3, 1) := by decide +kernel
theorem dX7_branch_119 : decode cX7_branch 119 = .ok (.iload 8, 2) := by decide +kernel
theorem dX7_branch_121 : decode cX7_branch 121 = .ok (.iload 7, 2) := by decide +kernel
theorem dX7_branch_123 : decode cX7_branch 123 = .ok (.invokevirtual 131, 3) := by decide +kernel
theorem dX7_branch_126 : decode cX7_branch 126 = .ok (.iload 6, 2) := by decide +kernel
theorem dX7_branch_128 : decode cX7_branch 128 = .ok (.invokevirtual 31, 3) := by decide +kernel
theorem dX7_branch_131 : decode cX7_branch 131 = .ok (.iinc 8 1, 3) := by decide +kernel
theorem dX7_branch_134 : decode cX7_branch 134 = .ok (.goto (-70), 3) := by decide +kernel
theorem dX7_branch_137 : decode cX7_branch 137 = .ok (.return_, 1) := by decide +kernel
theorem dX7_whenUnfed_0 : decode cX7_whenUnfed 0 = .ok (.aload_n 0, 1) := by decide +kernel
theorem dX7_whenUnfed_1 : decode cX7_whenUnfed 1 = .ok (.getfield 65, 3) := by decide +kernel
theorem dX7_whenUnfed_4 : decode cX7_whenUnfed 4 = .ok (.iconst 2, 1) := by decide +kernel
theorem dX7_whenUnfed_5 : decode cX7_whenUnfed 5 = .ok (.if_icmp .eq 5, 3) := by decide +kernel
theorem dX7_whenUnfed_8 : decode cX7_whenUnfed 8 = .ok (.lload_n 1, 1) := by decide +kernel
theorem dX7_whenUnfed_9 : decode cX7_whenUnfed 9 = .ok (.lreturn, 1) := by decide +kernel
theorem dX7_whenUnfed_10 : decode cX7_whenUnfed 10 = .ok (.iload_n 3, 1) := by decide +kernel
theorem dX7_whenUnfed_11 : decode cX7_whenUnfed 11 = .ok (.ifCond .ne 11, 3) := by decide +kernel
theorem dX7_whenUnfed_14 : decode cX7_whenUnfed 14 = .ok (.lload_n 1, 1) := by decide +kernel
theorem dX7_whenUnfed_15 : decode cX7_whenUnfed 15 = .ok (.ldc2_w 135, 3) := by decide +kernel
theorem dX7_whenUnfed_18 : decode cX7_whenUnfed 18 = .ok (.lmul, 1) := by decide +kernel
theorem dX7_whenUnfed_19 : decode cX7_whenUnfed 19 = .ok (.goto 8, 3) := by decide +kernel
theorem dX7_whenUnfed_22 : decode cX7_whenUnfed 22 = .ok (.lload_n 1, 1) := by decide +kernel
theorem dX7_whenUnfed_23 : decode cX7_whenUnfed 23 = .ok (.ldc2_w 137, 3) := by decide +kernel
theorem dX7_whenUnfed_26 : decode cX7_whenUnfed 26 = .ok (.lmul, 1) := by decide +kernel
theorem dX7_whenUnfed_27 : decode cX7_whenUnfed 27 = .ok (.lreturn, 1) := by decide +kernel
theorem dX7_whenFed_0 : decode cX7_whenFed 0 = .ok (.aload_n 0, 1) := by decide +kernel
theorem dX7_whenFed_1 : decode cX7_whenFed 1 = .ok (.getfield 65, 3) := by decide +kernel
theorem dX7_whenFed_4 : decode cX7_whenFed 4 = .ok (.ifCond .ne 33, 3) := by decide +kernel
theorem dX7_whenFed_7 : decode cX7_whenFed 7 = .ok (.lload_n 2, 1) := by decide +kernel
theorem dX7_whenFed_8 : decode cX7_whenFed 8 = .ok (.aload_n 1, 1) := by decide +kernel
theorem dX7_whenFed_9 : decode cX7_whenFed 9 = .ok (.iload 4, 2) := by decide +kernel
theorem dX7_whenFed_11 : decode cX7_whenFed 11 = .ok (.invokevirtual 139, 3) := by decide +kernel
theorem dX7_whenFed_14 : decode cX7_whenFed 14 = .ok (.bipush 8, 2) := by decide +kernel
theorem dX7_whenFed_16 : decode cX7_whenFed 16 = .ok (.imul, 1) := by decide +kernel
theorem dX7_whenFed_17 : decode cX7_whenFed 17 = .ok (.i2l, 1) := by decide +kernel
theorem dX7_whenFed_18 : decode cX7_whenFed 18 = .ok (.ladd, 1) := by decide +kernel
theorem dX7_whenFed_19 : decode cX7_whenFed 19 = .ok (.aload_n 0, 1) := by decide +kernel
theorem dX7_whenFed_20 : decode cX7_whenFed 20 = .ok (.getfield 71, 3) := by decide +kernel
theorem dX7_whenFed_23 : decode cX7_whenFed 23 = .ok (.ifCond .eq 10, 3) := by decide +kernel
theorem dX7_whenFed_26 : decode cX7_whenFed 26 = .ok (.iload 4, 2) := by decide +kernel
theorem dX7_whenFed_28 : decode cX7_whenFed 28 = .ok (.iconst 1, 1) := by decide +kernel
theorem dX7_whenFed_29 : decode cX7_whenFed 29 = .ok (.iadd, 1) := by decide +kernel
theorem dX7_whenFed_30 : decode cX7_whenFed 30 = .ok (.goto 4, 3) := by decide +kernel
theorem dX7_whenFed_33 : decode cX7_whenFed 33 = .ok (.iconst 0, 1) := by decide +kernel
theorem dX7_whenFed_34 : decode cX7_whenFed 34 = .ok (.i2l, 1) := by decide +kernel
theorem dX7_whenFed_35 : decode cX7_whenFed 35 = .ok (.ladd, 1) := by decide +kernel
theorem dX7_whenFed_36 : decode cX7_whenFed 36 = .ok (.lreturn, 1) := by decide +kernel
theorem dX7_whenFed_37 : decode cX7_whenFed 37 = .ok (.iload 5, 2) := by decide +kernel
theorem dX7_whenFed_39 : decode cX7_whenFed 39 = .ok (.ifCond .le 14, 3) := by decide +kernel
theorem dX7_whenFed_42 : decode cX7_whenFed 42 = .ok (.lload_n 2, 1) := by decide +kernel
theorem dX7_whenFed_43 : decode cX7_whenFed 43 = .ok (.bipush 60, 2) := by decide +kernel
theorem dX7_whenFed_45 : decode cX7_whenFed 45 = .ok (.iload 5, 2) := by decide +kernel
theorem dX7_whenFed_47 : decode cX7_whenFed 47 = .ok (.idiv, 1) := by decide +kernel
theorem dX7_whenFed_48 : decode cX7_whenFed 48 = .ok (.i2l, 1) := by decide +kernel
theorem dX7_whenFed_49 : decode cX7_whenFed 49 = .ok (.lmul, 1) := by decide +kernel
theorem dX7_whenFed_50 : decode cX7_whenFed 50 = .ok (.goto 4, 3) := by decide +kernel
theorem dX7_whenFed_53 : decode cX7_whenFed 53 = .ok (.lload_n 2, 1) := by decide +kernel
theorem dX7_whenFed_54 : decode cX7_whenFed 54 = .ok (.lreturn, 1) := by decide +kernel
theorem dX7_feedersOf_0 : decode cX7_feedersOf 0 = .ok (.iconst 0, 1) := by decide +kernel
theorem dX7_feedersOf_1 : decode cX7_feedersOf 1 = .ok (.istore 4, 2) := by decide +kernel
theorem dX7_feedersOf_3 : decode cX7_feedersOf 3 = .ok (.iconst 0, 1) := by decide +kernel
theorem dX7_feedersOf_4 : decode cX7_feedersOf 4 = .ok (.istore 5, 2) := by decide +kernel
theorem dX7_feedersOf_6 : decode cX7_feedersOf 6 = .ok (.iload 5, 2) := by decide +kernel
theorem dX7_feedersOf_8 : decode cX7_feedersOf 8 = .ok (.aload_n 1, 1) := by decide +kernel
theorem dX7_feedersOf_9 : decode cX7_feedersOf 9 = .ok (.invokevirtual 121, 3) := by decide +kernel
theorem dX7_feedersOf_12 : decode cX7_feedersOf 12 = .ok (.if_icmp .ge 23, 3) := by decide +kernel
theorem dX7_feedersOf_15 : decode cX7_feedersOf 15 = .ok (.aload_n 1, 1) := by decide +kernel
theorem dX7_feedersOf_16 : decode cX7_feedersOf 16 = .ok (.iload 5, 2) := by decide +kernel
theorem dX7_feedersOf_18 : decode cX7_feedersOf 18 = .ok (.iload_n 2, 1) := by decide +kernel
theorem dX7_feedersOf_19 : decode cX7_feedersOf 19 = .ok (.iload_n 3, 1) := by decide +kernel
theorem dX7_feedersOf_20 : decode cX7_feedersOf 20 = .ok (.invokevirtual 124, 3) := by decide +kernel
theorem dX7_feedersOf_23 : decode cX7_feedersOf 23 = .ok (.ifCond .eq 6, 3) := by decide +kernel
theorem dX7_feedersOf_26 : decode cX7_feedersOf 26 = .ok (.iinc 4 1, 3) := by decide +kernel
theorem dX7_feedersOf_29 : decode cX7_feedersOf 29 = .ok (.iinc 5 1, 3) := by decide +kernel
theorem dX7_feedersOf_32 : decode cX7_feedersOf 32 = .ok (.goto (-26), 3) := by decide +kernel
theorem dX7_feedersOf_35 : decode cX7_feedersOf 35 = .ok (.iload 4, 2) := by decide +kernel
theorem dX7_feedersOf_37 : decode cX7_feedersOf 37 = .ok (.ireturn, 1) := by decide +kernel
theorem dX8_init_0 : decode cX8_init 0 = .ok (.aload_n 0, 1) := by decide +kernel
theorem dX8_init_1 : decode cX8_init 1 = .ok (.invokespecial 3, 3) := by decide +kernel
theorem dX8_init_4 : decode cX8_init 4 = .ok (.aload_n 0, 1) := by decide +kernel
theorem dX8_init_5 : decode cX8_init 5 = .ok (.sipush 300, 3) := by decide +kernel
theorem dX8_init_8 : decode cX8_init 8 = .ok (.newarray .byte, 2) := by decide +kernel
theorem dX8_init_10 : decode cX8_init 10 = .ok (.putfield 9, 3) := by decide +kernel
theorem dX8_init_13 : decode cX8_init 13 = .ok (.return_, 1) := by decide +kernel
theorem dX8_length_0 : decode cX8_length 0 = .ok (.aload_n 0, 1) := by decide +kernel
theorem dX8_length_1 : decode cX8_length 1 = .ok (.getfield 15, 3) := by decide +kernel
theorem dX8_length_4 : decode cX8_length 4 = .ok (.ireturn, 1) := by decide +kernel
theorem dX8_append_0 : decode cX8_append 0 = .ok (.aload_n 0, 1) := by decide +kernel
theorem dX8_append_1 : decode cX8_append 1 = .ok (.getfield 15, 3) := by decide +kernel
theorem dX8_append_4 : decode cX8_append 4 = .ok (.sipush 300, 3) := by decide +kernel
theorem dX8_append_7 : decode cX8_append 7 = .ok (.if_icmp .ge 24, 3) := by decide +kernel
theorem dX8_append_10 : decode cX8_append 10 = .ok (.aload_n 0, 1) := by decide +kernel
theorem dX8_append_11 : decode cX8_append 11 = .ok (.getfield 9, 3) := by decide +kernel
theorem dX8_append_14 : decode cX8_append 14 = .ok (.aload_n 0, 1) := by decide +kernel
theorem dX8_append_15 : decode cX8_append 15 = .ok (.getfield 15, 3) := by decide +kernel
theorem dX8_append_18 : decode cX8_append 18 = .ok (.iload_n 1, 1) := by decide +kernel
theorem dX8_append_19 : decode cX8_append 19 = .ok (.i2b, 1) := by decide +kernel
theorem dX8_append_20 : decode cX8_append 20 = .ok (.bastore, 1) := by decide +kernel
theorem dX8_append_21 : decode cX8_append 21 = .ok (.aload_n 0, 1) := by decide +kernel
theorem dX8_append_22 : decode cX8_append 22 = .ok (.dup, 1) := by decide +kernel
theorem dX8_append_23 : decode cX8_append 23 = .ok (.getfield 15, 3) := by decide +kernel
theorem dX8_append_26 : decode cX8_append 26 = .ok (.iconst 1, 1) := by decide +kernel
theorem dX8_append_27 : decode cX8_append 27 = .ok (.iadd, 1) := by decide +kernel
theorem dX8_append_28 : decode cX8_append 28 = .ok (.putfield 15, 3) := by decide +kernel
theorem dX8_append_31 : decode cX8_append 31 = .ok (.return_, 1) := by decide +kernel
theorem dX8_clear_0 : decode cX8_clear 0 = .ok (.aload_n 0, 1) := by decide +kernel
theorem dX8_clear_1 : decode cX8_clear 1 = .ok (.iconst 0, 1) := by decide +kernel
theorem dX8_clear_2 : decode cX8_clear 2 = .ok (.putfield 15, 3) := by decide +kernel
theorem dX8_clear_5 : decode cX8_clear 5 = .ok (.return_, 1) := by decide +kernel
theorem dX8_byteAt_0 : decode cX8_byteAt 0 = .ok (.iload_n 1, 1) := by decide +kernel
theorem dX8_byteAt_1 : decode cX8_byteAt 1 = .ok (.ifCond .lt 24, 3) := by decide +kernel
theorem dX8_byteAt_4 : decode cX8_byteAt 4 = .ok (.iload_n 1, 1) := by decide +kernel
theorem dX8_byteAt_5 : decode cX8_byteAt 5 = .ok (.aload_n 0, 1) := by decide +kernel
theorem dX8_byteAt_6 : decode cX8_byteAt 6 = .ok (.getfield 15, 3) := by decide +kernel
theorem dX8_byteAt_9 : decode cX8_byteAt 9 = .ok (.if_icmp .ge 16, 3) := by decide +kernel
theorem dX8_byteAt_12 : decode cX8_byteAt 12 = .ok (.aload_n 0, 1) := by decide +kernel
theorem dX8_byteAt_13 : decode cX8_byteAt 13 = .ok (.getfield 9, 3) := by decide +kernel
theorem dX8_byteAt_16 : decode cX8_byteAt 16 = .ok (.iload_n 1, 1) := by decide +kernel
theorem dX8_byteAt_17 : decode cX8_byteAt 17 = .ok (.baload, 1) := by decide +kernel
theorem dX8_byteAt_18 : decode cX8_byteAt 18 = .ok (.sipush 255, 3) := by decide +kernel
theorem dX8_byteAt_21 : decode cX8_byteAt 21 = .ok (.iand, 1) := by decide +kernel
theorem dX8_byteAt_22 : decode cX8_byteAt 22 = .ok (.goto 4, 3) := by decide +kernel
theorem dX8_byteAt_25 : decode cX8_byteAt 25 = .ok (.iconst (-1), 1) := by decide +kernel
theorem dX8_byteAt_26 : decode cX8_byteAt 26 = .ok (.ireturn, 1) := by decide +kernel
theorem dX9_init_0 : decode cX9_init 0 = .ok (.aload_n 0, 1) := by decide +kernel
theorem dX9_init_1 : decode cX9_init 1 = .ok (.invokespecial 3, 3) := by decide +kernel
theorem dX9_init_4 : decode cX9_init 4 = .ok (.aload_n 0, 1) := by decide +kernel
theorem dX9_init_5 : decode cX9_init 5 = .ok (.bipush 6, 2) := by decide +kernel
theorem dX9_init_7 : decode cX9_init 7 = .ok (.newarray .int, 2) := by decide +kernel
theorem dX9_init_9 : decode cX9_init 9 = .ok (.putfield 9, 3) := by decide +kernel
theorem dX9_init_12 : decode cX9_init 12 = .ok (.aload_n 0, 1) := by decide +kernel
theorem dX9_init_13 : decode cX9_init 13 = .ok (.bipush 6, 2) := by decide +kernel
theorem dX9_init_15 : decode cX9_init 15 = .ok (.newarray .int, 2) := by decide +kernel
theorem dX9_init_17 : decode cX9_init 17 = .ok (.putfield 15, 3) := by decide +kernel
theorem dX9_init_20 : decode cX9_init 20 = .ok (.return_, 1) := by decide +kernel
theorem dX9_size_0 : decode cX9_size 0 = .ok (.aload_n 0, 1) := by decide +kernel
theorem dX9_size_1 : decode cX9_size 1 = .ok (.getfield 18, 3) := by decide +kernel
theorem dX9_size_4 : decode cX9_size 4 = .ok (.ireturn, 1) := by decide +kernel
theorem dX9_clear_0 : decode cX9_clear 0 = .ok (.aload_n 0, 1) := by decide +kernel
theorem dX9_clear_1 : decode cX9_clear 1 = .ok (.getfield 18, 3) := by decide +kernel
theorem dX9_clear_4 : decode cX9_clear 4 = .ok (.istore_n 1, 1) := by decide +kernel
theorem dX9_clear_5 : decode cX9_clear 5 = .ok (.aload_n 0, 1) := by decide +kernel
theorem dX9_clear_6 : decode cX9_clear 6 = .ok (.iconst 0, 1) := by decide +kernel
theorem dX9_clear_7 : decode cX9_clear 7 = .ok (.putfield 18, 3) := by decide +kernel
theorem dX9_clear_10 : decode cX9_clear 10 = .ok (.iload_n 1, 1) := by decide +kernel
theorem dX9_clear_11 : decode cX9_clear 11 = .ok (.ireturn, 1) := by decide +kernel
theorem dX9_add_0 : decode cX9_add 0 = .ok (.aload_n 0, 1) := by decide +kernel
theorem dX9_add_1 : decode cX9_add 1 = .ok (.getfield 18, 3) := by decide +kernel
theorem dX9_add_4 : decode cX9_add 4 = .ok (.bipush 6, 2) := by decide +kernel
theorem dX9_add_6 : decode cX9_add 6 = .ok (.if_icmp .lt 6, 3) := by decide +kernel
theorem dX9_add_9 : decode cX9_add 9 = .ok (.bipush (-3), 2) := by decide +kernel
theorem dX9_add_11 : decode cX9_add 11 = .ok (.ireturn, 1) := by decide +kernel
theorem dX9_add_12 : decode cX9_add 12 = .ok (.aload_n 0, 1) := by decide +kernel
theorem dX9_add_13 : decode cX9_add 13 = .ok (.getfield 9, 3) := by decide +kernel
theorem dX9_add_16 : decode cX9_add 16 = .ok (.aload_n 0, 1) := by decide +kernel
theorem dX9_add_17 : decode cX9_add 17 = .ok (.getfield 18, 3) := by decide +kernel
theorem dX9_add_20 : decode cX9_add 20 = .ok (.iload_n 1, 1) := by decide +kernel
theorem dX9_add_21 : decode cX9_add 21 = .ok (.iastore, 1) := by decide +kernel
theorem dX9_add_22 : decode cX9_add 22 = .ok (.aload_n 0, 1) := by decide +kernel
theorem dX9_add_23 : decode cX9_add 23 = .ok (.getfield 15, 3) := by decide +kernel
theorem dX9_add_26 : decode cX9_add 26 = .ok (.aload_n 0, 1) := by decide +kernel
theorem dX9_add_27 : decode cX9_add 27 = .ok (.getfield 18, 3) := by decide +kernel
theorem dX9_add_30 : decode cX9_add 30 = .ok (.iload_n 2, 1) := by decide +kernel
theorem dX9_add_31 : decode cX9_add 31 = .ok (.iastore, 1) := by decide +kernel
theorem dX9_add_32 : decode cX9_add 32 = .ok (.aload_n 0, 1) := by decide +kernel
theorem dX9_add_33 : decode cX9_add 33 = .ok (.dup, 1) := by decide +kernel
theorem dX9_add_34 : decode cX9_add 34 = .ok (.getfield 18, 3) := by decide +kernel
theorem dX9_add_37 : decode cX9_add 37 = .ok (.iconst 1, 1) := by decide +kernel
theorem dX9_add_38 : decode cX9_add 38 = .ok (.iadd, 1) := by decide +kernel
theorem dX9_add_39 : decode cX9_add 39 = .ok (.putfield 18, 3) := by decide +kernel
theorem dX9_add_42 : decode cX9_add 42 = .ok (.aload_n 0, 1) := by decide +kernel
theorem dX9_add_43 : decode cX9_add 43 = .ok (.getfield 18, 3) := by decide +kernel
theorem dX9_add_46 : decode cX9_add 46 = .ok (.ireturn, 1) := by decide +kernel
theorem dX9_lastMinute_0 : decode cX9_lastMinute 0 = .ok (.iconst 0, 1) := by decide +kernel
theorem dX9_lastMinute_1 : decode cX9_lastMinute 1 = .ok (.istore_n 1, 1) := by decide +kernel
theorem dX9_lastMinute_2 : decode cX9_lastMinute 2 = .ok (.iconst 0, 1) := by decide +kernel
theorem dX9_lastMinute_3 : decode cX9_lastMinute 3 = .ok (.istore_n 2, 1) := by decide +kernel
theorem dX9_lastMinute_4 : decode cX9_lastMinute 4 = .ok (.iload_n 2, 1) := by decide +kernel
theorem dX9_lastMinute_5 : decode cX9_lastMinute 5 = .ok (.aload_n 0, 1) := by decide +kernel
theorem dX9_lastMinute_6 : decode cX9_lastMinute 6 = .ok (.getfield 18, 3) := by decide +kernel
theorem dX9_lastMinute_9 : decode cX9_lastMinute 9 = .ok (.if_icmp .ge 20, 3) := by decide +kernel
theorem dX9_lastMinute_12 : decode cX9_lastMinute 12 = .ok (.iload_n 1, 1) := by decide +kernel
theorem dX9_lastMinute_13 : decode cX9_lastMinute 13 = .ok (.aload_n 0, 1) := by decide +kernel
theorem dX9_lastMinute_14 : decode cX9_lastMinute 14 = .ok (.getfield 15, 3) := by decide +kernel
theorem dX9_lastMinute_17 : decode cX9_lastMinute 17 = .ok (.iload_n 2, 1) := by decide +kernel
theorem dX9_lastMinute_18 : decode cX9_lastMinute 18 = .ok (.iaload, 1) := by decide +kernel
theorem dX9_lastMinute_19 : decode cX9_lastMinute 19 = .ok (.invokestatic 22, 3) := by decide +kernel
theorem dX9_lastMinute_22 : decode cX9_lastMinute 22 = .ok (.istore_n 1, 1) := by decide +kernel
theorem dX9_lastMinute_23 : decode cX9_lastMinute 23 = .ok (.iinc 2 1, 3) := by decide +kernel
theorem dX9_lastMinute_26 : decode cX9_lastMinute 26 = .ok (.goto (-22), 3) := by decide +kernel
theorem dX9_lastMinute_29 : decode cX9_lastMinute 29 = .ok (.iload_n 1, 1) := by decide +kernel
theorem dX9_lastMinute_30 : decode cX9_lastMinute 30 = .ok (.ireturn, 1) := by decide +kernel
theorem dX9_isOf_0 : decode cX9_isOf 0 = .ok (.iload_n 1, 1) := by decide +kernel
theorem dX9_isOf_1 : decode cX9_isOf 1 = .ok (.ifCond .lt 25, 3) := by decide +kernel
theorem dX9_isOf_4 : decode cX9_isOf 4 = .ok (.iload_n 1, 1) := by decide +kernel
theorem dX9_isOf_5 : decode cX9_isOf 5 = .ok (.aload_n 0, 1) := by decide +kernel
theorem dX9_isOf_6 : decode cX9_isOf 6 = .ok (.getfield 18, 3) := by decide +kernel
theorem dX9_isOf_9 : decode cX9_isOf 9 = .ok (.if_icmp .ge 17, 3) := by decide +kernel
theorem dX9_isOf_12 : decode cX9_isOf 12 = .ok (.aload_n 0, 1) := by decide +kernel
theorem dX9_isOf_13 : decode cX9_isOf 13 = .ok (.getfield 15, 3) := by decide +kernel
theorem dX9_isOf_16 : decode cX9_isOf 16 = .ok (.iload_n 1, 1) := by decide +kernel
theorem dX9_isOf_17 : decode cX9_isOf 17 = .ok (.iaload, 1) := by decide +kernel
theorem dX9_isOf_18 : decode cX9_isOf 18 = .ok (.iload_n 2, 1) := by decide +kernel
theorem dX9_isOf_19 : decode cX9_isOf 19 = .ok (.if_icmp .ne 7, 3) := by decide +kernel
theorem dX9_isOf_22 : decode cX9_isOf 22 = .ok (.iconst 1, 1) := by decide +kernel
theorem dX9_isOf_23 : decode cX9_isOf 23 = .ok (.goto 4, 3) := by decide +kernel
theorem dX9_isOf_26 : decode cX9_isOf 26 = .ok (.iconst 0, 1) := by decide +kernel
theorem dX9_isOf_27 : decode cX9_isOf 27 = .ok (.ireturn, 1) := by decide +kernel
theorem dX9_yard_0 : decode cX9_yard 0 = .ok (.iload_n 1, 1) := by decide +kernel
theorem dX9_yard_1 : decode cX9_yard 1 = .ok (.ifCond .lt 20, 3) := by decide +kernel
theorem dX9_yard_4 : decode cX9_yard 4 = .ok (.iload_n 1, 1) := by decide +kernel
theorem dX9_yard_5 : decode cX9_yard 5 = .ok (.aload_n 0, 1) := by decide +kernel
theorem dX9_yard_6 : decode cX9_yard 6 = .ok (.getfield 18, 3) := by decide +kernel
theorem dX9_yard_9 : decode cX9_yard 9 = .ok (.if_icmp .ge 12, 3) := by decide +kernel
theorem dX9_yard_12 : decode cX9_yard 12 = .ok (.aload_n 0, 1) := by decide +kernel
theorem dX9_yard_13 : decode cX9_yard 13 = .ok (.getfield 9, 3) := by decide +kernel
theorem dX9_yard_16 : decode cX9_yard 16 = .ok (.iload_n 1, 1) := by decide +kernel
theorem dX9_yard_17 : decode cX9_yard 17 = .ok (.iaload, 1) := by decide +kernel
theorem dX9_yard_18 : decode cX9_yard 18 = .ok (.goto 4, 3) := by decide +kernel
theorem dX9_yard_21 : decode cX9_yard 21 = .ok (.iconst 0, 1) := by decide +kernel
theorem dX9_yard_22 : decode cX9_yard 22 = .ok (.ireturn, 1) := by decide +kernel
theorem dX10_init_0 : decode cX10_init 0 = .ok (.aload_n 0, 1) := by decide +kernel
theorem dX10_init_1 : decode cX10_init 1 = .ok (.invokespecial 3, 3) := by decide +kernel
theorem dX10_init_4 : decode cX10_init 4 = .ok (.aload_n 0, 1) := by decide +kernel
theorem dX10_init_5 : decode cX10_init 5 = .ok (.new 9, 3) := by decide +kernel
theorem dX10_init_8 : decode cX10_init 8 = .ok (.dup, 1) := by decide +kernel
theorem dX10_init_9 : decode cX10_init 9 = .ok (.invokespecial 11, 3) := by decide +kernel
theorem dX10_init_12 : decode cX10_init 12 = .ok (.putfield 12, 3) := by decide +kernel
theorem dX10_init_15 : decode cX10_init 15 = .ok (.aload_n 0, 1) := by decide +kernel
theorem dX10_init_16 : decode cX10_init 16 = .ok (.new 16, 3) := by decide +kernel
theorem dX10_init_19 : decode cX10_init 19 = .ok (.dup, 1) := by decide +kernel
theorem dX10_init_20 : decode cX10_init 20 = .ok (.aload_n 0, 1) := by decide +kernel
theorem dX10_init_21 : decode cX10_init 21 = .ok (.getfield 12, 3) := by decide +kernel
theorem dX10_init_24 : decode cX10_init 24 = .ok (.invokespecial 18, 3) := by decide +kernel
theorem dX10_init_27 : decode cX10_init 27 = .ok (.putfield 21, 3) := by decide +kernel
theorem dX10_init_30 : decode cX10_init 30 = .ok (.aload_n 0, 1) := by decide +kernel
theorem dX10_init_31 : decode cX10_init 31 = .ok (.new 25, 3) := by decide +kernel
theorem dX10_init_34 : decode cX10_init 34 = .ok (.dup, 1) := by decide +kernel
theorem dX10_init_35 : decode cX10_init 35 = .ok (.invokespecial 27, 3) := by decide +kernel
theorem dX10_init_38 : decode cX10_init 38 = .ok (.putfield 28, 3) := by decide +kernel
theorem dX10_init_41 : decode cX10_init 41 = .ok (.aload_n 0, 1) := by decide +kernel
theorem dX10_init_42 : decode cX10_init 42 = .ok (.new 25, 3) := by decide +kernel
theorem dX10_init_45 : decode cX10_init 45 = .ok (.dup, 1) := by decide +kernel
theorem dX10_init_46 : decode cX10_init 46 = .ok (.invokespecial 27, 3) := by decide +kernel
theorem dX10_init_49 : decode cX10_init 49 = .ok (.putfield 32, 3) := by decide +kernel
theorem dX10_init_52 : decode cX10_init 52 = .ok (.aload_n 0, 1) := by decide +kernel
theorem dX10_init_53 : decode cX10_init 53 = .ok (.new 35, 3) := by decide +kernel
theorem dX10_init_56 : decode cX10_init 56 = .ok (.dup, 1) := by decide +kernel
theorem dX10_init_57 : decode cX10_init 57 = .ok (.invokespecial 37, 3) := by decide +kernel
theorem dX10_init_60 : decode cX10_init 60 = .ok (.putfield 38, 3) := by decide +kernel
theorem dX10_init_63 : decode cX10_init 63 = .ok (.aload_n 0, 1) := by decide +kernel
theorem dX10_init_64 : decode cX10_init 64 = .ok (.new 42, 3) := by decide +kernel
theorem dX10_init_67 : decode cX10_init 67 = .ok (.dup, 1) := by decide +kernel
theorem dX10_init_68 : decode cX10_init 68 = .ok (.invokespecial 44, 3) := by decide +kernel
theorem dX10_init_71 : decode cX10_init 71 = .ok (.putfield 45, 3) := by decide +kernel
theorem dX10_init_74 : decode cX10_init 74 = .ok (.aload_n 0, 1) := by decide +kernel
theorem dX10_init_75 : decode cX10_init 75 = .ok (.new 42, 3) := by decide +kernel
theorem dX10_init_78 : decode cX10_init 78 = .ok (.dup, 1) := by decide +kernel
theorem dX10_init_79 : decode cX10_init 79 = .ok (.invokespecial 44, 3) := by decide +kernel
theorem dX10_init_82 : decode cX10_init 82 = .ok (.putfield 49, 3) := by decide +kernel
theorem dX10_init_85 : decode cX10_init 85 = .ok (.aload_n 0, 1) := by decide +kernel
theorem dX10_init_86 : decode cX10_init 86 = .ok (.new 52, 3) := by decide +kernel
theorem dX10_init_89 : decode cX10_init 89 = .ok (.dup, 1) := by decide +kernel
theorem dX10_init_90 : decode cX10_init 90 = .ok (.invokespecial 54, 3) := by decide +kernel
theorem dX10_init_93 : decode cX10_init 93 = .ok (.putfield 55, 3) := by decide +kernel
theorem dX10_init_96 : decode cX10_init 96 = .ok (.aload_n 0, 1) := by decide +kernel
theorem dX10_init_97 : decode cX10_init 97 = .ok (.new 52, 3) := by decide +kernel
theorem dX10_init_100 : decode cX10_init 100 = .ok (.dup, 1) := by decide +kernel
theorem dX10_init_101 : decode cX10_init 101 = .ok (.invokespecial 54, 3) := by decide +kernel
theorem dX10_init_104 : decode cX10_init 104 = .ok (.putfield 59, 3) := by decide +kernel
theorem dX10_init_107 : decode cX10_init 107 = .ok (.aload_n 0, 1) := by decide +kernel
theorem dX10_init_108 : decode cX10_init 108 = .ok (.new 62, 3) := by decide +kernel
theorem dX10_init_111 : decode cX10_init 111 = .ok (.dup, 1) := by decide +kernel
theorem dX10_init_112 : decode cX10_init 112 = .ok (.invokespecial 64, 3) := by decide +kernel
theorem dX10_init_115 : decode cX10_init 115 = .ok (.putfield 65, 3) := by decide +kernel
theorem dX10_init_118 : decode cX10_init 118 = .ok (.aload_n 0, 1) := by decide +kernel
theorem dX10_init_119 : decode cX10_init 119 = .ok (.new 69, 3) := by decide +kernel
theorem dX10_init_122 : decode cX10_init 122 = .ok (.dup, 1) := by decide +kernel
theorem dX10_init_123 : decode cX10_init 123 = .ok (.invokespecial 71, 3) := by decide +kernel
theorem dX10_init_126 : decode cX10_init 126 = .ok (.putfield 72, 3) := by decide +kernel
theorem dX10_init_129 : decode cX10_init 129 = .ok (.iconst 0, 1) := by decide +kernel
theorem dX10_init_130 : decode cX10_init 130 = .ok (.istore_n 1, 1) := by decide +kernel
theorem dX10_init_131 : decode cX10_init 131 = .ok (.iload_n 1, 1) := by decide +kernel
theorem dX10_init_132 : decode cX10_init 132 = .ok (.ldc 76, 2) := by decide +kernel
theorem dX10_init_134 : decode cX10_init 134 = .ok (.invokevirtual 78, 3) := by decide +kernel
theorem dX10_init_137 : decode cX10_init 137 = .ok (.if_icmp .ge 22, 3) := by decide +kernel
theorem dX10_init_140 : decode cX10_init 140 = .ok (.aload_n 0, 1) := by decide +kernel
theorem dX10_init_141 : decode cX10_init 141 = .ok (.getfield 12, 3) := by decide +kernel
theorem dX10_init_144 : decode cX10_init 144 = .ok (.ldc 76, 2) := by decide +kernel
theorem dX10_init_146 : decode cX10_init 146 = .ok (.iload_n 1, 1) := by decide +kernel
theorem dX10_init_147 : decode cX10_init 147 = .ok (.invokevirtual 84, 3) := by decide +kernel
theorem dX10_init_150 : decode cX10_init 150 = .ok (.invokevirtual 88, 3) := by decide +kernel
theorem dX10_init_153 : decode cX10_init 153 = .ok (.iinc 1 1, 3) := by decide +kernel
theorem dX10_init_156 : decode cX10_init 156 = .ok (.goto (-25), 3) := by decide +kernel
theorem dX10_init_159 : decode cX10_init 159 = .ok (.aload_n 0, 1) := by decide +kernel
theorem dX10_init_160 : decode cX10_init 160 = .ok (.getfield 21, 3) := by decide +kernel
theorem dX10_init_163 : decode cX10_init 163 = .ok (.aload_n 0, 1) := by decide +kernel
theorem dX10_init_164 : decode cX10_init 164 = .ok (.getfield 28, 3) := by decide +kernel
theorem dX10_init_167 : decode cX10_init 167 = .ok (.invokevirtual 92, 3) := by decide +kernel
theorem dX10_init_170 : decode cX10_init 170 = .ok (.pop, 1) := by decide +kernel
theorem dX10_init_171 : decode cX10_init 171 = .ok (.aload_n 0, 1) := by decide +kernel
theorem dX10_init_172 : decode cX10_init 172 = .ok (.getfield 28, 3) := by decide +kernel
theorem dX10_init_175 : decode cX10_init 175 = .ok (.invokevirtual 96, 3) := by decide +kernel
theorem dX10_init_178 : decode cX10_init 178 = .ok (.aload_n 0, 1) := by decide +kernel
theorem dX10_init_179 : decode cX10_init 179 = .ok (.getfield 12, 3) := by decide +kernel
theorem dX10_init_182 : decode cX10_init 182 = .ok (.invokevirtual 99, 3) := by decide +kernel
theorem dX10_init_185 : decode cX10_init 185 = .ok (.aload_n 0, 1) := by decide +kernel
theorem dX10_init_186 : decode cX10_init 186 = .ok (.getfield 38, 3) := by decide +kernel
theorem dX10_init_189 : decode cX10_init 189 = .ok (.aload_n 0, 1) := by decide +kernel
theorem dX10_init_190 : decode cX10_init 190 = .ok (.getfield 28, 3) := by decide +kernel
theorem dX10_init_193 : decode cX10_init 193 = .ok (.invokevirtual 102, 3) := by decide +kernel
theorem dX10_init_196 : decode cX10_init 196 = .ok (.return_, 1) := by decide +kernel
theorem dX10_write_0 : decode cX10_write 0 = .ok (.iload_n 1, 1) := by decide +kernel
theorem dX10_write_1 : decode cX10_write 1 = .ok (.iconst 1, 1) := by decide +kernel
theorem dX10_write_2 : decode cX10_write 2 = .ok (.if_icmp .lt 9, 3) := by decide +kernel
theorem dX10_write_5 : decode cX10_write 5 = .ok (.iload_n 1, 1) := by decide +kernel
theorem dX10_write_6 : decode cX10_write 6 = .ok (.bipush 8, 2) := by decide +kernel
theorem dX10_write_8 : decode cX10_write 8 = .ok (.if_icmp .le 5, 3) := by decide +kernel
theorem dX10_write_11 : decode cX10_write 11 = .ok (.iconst (-1), 1) := by decide +kernel
theorem dX10_write_12 : decode cX10_write 12 = .ok (.ireturn, 1) := by decide +kernel
theorem dX10_write_13 : decode cX10_write 13 = .ok (.aload_n 0, 1) := by decide +kernel
theorem dX10_write_14 : decode cX10_write 14 = .ok (.getfield 12, 3) := by decide +kernel
theorem dX10_write_17 : decode cX10_write 17 = .ok (.invokevirtual 106, 3) := by decide +kernel
theorem dX10_write_20 : decode cX10_write 20 = .ok (.iload_n 1, 1) := by decide +kernel
theorem dX10_write_21 : decode cX10_write 21 = .ok (.iadd, 1) := by decide +kernel
theorem dX10_write_22 : decode cX10_write 22 = .ok (.sipush 300, 3) := by decide +kernel
theorem dX10_write_25 : decode cX10_write 25 = .ok (.if_icmp .le 6, 3) := by decide +kernel
theorem dX10_write_28 : decode cX10_write 28 = .ok (.bipush (-3), 2) := by decide +kernel
theorem dX10_write_30 : decode cX10_write 30 = .ok (.ireturn, 1) := by decide +kernel
theorem dX10_write_31 : decode cX10_write 31 = .ok (.iload_n 1, 1) := by decide +kernel
theorem dX10_write_32 : decode cX10_write 32 = .ok (.iconst 1, 1) := by decide +kernel
theorem dX10_write_33 : decode cX10_write 33 = .ok (.isub, 1) := by decide +kernel
theorem dX10_write_34 : decode cX10_write 34 = .ok (.istore 4, 2) := by decide +kernel
theorem dX10_write_36 : decode cX10_write 36 = .ok (.iload 4, 2) := by decide +kernel
theorem dX10_write_38 : decode cX10_write 38 = .ok (.ifCond .lt 24, 3) := by decide +kernel
theorem dX10_write_41 : decode cX10_write 41 = .ok (.aload_n 0, 1) := by decide +kernel
theorem dX10_write_42 : decode cX10_write 42 = .ok (.getfield 12, 3) := by decide +kernel
theorem dX10_write_45 : decode cX10_write 45 = .ok (.lload_n 2, 1) := by decide +kernel
theorem dX10_write_46 : decode cX10_write 46 = .ok (.bipush 8, 2) := by decide +kernel
theorem dX10_write_48 : decode cX10_write 48 = .ok (.iload 4, 2) := by decide +kernel
theorem dX10_write_50 : decode cX10_write 50 = .ok (.imul, 1) := by decide +kernel
theorem dX10_write_51 : decode cX10_write 51 = .ok (.lushr, 1) := by decide +kernel
theorem dX10_write_52 : decode cX10_write 52 = .ok (.l2i, 1) := by decide +kernel
theorem dX10_write_53 : decode cX10_write 53 = .ok (.invokevirtual 88, 3) := by decide +kernel
theorem dX10_write_56 : decode cX10_write 56 = .ok (.iinc 4 (-1), 3) := by decide +kernel
theorem dX10_write_59 : decode cX10_write 59 = .ok (.goto (-23), 3) := by decide +kernel
theorem dX10_write_62 : decode cX10_write 62 = .ok (.aload_n 0, 1) := by decide +kernel
theorem dX10_write_63 : decode cX10_write 63 = .ok (.getfield 12, 3) := by decide +kernel
theorem dX10_write_66 : decode cX10_write 66 = .ok (.invokevirtual 106, 3) := by decide +kernel
theorem dX10_write_69 : decode cX10_write 69 = .ok (.ireturn, 1) := by decide +kernel
theorem dX10_wipe_0 : decode cX10_wipe 0 = .ok (.aload_n 0, 1) := by decide +kernel
theorem dX10_wipe_1 : decode cX10_wipe 1 = .ok (.getfield 12, 3) := by decide +kernel
theorem dX10_wipe_4 : decode cX10_wipe 4 = .ok (.invokevirtual 106, 3) := by decide +kernel
theorem dX10_wipe_7 : decode cX10_wipe 7 = .ok (.istore_n 1, 1) := by decide +kernel
theorem dX10_wipe_8 : decode cX10_wipe 8 = .ok (.aload_n 0, 1) := by decide +kernel
theorem dX10_wipe_9 : decode cX10_wipe 9 = .ok (.getfield 12, 3) := by decide +kernel
theorem dX10_wipe_12 : decode cX10_wipe 12 = .ok (.invokevirtual 99, 3) := by decide +kernel
theorem dX10_wipe_15 : decode cX10_wipe 15 = .ok (.iload_n 1, 1) := by decide +kernel
theorem dX10_wipe_16 : decode cX10_wipe 16 = .ok (.ireturn, 1) := by decide +kernel
theorem dX10_fault_0 : decode cX10_fault 0 = .ok (.aload_n 0, 1) := by decide +kernel
theorem dX10_fault_1 : decode cX10_fault 1 = .ok (.getfield 21, 3) := by decide +kernel
theorem dX10_fault_4 : decode cX10_fault 4 = .ok (.aload_n 0, 1) := by decide +kernel
theorem dX10_fault_5 : decode cX10_fault 5 = .ok (.getfield 32, 3) := by decide +kernel
theorem dX10_fault_8 : decode cX10_fault 8 = .ok (.invokevirtual 92, 3) := by decide +kernel
theorem dX10_fault_11 : decode cX10_fault 11 = .ok (.ireturn, 1) := by decide +kernel
theorem dX10_lay_0 : decode cX10_lay 0 = .ok (.aload_n 0, 1) := by decide +kernel
theorem dX10_lay_1 : decode cX10_lay 1 = .ok (.getfield 21, 3) := by decide +kernel
theorem dX10_lay_4 : decode cX10_lay 4 = .ok (.aload_n 0, 1) := by decide +kernel
theorem dX10_lay_5 : decode cX10_lay 5 = .ok (.getfield 32, 3) := by decide +kernel
theorem dX10_lay_8 : decode cX10_lay 8 = .ok (.invokevirtual 92, 3) := by decide +kernel
theorem dX10_lay_11 : decode cX10_lay 11 = .ok (.bipush (-4), 2) := by decide +kernel
theorem dX10_lay_13 : decode cX10_lay 13 = .ok (.if_icmp .ne 13, 3) := by decide +kernel
theorem dX10_lay_16 : decode cX10_lay 16 = .ok (.aload_n 0, 1) := by decide +kernel
theorem dX10_lay_17 : decode cX10_lay 17 = .ok (.getfield 32, 3) := by decide +kernel
theorem dX10_lay_20 : decode cX10_lay 20 = .ok (.invokevirtual 107, 3) := by decide +kernel
theorem dX10_lay_23 : decode cX10_lay 23 = .ok (.ifCond .ne 6, 3) := by decide +kernel
theorem dX10_lay_26 : decode cX10_lay 26 = .ok (.bipush (-2), 2) := by decide +kernel
theorem dX10_lay_28 : decode cX10_lay 28 = .ok (.ireturn, 1) := by decide +kernel
theorem dX10_lay_29 : decode cX10_lay 29 = .ok (.aload_n 0, 1) := by decide +kernel
theorem dX10_lay_30 : decode cX10_lay 30 = .ok (.getfield 28, 3) := by decide +kernel
theorem dX10_lay_33 : decode cX10_lay 33 = .ok (.astore_n 1, 1) := by decide +kernel
theorem dX10_lay_34 : decode cX10_lay 34 = .ok (.aload_n 0, 1) := by decide +kernel
theorem dX10_lay_35 : decode cX10_lay 35 = .ok (.aload_n 0, 1) := by decide +kernel
theorem dX10_lay_36 : decode cX10_lay 36 = .ok (.getfield 32, 3) := by decide +kernel
theorem dX10_lay_39 : decode cX10_lay 39 = .ok (.putfield 28, 3) := by decide +kernel
theorem dX10_lay_42 : decode cX10_lay 42 = .ok (.aload_n 0, 1) := by decide +kernel
theorem dX10_lay_43 : decode cX10_lay 43 = .ok (.aload_n 1, 1) := by decide +kernel
theorem dX10_lay_44 : decode cX10_lay 44 = .ok (.putfield 32, 3) := by decide +kernel
theorem dX10_lay_47 : decode cX10_lay 47 = .ok (.aload_n 0, 1) := by decide +kernel
theorem dX10_lay_48 : decode cX10_lay 48 = .ok (.getfield 28, 3) := by decide +kernel
theorem dX10_lay_51 : decode cX10_lay 51 = .ok (.invokevirtual 96, 3) := by decide +kernel
theorem dX10_lay_54 : decode cX10_lay 54 = .ok (.aload_n 0, 1) := by decide +kernel
theorem dX10_lay_55 : decode cX10_lay 55 = .ok (.getfield 38, 3) := by decide +kernel
theorem dX10_lay_58 : decode cX10_lay 58 = .ok (.aload_n 0, 1) := by decide +kernel
theorem dX10_lay_59 : decode cX10_lay 59 = .ok (.getfield 28, 3) := by decide +kernel
theorem dX10_lay_62 : decode cX10_lay 62 = .ok (.invokevirtual 102, 3) := by decide +kernel
theorem dX10_lay_65 : decode cX10_lay 65 = .ok (.aload_n 0, 1) := by decide +kernel
theorem dX10_lay_66 : decode cX10_lay 66 = .ok (.getfield 55, 3) := by decide +kernel
theorem dX10_lay_69 : decode cX10_lay 69 = .ok (.invokevirtual 111, 3) := by decide +kernel
theorem dX10_lay_72 : decode cX10_lay 72 = .ok (.pop, 1) := by decide +kernel
theorem dX10_lay_73 : decode cX10_lay 73 = .ok (.aload_n 0, 1) := by decide +kernel
theorem dX10_lay_74 : decode cX10_lay 74 = .ok (.getfield 59, 3) := by decide +kernel
theorem dX10_lay_77 : decode cX10_lay 77 = .ok (.invokevirtual 111, 3) := by decide +kernel
theorem dX10_lay_80 : decode cX10_lay 80 = .ok (.pop, 1) := by decide +kernel
theorem dX10_lay_81 : decode cX10_lay 81 = .ok (.aload_n 0, 1) := by decide +kernel
theorem dX10_lay_82 : decode cX10_lay 82 = .ok (.getfield 45, 3) := by decide +kernel
theorem dX10_lay_85 : decode cX10_lay 85 = .ok (.invokevirtual 113, 3) := by decide +kernel
theorem dX10_lay_88 : decode cX10_lay 88 = .ok (.aload_n 0, 1) := by decide +kernel
theorem dX10_lay_89 : decode cX10_lay 89 = .ok (.getfield 49, 3) := by decide +kernel
theorem dX10_lay_92 : decode cX10_lay 92 = .ok (.invokevirtual 113, 3) := by decide +kernel
theorem dX10_lay_95 : decode cX10_lay 95 = .ok (.aload_n 0, 1) := by decide +kernel
theorem dX10_lay_96 : decode cX10_lay 96 = .ok (.getfield 28, 3) := by decide +kernel
theorem dX10_lay_99 : decode cX10_lay 99 = .ok (.invokevirtual 114, 3) := by decide +kernel
theorem dX10_lay_102 : decode cX10_lay 102 = .ok (.ireturn, 1) := by decide +kernel
theorem dX10_far_0 : decode cX10_far 0 = .ok (.aload_n 0, 1) := by decide +kernel
theorem dX10_far_1 : decode cX10_far 1 = .ok (.getfield 28, 3) := by decide +kernel
theorem dX10_far_4 : decode cX10_far 4 = .ok (.iload_n 1, 1) := by decide +kernel
theorem dX10_far_5 : decode cX10_far 5 = .ok (.invokevirtual 117, 3) := by decide +kernel
theorem dX10_far_8 : decode cX10_far 8 = .ok (.ifCond .eq 14, 3) := by decide +kernel
theorem dX10_far_11 : decode cX10_far 11 = .ok (.aload_n 0, 1) := by decide +kernel
theorem dX10_far_12 : decode cX10_far 12 = .ok (.getfield 28, 3) := by decide +kernel
theorem dX10_far_15 : decode cX10_far 15 = .ok (.iload_n 2, 1) := by decide +kernel
theorem dX10_far_16 : decode cX10_far 16 = .ok (.invokevirtual 117, 3) := by decide +kernel
theorem dX10_far_19 : decode cX10_far 19 = .ok (.ifCond .ne 5, 3) := by decide +kernel
theorem dX10_far_22 : decode cX10_far 22 = .ok (.iconst (-1), 1) := by decide +kernel
theorem dX10_far_23 : decode cX10_far 23 = .ok (.ireturn, 1) := by decide +kernel
theorem dX10_far_24 : decode cX10_far 24 = .ok (.aload_n 0, 1) := by decide +kernel
theorem dX10_far_25 : decode cX10_far 25 = .ok (.getfield 28, 3) := by decide +kernel
theorem dX10_far_28 : decode cX10_far 28 = .ok (.iload_n 1, 1) := by decide +kernel
theorem dX10_far_29 : decode cX10_far 29 = .ok (.iload_n 2, 1) := by decide +kernel
theorem dX10_far_30 : decode cX10_far 30 = .ok (.invokevirtual 121, 3) := by decide +kernel
theorem dX10_far_33 : decode cX10_far 33 = .ok (.istore_n 3, 1) := by decide +kernel
theorem dX10_far_34 : decode cX10_far 34 = .ok (.iload_n 3, 1) := by decide +kernel
theorem dX10_far_35 : decode cX10_far 35 = .ok (.bipush 99, 2) := by decide +kernel
theorem dX10_far_37 : decode cX10_far 37 = .ok (.if_icmp .ne 8, 3) := by decide +kernel
theorem dX10_far_40 : decode cX10_far 40 = .ok (.bipush (-4), 2) := by decide +kernel
theorem dX10_far_42 : decode cX10_far 42 = .ok (.goto 4, 3) := by decide +kernel
theorem dX10_far_45 : decode cX10_far 45 = .ok (.iload_n 3, 1) := by decide +kernel
theorem dX10_far_46 : decode cX10_far 46 = .ok (.ireturn, 1) := by decide +kernel
theorem dX10_person_0 : decode cX10_person 0 = .ok (.aload_n 0, 1) := by decide +kernel
theorem dX10_person_1 : decode cX10_person 1 = .ok (.getfield 28, 3) := by decide +kernel
theorem dX10_person_4 : decode cX10_person 4 = .ok (.iload_n 1, 1) := by decide +kernel
theorem dX10_person_5 : decode cX10_person 5 = .ok (.invokevirtual 125, 3) := by decide +kernel
theorem dX10_person_8 : decode cX10_person 8 = .ok (.ifCond .eq 15, 3) := by decide +kernel
theorem dX10_person_11 : decode cX10_person 11 = .ok (.iload_n 2, 1) := by decide +kernel
theorem dX10_person_12 : decode cX10_person 12 = .ok (.iconst (-1), 1) := by decide +kernel
theorem dX10_person_13 : decode cX10_person 13 = .ok (.if_icmp .lt 10, 3) := by decide +kernel
theorem dX10_person_16 : decode cX10_person 16 = .ok (.iload_n 2, 1) := by decide +kernel
theorem dX10_person_17 : decode cX10_person 17 = .ok (.sipush 9999, 3) := by decide +kernel
theorem dX10_person_20 : decode cX10_person 20 = .ok (.if_icmp .le 5, 3) := by decide +kernel
theorem dX10_person_23 : decode cX10_person 23 = .ok (.iconst (-1), 1) := by decide +kernel
theorem dX10_person_24 : decode cX10_person 24 = .ok (.ireturn, 1) := by decide +kernel
theorem dX10_person_25 : decode cX10_person 25 = .ok (.iload_n 2, 1) := by decide +kernel
theorem dX10_person_26 : decode cX10_person 26 = .ok (.iconst (-1), 1) := by decide +kernel
theorem dX10_person_27 : decode cX10_person 27 = .ok (.if_icmp .ne 14, 3) := by decide +kernel
theorem dX10_person_30 : decode cX10_person 30 = .ok (.aload_n 0, 1) := by decide +kernel
theorem dX10_person_31 : decode cX10_person 31 = .ok (.getfield 28, 3) := by decide +kernel
theorem dX10_person_34 : decode cX10_person 34 = .ok (.iload_n 1, 1) := by decide +kernel
theorem dX10_person_35 : decode cX10_person 35 = .ok (.invokevirtual 128, 3) := by decide +kernel
theorem dX10_person_38 : decode cX10_person 38 = .ok (.goto 12, 3) := by decide +kernel
theorem dX10_person_41 : decode cX10_person 41 = .ok (.aload_n 0, 1) := by decide +kernel
theorem dX10_person_42 : decode cX10_person 42 = .ok (.getfield 28, 3) := by decide +kernel
theorem dX10_person_45 : decode cX10_person 45 = .ok (.iload_n 1, 1) := by decide +kernel
theorem dX10_person_46 : decode cX10_person 46 = .ok (.iload_n 2, 1) := by decide +kernel
theorem dX10_person_47 : decode cX10_person 47 = .ok (.invokevirtual 132, 3) := by decide +kernel
theorem dX10_person_50 : decode cX10_person 50 = .ok (.ireturn, 1) := by decide +kernel
theorem dX10_feed_0 : decode cX10_feed 0 = .ok (.aload_n 0, 1) := by decide +kernel
theorem dX10_feed_1 : decode cX10_feed 1 = .ok (.getfield 28, 3) := by decide +kernel
theorem dX10_feed_4 : decode cX10_feed 4 = .ok (.iload_n 1, 1) := by decide +kernel
theorem dX10_feed_5 : decode cX10_feed 5 = .ok (.invokevirtual 125, 3) := by decide +kernel
theorem dX10_feed_8 : decode cX10_feed 8 = .ok (.ifCond .ne 5, 3) := by decide +kernel
theorem dX10_feed_11 : decode cX10_feed 11 = .ok (.iconst (-1), 1) := by decide +kernel
theorem dX10_feed_12 : decode cX10_feed 12 = .ok (.ireturn, 1) := by decide +kernel
theorem dX10_feed_13 : decode cX10_feed 13 = .ok (.aload_n 0, 1) := by decide +kernel
theorem dX10_feed_14 : decode cX10_feed 14 = .ok (.getfield 28, 3) := by decide +kernel
theorem dX10_feed_17 : decode cX10_feed 17 = .ok (.iload_n 1, 1) := by decide +kernel
theorem dX10_feed_18 : decode cX10_feed 18 = .ok (.aload_n 0, 1) := by decide +kernel
theorem dX10_feed_19 : decode cX10_feed 19 = .ok (.getfield 38, 3) := by decide +kernel
theorem dX10_feed_22 : decode cX10_feed 22 = .ok (.getfield 135, 3) := by decide +kernel
theorem dX10_feed_25 : decode cX10_feed 25 = .ok (.aload_n 0, 1) := by decide +kernel
theorem dX10_feed_26 : decode cX10_feed 26 = .ok (.getfield 38, 3) := by decide +kernel
theorem dX10_feed_29 : decode cX10_feed 29 = .ok (.getfield 139, 3) := by decide +kernel
theorem dX10_feed_32 : decode cX10_feed 32 = .ok (.invokevirtual 142, 3) := by decide +kernel
theorem dX10_feed_35 : decode cX10_feed 35 = .ok (.ifCond .ne 6, 3) := by decide +kernel
theorem dX10_feed_38 : decode cX10_feed 38 = .ok (.bipush (-2), 2) := by decide +kernel
theorem dX10_feed_40 : decode cX10_feed 40 = .ok (.ireturn, 1) := by decide +kernel
theorem dX10_feed_41 : decode cX10_feed 41 = .ok (.aload_n 0, 1) := by decide +kernel
theorem dX10_feed_42 : decode cX10_feed 42 = .ok (.getfield 45, 3) := by decide +kernel
theorem dX10_feed_45 : decode cX10_feed 45 = .ok (.aload_n 0, 1) := by decide +kernel
theorem dX10_feed_46 : decode cX10_feed 46 = .ok (.getfield 38, 3) := by decide +kernel
theorem dX10_feed_49 : decode cX10_feed 49 = .ok (.invokevirtual 146, 3) := by decide +kernel
theorem dX10_feed_52 : decode cX10_feed 52 = .ok (.aload_n 0, 1) := by decide +kernel
theorem dX10_feed_53 : decode cX10_feed 53 = .ok (.getfield 38, 3) := by decide +kernel
theorem dX10_feed_56 : decode cX10_feed 56 = .ok (.aload_n 0, 1) := by decide +kernel
theorem dX10_feed_57 : decode cX10_feed 57 = .ok (.getfield 38, 3) := by decide +kernel
theorem dX10_feed_60 : decode cX10_feed 60 = .ok (.getfield 135, 3) := by decide +kernel
theorem dX10_feed_63 : decode cX10_feed 63 = .ok (.iload_n 1, 1) := by decide +kernel
theorem dX10_feed_64 : decode cX10_feed 64 = .ok (.invokestatic 150, 3) := by decide +kernel
theorem dX10_feed_67 : decode cX10_feed 67 = .ok (.putfield 135, 3) := by decide +kernel
theorem dX10_feed_70 : decode cX10_feed 70 = .ok (.aload_n 0, 1) := by decide +kernel
theorem dX10_feed_71 : decode cX10_feed 71 = .ok (.getfield 38, 3) := by decide +kernel
theorem dX10_feed_74 : decode cX10_feed 74 = .ok (.dup, 1) := by decide +kernel
theorem dX10_feed_75 : decode cX10_feed 75 = .ok (.getfield 153, 3) := by decide +kernel
theorem dX10_feed_78 : decode cX10_feed 78 = .ok (.iconst 1, 1) := by decide +kernel
theorem dX10_feed_79 : decode cX10_feed 79 = .ok (.iadd, 1) := by decide +kernel
theorem dX10_feed_80 : decode cX10_feed 80 = .ok (.putfield 153, 3) := by decide +kernel
theorem dX10_feed_83 : decode cX10_feed 83 = .ok (.aload_n 0, 1) := by decide +kernel
theorem dX10_feed_84 : decode cX10_feed 84 = .ok (.getfield 38, 3) := by decide +kernel
theorem dX10_feed_87 : decode cX10_feed 87 = .ok (.getfield 153, 3) := by decide +kernel
theorem dX10_feed_90 : decode cX10_feed 90 = .ok (.ireturn, 1) := by decide +kernel
theorem dX10_pass_0 : decode cX10_pass 0 = .ok (.iload_n 1, 1) := by decide +kernel
theorem dX10_pass_1 : decode cX10_pass 1 = .ok (.iconst 1, 1) := by decide +kernel
theorem dX10_pass_2 : decode cX10_pass 2 = .ok (.if_icmp .lt 9, 3) := by decide +kernel
theorem dX10_pass_5 : decode cX10_pass 5 = .ok (.iload_n 1, 1) := by decide +kernel
theorem dX10_pass_6 : decode cX10_pass 6 = .ok (.bipush 99, 2) := by decide +kernel
theorem dX10_pass_8 : decode cX10_pass 8 = .ok (.if_icmp .le 5, 3) := by decide +kernel
theorem dX10_pass_11 : decode cX10_pass 11 = .ok (.iconst (-1), 1) := by decide +kernel
theorem dX10_pass_12 : decode cX10_pass 12 = .ok (.ireturn, 1) := by decide +kernel
theorem dX10_pass_13 : decode cX10_pass 13 = .ok (.aload_n 0, 1) := by decide +kernel
theorem dX10_pass_14 : decode cX10_pass 14 = .ok (.getfield 38, 3) := by decide +kernel
theorem dX10_pass_17 : decode cX10_pass 17 = .ok (.getfield 139, 3) := by decide +kernel
theorem dX10_pass_20 : decode cX10_pass 20 = .ok (.iload_n 1, 1) := by decide +kernel
theorem dX10_pass_21 : decode cX10_pass 21 = .ok (.iadd, 1) := by decide +kernel
theorem dX10_pass_22 : decode cX10_pass 22 = .ok (.sipush 9999, 3) := by decide +kernel
theorem dX10_pass_25 : decode cX10_pass 25 = .ok (.if_icmp .le 6, 3) := by decide +kernel
theorem dX10_pass_28 : decode cX10_pass 28 = .ok (.bipush (-2), 2) := by decide +kernel
theorem dX10_pass_30 : decode cX10_pass 30 = .ok (.ireturn, 1) := by decide +kernel
theorem dX10_pass_31 : decode cX10_pass 31 = .ok (.aload_n 0, 1) := by decide +kernel
theorem dX10_pass_32 : decode cX10_pass 32 = .ok (.getfield 45, 3) := by decide +kernel
theorem dX10_pass_35 : decode cX10_pass 35 = .ok (.aload_n 0, 1) := by decide +kernel
theorem dX10_pass_36 : decode cX10_pass 36 = .ok (.getfield 38, 3) := by decide +kernel
theorem dX10_pass_39 : decode cX10_pass 39 = .ok (.invokevirtual 146, 3) := by decide +kernel
theorem dX10_pass_42 : decode cX10_pass 42 = .ok (.aload_n 0, 1) := by decide +kernel
theorem dX10_pass_43 : decode cX10_pass 43 = .ok (.getfield 38, 3) := by decide +kernel
theorem dX10_pass_46 : decode cX10_pass 46 = .ok (.aload_n 0, 1) := by decide +kernel
theorem dX10_pass_47 : decode cX10_pass 47 = .ok (.getfield 28, 3) := by decide +kernel
theorem dX10_pass_50 : decode cX10_pass 50 = .ok (.aload_n 0, 1) := by decide +kernel
theorem dX10_pass_51 : decode cX10_pass 51 = .ok (.getfield 38, 3) := by decide +kernel
theorem dX10_pass_54 : decode cX10_pass 54 = .ok (.getfield 135, 3) := by decide +kernel
theorem dX10_pass_57 : decode cX10_pass 57 = .ok (.aload_n 0, 1) := by decide +kernel
theorem dX10_pass_58 : decode cX10_pass 58 = .ok (.getfield 38, 3) := by decide +kernel
theorem dX10_pass_61 : decode cX10_pass 61 = .ok (.getfield 139, 3) := by decide +kernel
theorem dX10_pass_64 : decode cX10_pass 64 = .ok (.iload_n 1, 1) := by decide +kernel
theorem dX10_pass_65 : decode cX10_pass 65 = .ok (.invokevirtual 156, 3) := by decide +kernel
theorem dX10_pass_68 : decode cX10_pass 68 = .ok (.putfield 135, 3) := by decide +kernel
theorem dX10_pass_71 : decode cX10_pass 71 = .ok (.aload_n 0, 1) := by decide +kernel
theorem dX10_pass_72 : decode cX10_pass 72 = .ok (.getfield 38, 3) := by decide +kernel
theorem dX10_pass_75 : decode cX10_pass 75 = .ok (.dup, 1) := by decide +kernel
theorem dX10_pass_76 : decode cX10_pass 76 = .ok (.getfield 139, 3) := by decide +kernel
theorem dX10_pass_79 : decode cX10_pass 79 = .ok (.iload_n 1, 1) := by decide +kernel
theorem dX10_pass_80 : decode cX10_pass 80 = .ok (.iadd, 1) := by decide +kernel
theorem dX10_pass_81 : decode cX10_pass 81 = .ok (.putfield 139, 3) := by decide +kernel
theorem dX10_pass_84 : decode cX10_pass 84 = .ok (.aload_n 0, 1) := by decide +kernel
theorem dX10_pass_85 : decode cX10_pass 85 = .ok (.getfield 38, 3) := by decide +kernel
theorem dX10_pass_88 : decode cX10_pass 88 = .ok (.getfield 135, 3) := by decide +kernel
theorem dX10_pass_91 : decode cX10_pass 91 = .ok (.invokestatic 160, 3) := by decide +kernel
theorem dX10_pass_94 : decode cX10_pass 94 = .ok (.ireturn, 1) := by decide +kernel
theorem dX10_undo_0 : decode cX10_undo 0 = .ok (.aload_n 0, 1) := by decide +kernel
theorem dX10_undo_1 : decode cX10_undo 1 = .ok (.getfield 45, 3) := by decide +kernel
theorem dX10_undo_4 : decode cX10_undo 4 = .ok (.invokevirtual 163, 3) := by decide +kernel
theorem dX10_undo_7 : decode cX10_undo 7 = .ok (.ifCond .ne 6, 3) := by decide +kernel
theorem dX10_undo_10 : decode cX10_undo 10 = .ok (.bipush (-2), 2) := by decide +kernel
theorem dX10_undo_12 : decode cX10_undo 12 = .ok (.ireturn, 1) := by decide +kernel
theorem dX10_undo_13 : decode cX10_undo 13 = .ok (.aload_n 0, 1) := by decide +kernel
theorem dX10_undo_14 : decode cX10_undo 14 = .ok (.getfield 45, 3) := by decide +kernel
theorem dX10_undo_17 : decode cX10_undo 17 = .ok (.aload_n 0, 1) := by decide +kernel
theorem dX10_undo_18 : decode cX10_undo 18 = .ok (.getfield 38, 3) := by decide +kernel
theorem dX10_undo_21 : decode cX10_undo 21 = .ok (.invokevirtual 166, 3) := by decide +kernel
theorem dX10_undo_24 : decode cX10_undo 24 = .ok (.aload_n 0, 1) := by decide +kernel
theorem dX10_undo_25 : decode cX10_undo 25 = .ok (.getfield 45, 3) := by decide +kernel
theorem dX10_undo_28 : decode cX10_undo 28 = .ok (.invokevirtual 163, 3) := by decide +kernel
theorem dX10_undo_31 : decode cX10_undo 31 = .ok (.ireturn, 1) := by decide +kernel
theorem dX10_calf_0 : decode cX10_calf 0 = .ok (.iload_n 1, 1) := by decide +kernel
theorem dX10_calf_1 : decode cX10_calf 1 = .ok (.ifCond .lt 17, 3) := by decide +kernel
theorem dX10_calf_4 : decode cX10_calf 4 = .ok (.iload_n 1, 1) := by decide +kernel
theorem dX10_calf_5 : decode cX10_calf 5 = .ok (.sipush 400, 3) := by decide +kernel
theorem dX10_calf_8 : decode cX10_calf 8 = .ok (.if_icmp .gt 10, 3) := by decide +kernel
theorem dX10_calf_11 : decode cX10_calf 11 = .ok (.iload_n 2, 1) := by decide +kernel
theorem dX10_calf_12 : decode cX10_calf 12 = .ok (.invokestatic 169, 3) := by decide +kernel
theorem dX10_calf_15 : decode cX10_calf 15 = .ok (.ifCond .ne 5, 3) := by decide +kernel
theorem dX10_calf_18 : decode cX10_calf 18 = .ok (.iconst (-1), 1) := by decide +kernel
theorem dX10_calf_19 : decode cX10_calf 19 = .ok (.ireturn, 1) := by decide +kernel
theorem dX10_calf_20 : decode cX10_calf 20 = .ok (.aload_n 0, 1) := by decide +kernel
theorem dX10_calf_21 : decode cX10_calf 21 = .ok (.getfield 28, 3) := by decide +kernel
theorem dX10_calf_24 : decode cX10_calf 24 = .ok (.aload_n 0, 1) := by decide +kernel
theorem dX10_calf_25 : decode cX10_calf 25 = .ok (.getfield 38, 3) := by decide +kernel
theorem dX10_calf_28 : decode cX10_calf 28 = .ok (.getfield 135, 3) := by decide +kernel
theorem dX10_calf_31 : decode cX10_calf 31 = .ok (.aload_n 0, 1) := by decide +kernel
theorem dX10_calf_32 : decode cX10_calf 32 = .ok (.getfield 38, 3) := by decide +kernel
theorem dX10_calf_35 : decode cX10_calf 35 = .ok (.getfield 139, 3) := by decide +kernel
theorem dX10_calf_38 : decode cX10_calf 38 = .ok (.iload_n 1, 1) := by decide +kernel
theorem dX10_calf_39 : decode cX10_calf 39 = .ok (.invokevirtual 156, 3) := by decide +kernel
theorem dX10_calf_42 : decode cX10_calf 42 = .ok (.istore_n 3, 1) := by decide +kernel
theorem dX10_calf_43 : decode cX10_calf 43 = .ok (.iload_n 2, 1) := by decide +kernel
theorem dX10_calf_44 : decode cX10_calf 44 = .ok (.ifCond .ne 10, 3) := by decide +kernel
theorem dX10_calf_47 : decode cX10_calf 47 = .ok (.iload_n 3, 1) := by decide +kernel
theorem dX10_calf_48 : decode cX10_calf 48 = .ok (.invokestatic 160, 3) := by decide +kernel
theorem dX10_calf_51 : decode cX10_calf 51 = .ok (.goto 10, 3) := by decide +kernel
theorem dX10_calf_54 : decode cX10_calf 54 = .ok (.iload_n 3, 1) := by decide +kernel
theorem dX10_calf_55 : decode cX10_calf 55 = .ok (.invokestatic 172, 3) := by decide +kernel
theorem dX10_calf_58 : decode cX10_calf 58 = .ok (.invokestatic 175, 3) := by decide +kernel
theorem dX10_calf_61 : decode cX10_calf 61 = .ok (.ireturn, 1) := by decide +kernel
theorem dX10_goal_0 : decode cX10_goal 0 = .ok (.aload_n 0, 1) := by decide +kernel
theorem dX10_goal_1 : decode cX10_goal 1 = .ok (.getfield 28, 3) := by decide +kernel
theorem dX10_goal_4 : decode cX10_goal 4 = .ok (.iload_n 1, 1) := by decide +kernel
theorem dX10_goal_5 : decode cX10_goal 5 = .ok (.invokevirtual 117, 3) := by decide +kernel
theorem dX10_goal_8 : decode cX10_goal 8 = .ok (.ifCond .eq 13, 3) := by decide +kernel
theorem dX10_goal_11 : decode cX10_goal 11 = .ok (.iload_n 2, 1) := by decide +kernel
theorem dX10_goal_12 : decode cX10_goal 12 = .ok (.ifCond .lt 9, 3) := by decide +kernel
theorem dX10_goal_15 : decode cX10_goal 15 = .ok (.iload_n 2, 1) := by decide +kernel
theorem dX10_goal_16 : decode cX10_goal 16 = .ok (.bipush 40, 2) := by decide +kernel
theorem dX10_goal_18 : decode cX10_goal 18 = .ok (.if_icmp .le 5, 3) := by decide +kernel
theorem dX10_goal_21 : decode cX10_goal 21 = .ok (.iconst (-1), 1) := by decide +kernel
theorem dX10_goal_22 : decode cX10_goal 22 = .ok (.ireturn, 1) := by decide +kernel
theorem dX10_goal_23 : decode cX10_goal 23 = .ok (.aload_n 0, 1) := by decide +kernel
theorem dX10_goal_24 : decode cX10_goal 24 = .ok (.getfield 55, 3) := by decide +kernel
theorem dX10_goal_27 : decode cX10_goal 27 = .ok (.iload_n 1, 1) := by decide +kernel
theorem dX10_goal_28 : decode cX10_goal 28 = .ok (.iload_n 2, 1) := by decide +kernel
theorem dX10_goal_29 : decode cX10_goal 29 = .ok (.invokevirtual 178, 3) := by decide +kernel
theorem dX10_goal_32 : decode cX10_goal 32 = .ok (.ireturn, 1) := by decide +kernel
theorem dX10_noGoals_0 : decode cX10_noGoals 0 = .ok (.aload_n 0, 1) := by decide +kernel
theorem dX10_noGoals_1 : decode cX10_noGoals 1 = .ok (.getfield 55, 3) := by decide +kernel
theorem dX10_noGoals_4 : decode cX10_noGoals 4 = .ok (.invokevirtual 111, 3) := by decide +kernel
theorem dX10_noGoals_7 : decode cX10_noGoals 7 = .ok (.ireturn, 1) := by decide +kernel
theorem dX10_price_0 : decode cX10_price 0 = .ok (.aload_n 0, 1) := by decide +kernel
theorem dX10_price_1 : decode cX10_price 1 = .ok (.getfield 65, 3) := by decide +kernel
theorem dX10_price_4 : decode cX10_price 4 = .ok (.aload_n 0, 1) := by decide +kernel
theorem dX10_price_5 : decode cX10_price 5 = .ok (.getfield 28, 3) := by decide +kernel
theorem dX10_price_8 : decode cX10_price 8 = .ok (.aload_n 0, 1) := by decide +kernel
theorem dX10_price_9 : decode cX10_price 9 = .ok (.getfield 38, 3) := by decide +kernel
theorem dX10_price_12 : decode cX10_price 12 = .ok (.aload_n 0, 1) := by decide +kernel
theorem dX10_price_13 : decode cX10_price 13 = .ok (.getfield 55, 3) := by decide +kernel
theorem dX10_price_16 : decode cX10_price 16 = .ok (.invokevirtual 181, 3) := by decide +kernel
theorem dX10_price_19 : decode cX10_price 19 = .ok (.bipush (-4), 2) := by decide +kernel
theorem dX10_price_21 : decode cX10_price 21 = .ok (.if_icmp .ne 13, 3) := by decide +kernel
theorem dX10_price_24 : decode cX10_price 24 = .ok (.aload_n 0, 1) := by decide +kernel
theorem dX10_price_25 : decode cX10_price 25 = .ok (.getfield 65, 3) := by decide +kernel
theorem dX10_price_28 : decode cX10_price 28 = .ok (.invokevirtual 185, 3) := by decide +kernel
theorem dX10_price_31 : decode cX10_price 31 = .ok (.goto 5, 3) := by decide +kernel
theorem dX10_price_34 : decode cX10_price 34 = .ok (.bipush (-4), 2) := by decide +kernel
theorem dX10_price_36 : decode cX10_price 36 = .ok (.ireturn, 1) := by decide +kernel
theorem dX10_first_0 : decode cX10_first 0 = .ok (.aload_n 0, 1) := by decide +kernel
theorem dX10_first_1 : decode cX10_first 1 = .ok (.getfield 65, 3) := by decide +kernel
theorem dX10_first_4 : decode cX10_first 4 = .ok (.aload_n 0, 1) := by decide +kernel
theorem dX10_first_5 : decode cX10_first 5 = .ok (.getfield 28, 3) := by decide +kernel
theorem dX10_first_8 : decode cX10_first 8 = .ok (.aload_n 0, 1) := by decide +kernel
theorem dX10_first_9 : decode cX10_first 9 = .ok (.getfield 38, 3) := by decide +kernel
theorem dX10_first_12 : decode cX10_first 12 = .ok (.aload_n 0, 1) := by decide +kernel
theorem dX10_first_13 : decode cX10_first 13 = .ok (.getfield 55, 3) := by decide +kernel
theorem dX10_first_16 : decode cX10_first 16 = .ok (.invokevirtual 181, 3) := by decide +kernel
theorem dX10_first_19 : decode cX10_first 19 = .ok (.bipush (-4), 2) := by decide +kernel
theorem dX10_first_21 : decode cX10_first 21 = .ok (.if_icmp .ne 16, 3) := by decide +kernel
theorem dX10_first_24 : decode cX10_first 24 = .ok (.aload_n 0, 1) := by decide +kernel
theorem dX10_first_25 : decode cX10_first 25 = .ok (.getfield 65, 3) := by decide +kernel
theorem dX10_first_28 : decode cX10_first 28 = .ok (.invokevirtual 188, 3) := by decide +kernel
theorem dX10_first_31 : decode cX10_first 31 = .ok (.invokestatic 175, 3) := by decide +kernel
theorem dX10_first_34 : decode cX10_first 34 = .ok (.goto 5, 3) := by decide +kernel
theorem dX10_first_37 : decode cX10_first 37 = .ok (.bipush (-4), 2) := by decide +kernel
theorem dX10_first_39 : decode cX10_first 39 = .ok (.ireturn, 1) := by decide +kernel
theorem dX10_bars_0 : decode cX10_bars 0 = .ok (.aload_n 0, 1) := by decide +kernel
theorem dX10_bars_1 : decode cX10_bars 1 = .ok (.getfield 65, 3) := by decide +kernel
theorem dX10_bars_4 : decode cX10_bars 4 = .ok (.aload_n 0, 1) := by decide +kernel
theorem dX10_bars_5 : decode cX10_bars 5 = .ok (.getfield 28, 3) := by decide +kernel
theorem dX10_bars_8 : decode cX10_bars 8 = .ok (.aload_n 0, 1) := by decide +kernel
theorem dX10_bars_9 : decode cX10_bars 9 = .ok (.getfield 38, 3) := by decide +kernel
theorem dX10_bars_12 : decode cX10_bars 12 = .ok (.aload_n 0, 1) := by decide +kernel
theorem dX10_bars_13 : decode cX10_bars 13 = .ok (.getfield 55, 3) := by decide +kernel
theorem dX10_bars_16 : decode cX10_bars 16 = .ok (.invokevirtual 181, 3) := by decide +kernel
theorem dX10_bars_19 : decode cX10_bars 19 = .ok (.ireturn, 1) := by decide +kernel
theorem dX10_game_0 : decode cX10_game 0 = .ok (.iload_n 1, 1) := by decide +kernel
theorem dX10_game_1 : decode cX10_game 1 = .ok (.iconst 1, 1) := by decide +kernel
theorem dX10_game_2 : decode cX10_game 2 = .ok (.if_icmp .lt 28, 3) := by decide +kernel
theorem dX10_game_5 : decode cX10_game 5 = .ok (.iload_n 1, 1) := by decide +kernel
theorem dX10_game_6 : decode cX10_game 6 = .ok (.bipush 12, 2) := by decide +kernel
theorem dX10_game_8 : decode cX10_game 8 = .ok (.if_icmp .gt 22, 3) := by decide +kernel
theorem dX10_game_11 : decode cX10_game 11 = .ok (.aload_n 0, 1) := by decide +kernel
theorem dX10_game_12 : decode cX10_game 12 = .ok (.getfield 28, 3) := by decide +kernel
theorem dX10_game_15 : decode cX10_game 15 = .ok (.iload_n 2, 1) := by decide +kernel
theorem dX10_game_16 : decode cX10_game 16 = .ok (.invokevirtual 117, 3) := by decide +kernel
theorem dX10_game_19 : decode cX10_game 19 = .ok (.ifCond .eq 11, 3) := by decide +kernel
theorem dX10_game_22 : decode cX10_game 22 = .ok (.iload 4, 2) := by decide +kernel
theorem dX10_game_24 : decode cX10_game 24 = .ok (.invokestatic 169, 3) := by decide +kernel
theorem dX10_game_27 : decode cX10_game 27 = .ok (.ifCond .ne 5, 3) := by decide +kernel
theorem dX10_game_30 : decode cX10_game 30 = .ok (.iconst (-1), 1) := by decide +kernel
theorem dX10_game_31 : decode cX10_game 31 = .ok (.ireturn, 1) := by decide +kernel
theorem dX10_game_32 : decode cX10_game 32 = .ok (.iload_n 3, 1) := by decide +kernel
theorem dX10_game_33 : decode cX10_game 33 = .ok (.ifCond .lt 14, 3) := by decide +kernel
theorem dX10_game_36 : decode cX10_game 36 = .ok (.iload_n 3, 1) := by decide +kernel
theorem dX10_game_37 : decode cX10_game 37 = .ok (.aload_n 0, 1) := by decide +kernel
theorem dX10_game_38 : decode cX10_game 38 = .ok (.getfield 28, 3) := by decide +kernel
theorem dX10_game_41 : decode cX10_game 41 = .ok (.invokevirtual 191, 3) := by decide +kernel
theorem dX10_game_44 : decode cX10_game 44 = .ok (.if_icmp .le 5, 3) := by decide +kernel
theorem dX10_game_47 : decode cX10_game 47 = .ok (.iconst (-1), 1) := by decide +kernel
theorem dX10_game_48 : decode cX10_game 48 = .ok (.ireturn, 1) := by decide +kernel
theorem dX10_game_49 : decode cX10_game 49 = .ok (.aload_n 0, 1) := by decide +kernel
theorem dX10_game_50 : decode cX10_game 50 = .ok (.getfield 72, 3) := by decide +kernel
theorem dX10_game_53 : decode cX10_game 53 = .ok (.aload_n 0, 1) := by decide +kernel
theorem dX10_game_54 : decode cX10_game 54 = .ok (.getfield 28, 3) := by decide +kernel
theorem dX10_game_57 : decode cX10_game 57 = .ok (.aload_n 0, 1) := by decide +kernel
theorem dX10_game_58 : decode cX10_game 58 = .ok (.getfield 38, 3) := by decide +kernel
theorem dX10_game_61 : decode cX10_game 61 = .ok (.iload_n 1, 1) := by decide +kernel
theorem dX10_game_62 : decode cX10_game 62 = .ok (.iload_n 2, 1) := by decide +kernel
theorem dX10_game_63 : decode cX10_game 63 = .ok (.iload_n 3, 1) := by decide +kernel
theorem dX10_game_64 : decode cX10_game 64 = .ok (.invokevirtual 194, 3) := by decide +kernel
theorem dX10_game_67 : decode cX10_game 67 = .ok (.istore 5, 2) := by decide +kernel
theorem dX10_game_69 : decode cX10_game 69 = .ok (.iload 4, 2) := by decide +kernel
theorem dX10_game_71 : decode cX10_game 71 = .ok (.ifCond .ne 16, 3) := by decide +kernel
theorem dX10_game_74 : decode cX10_game 74 = .ok (.iload 5, 2) := by decide +kernel
theorem dX10_game_76 : decode cX10_game 76 = .ok (.bipush (-2), 2) := by decide +kernel
theorem dX10_game_78 : decode cX10_game 78 = .ok (.if_icmp .ne 7, 3) := by decide +kernel
theorem dX10_game_81 : decode cX10_game 81 = .ok (.iconst 0, 1) := by decide +kernel
theorem dX10_game_82 : decode cX10_game 82 = .ok (.goto 4, 3) := by decide +kernel
theorem dX10_game_85 : decode cX10_game 85 = .ok (.iconst 1, 1) := by decide +kernel
theorem dX10_game_86 : decode cX10_game 86 = .ok (.ireturn, 1) := by decide +kernel
theorem dX10_game_87 : decode cX10_game 87 = .ok (.iload 5, 2) := by decide +kernel
theorem dX10_game_89 : decode cX10_game 89 = .ok (.invokestatic 175, 3) := by decide +kernel
theorem dX10_game_92 : decode cX10_game 92 = .ok (.ireturn, 1) := by decide +kernel
theorem dX10_seen_0 : decode cX10_seen 0 = .ok (.aload_n 0, 1) := by decide +kernel
theorem dX10_seen_1 : decode cX10_seen 1 = .ok (.getfield 28, 3) := by decide +kernel
theorem dX10_seen_4 : decode cX10_seen 4 = .ok (.iload_n 1, 1) := by decide +kernel
theorem dX10_seen_5 : decode cX10_seen 5 = .ok (.invokevirtual 117, 3) := by decide +kernel
theorem dX10_seen_8 : decode cX10_seen 8 = .ok (.ifCond .eq 13, 3) := by decide +kernel
theorem dX10_seen_11 : decode cX10_seen 11 = .ok (.iload_n 2, 1) := by decide +kernel
theorem dX10_seen_12 : decode cX10_seen 12 = .ok (.ifCond .lt 9, 3) := by decide +kernel
theorem dX10_seen_15 : decode cX10_seen 15 = .ok (.iload_n 2, 1) := by decide +kernel
theorem dX10_seen_16 : decode cX10_seen 16 = .ok (.bipush 20, 2) := by decide +kernel
theorem dX10_seen_18 : decode cX10_seen 18 = .ok (.if_icmp .le 5, 3) := by decide +kernel
theorem dX10_seen_21 : decode cX10_seen 21 = .ok (.iconst (-1), 1) := by decide +kernel
theorem dX10_seen_22 : decode cX10_seen 22 = .ok (.ireturn, 1) := by decide +kernel
theorem dX10_seen_23 : decode cX10_seen 23 = .ok (.aload_n 0, 1) := by decide +kernel
theorem dX10_seen_24 : decode cX10_seen 24 = .ok (.getfield 59, 3) := by decide +kernel
theorem dX10_seen_27 : decode cX10_seen 27 = .ok (.iload_n 1, 1) := by decide +kernel
theorem dX10_seen_28 : decode cX10_seen 28 = .ok (.iload_n 2, 1) := by decide +kernel
theorem dX10_seen_29 : decode cX10_seen 29 = .ok (.invokevirtual 178, 3) := by decide +kernel
theorem dX10_seen_32 : decode cX10_seen 32 = .ok (.ireturn, 1) := by decide +kernel
theorem dX10_forget_0 : decode cX10_forget 0 = .ok (.aload_n 0, 1) := by decide +kernel
theorem dX10_forget_1 : decode cX10_forget 1 = .ok (.getfield 59, 3) := by decide +kernel
theorem dX10_forget_4 : decode cX10_forget 4 = .ok (.invokevirtual 111, 3) := by decide +kernel
theorem dX10_forget_7 : decode cX10_forget 7 = .ok (.ireturn, 1) := by decide +kernel
theorem dX10_how_0 : decode cX10_how 0 = .ok (.aload_n 0, 1) := by decide +kernel
theorem dX10_how_1 : decode cX10_how 1 = .ok (.getfield 65, 3) := by decide +kernel
theorem dX10_how_4 : decode cX10_how 4 = .ok (.aload_n 0, 1) := by decide +kernel
theorem dX10_how_5 : decode cX10_how 5 = .ok (.getfield 28, 3) := by decide +kernel
theorem dX10_how_8 : decode cX10_how 8 = .ok (.aload_n 0, 1) := by decide +kernel
theorem dX10_how_9 : decode cX10_how 9 = .ok (.getfield 59, 3) := by decide +kernel
theorem dX10_how_12 : decode cX10_how 12 = .ok (.iconst (-1), 1) := by decide +kernel
theorem dX10_how_13 : decode cX10_how 13 = .ok (.invokevirtual 198, 3) := by decide +kernel
theorem dX10_how_16 : decode cX10_how 16 = .ok (.lreturn, 1) := by decide +kernel
theorem dX10_sure_0 : decode cX10_sure 0 = .ok (.aload_n 0, 1) := by decide +kernel
theorem dX10_sure_1 : decode cX10_sure 1 = .ok (.getfield 28, 3) := by decide +kernel
theorem dX10_sure_4 : decode cX10_sure 4 = .ok (.iload_n 1, 1) := by decide +kernel
theorem dX10_sure_5 : decode cX10_sure 5 = .ok (.invokevirtual 125, 3) := by decide +kernel
theorem dX10_sure_8 : decode cX10_sure 8 = .ok (.ifCond .ne 5, 3) := by decide +kernel
theorem dX10_sure_11 : decode cX10_sure 11 = .ok (.iconst (-1), 1) := by decide +kernel
theorem dX10_sure_12 : decode cX10_sure 12 = .ok (.ireturn, 1) := by decide +kernel
theorem dX10_sure_13 : decode cX10_sure 13 = .ok (.aload_n 0, 1) := by decide +kernel
theorem dX10_sure_14 : decode cX10_sure 14 = .ok (.getfield 65, 3) := by decide +kernel
theorem dX10_sure_17 : decode cX10_sure 17 = .ok (.aload_n 0, 1) := by decide +kernel
theorem dX10_sure_18 : decode cX10_sure 18 = .ok (.getfield 28, 3) := by decide +kernel
theorem dX10_sure_21 : decode cX10_sure 21 = .ok (.aload_n 0, 1) := by decide +kernel
theorem dX10_sure_22 : decode cX10_sure 22 = .ok (.getfield 59, 3) := by decide +kernel
theorem dX10_sure_25 : decode cX10_sure 25 = .ok (.iconst (-1), 1) := by decide +kernel
theorem dX10_sure_26 : decode cX10_sure 26 = .ok (.invokevirtual 198, 3) := by decide +kernel
theorem dX10_sure_29 : decode cX10_sure 29 = .ok (.lconst 0, 1) := by decide +kernel
theorem dX10_sure_30 : decode cX10_sure 30 = .ok (.lcmp, 1) := by decide +kernel
theorem dX10_sure_31 : decode cX10_sure 31 = .ok (.ifCond .ne 7, 3) := by decide +kernel
theorem dX10_sure_34 : decode cX10_sure 34 = .ok (.iconst 1, 1) := by decide +kernel
theorem dX10_sure_35 : decode cX10_sure 35 = .ok (.goto 4, 3) := by decide +kernel
theorem dX10_sure_38 : decode cX10_sure 38 = .ok (.iconst 0, 1) := by decide +kernel
theorem dX10_sure_39 : decode cX10_sure 39 = .ok (.istore_n 2, 1) := by decide +kernel
theorem dX10_sure_40 : decode cX10_sure 40 = .ok (.iload_n 2, 1) := by decide +kernel
theorem dX10_sure_41 : decode cX10_sure 41 = .ok (.ifCond .ne 28, 3) := by decide +kernel
theorem dX10_sure_44 : decode cX10_sure 44 = .ok (.aload_n 0, 1) := by decide +kernel
theorem dX10_sure_45 : decode cX10_sure 45 = .ok (.getfield 65, 3) := by decide +kernel
theorem dX10_sure_48 : decode cX10_sure 48 = .ok (.aload_n 0, 1) := by decide +kernel
theorem dX10_sure_49 : decode cX10_sure 49 = .ok (.getfield 28, 3) := by decide +kernel
theorem dX10_sure_52 : decode cX10_sure 52 = .ok (.aload_n 0, 1) := by decide +kernel
theorem dX10_sure_53 : decode cX10_sure 53 = .ok (.getfield 59, 3) := by decide +kernel
theorem dX10_sure_56 : decode cX10_sure 56 = .ok (.iload_n 1, 1) := by decide +kernel
theorem dX10_sure_57 : decode cX10_sure 57 = .ok (.invokevirtual 198, 3) := by decide +kernel
theorem dX10_sure_60 : decode cX10_sure 60 = .ok (.lconst 0, 1) := by decide +kernel
theorem dX10_sure_61 : decode cX10_sure 61 = .ok (.lcmp, 1) := by decide +kernel
theorem dX10_sure_62 : decode cX10_sure 62 = .ok (.ifCond .ne 7, 3) := by decide +kernel
theorem dX10_sure_65 : decode cX10_sure 65 = .ok (.iconst 1, 1) := by decide +kernel
theorem dX10_sure_66 : decode cX10_sure 66 = .ok (.goto 4, 3) := by decide +kernel
theorem dX10_sure_69 : decode cX10_sure 69 = .ok (.iconst 0, 1) := by decide +kernel
theorem dX10_sure_70 : decode cX10_sure 70 = .ok (.ireturn, 1) := by decide +kernel
theorem dX10_chance_0 : decode cX10_chance 0 = .ok (.aload_n 0, 1) := by decide +kernel
theorem dX10_chance_1 : decode cX10_chance 1 = .ok (.getfield 28, 3) := by decide +kernel
theorem dX10_chance_4 : decode cX10_chance 4 = .ok (.iload_n 1, 1) := by decide +kernel
theorem dX10_chance_5 : decode cX10_chance 5 = .ok (.invokevirtual 117, 3) := by decide +kernel
theorem dX10_chance_8 : decode cX10_chance 8 = .ok (.ifCond .eq 20, 3) := by decide +kernel
theorem dX10_chance_11 : decode cX10_chance 11 = .ok (.iload_n 2, 1) := by decide +kernel
theorem dX10_chance_12 : decode cX10_chance 12 = .ok (.ifCond .lt 16, 3) := by decide +kernel
theorem dX10_chance_15 : decode cX10_chance 15 = .ok (.iload_n 2, 1) := by decide +kernel
theorem dX10_chance_16 : decode cX10_chance 16 = .ok (.bipush 6, 2) := by decide +kernel
theorem dX10_chance_18 : decode cX10_chance 18 = .ok (.if_icmp .gt 10, 3) := by decide +kernel
theorem dX10_chance_21 : decode cX10_chance 21 = .ok (.iload_n 3, 1) := by decide +kernel
theorem dX10_chance_22 : decode cX10_chance 22 = .ok (.invokestatic 169, 3) := by decide +kernel
theorem dX10_chance_25 : decode cX10_chance 25 = .ok (.ifCond .ne 7, 3) := by decide +kernel
theorem dX10_chance_28 : decode cX10_chance 28 = .ok (.ldc2_w 202, 3) := by decide +kernel
theorem dX10_chance_31 : decode cX10_chance 31 = .ok (.lreturn, 1) := by decide +kernel
theorem dX10_chance_32 : decode cX10_chance 32 = .ok (.aload_n 0, 1) := by decide +kernel
theorem dX10_chance_33 : decode cX10_chance 33 = .ok (.getfield 65, 3) := by decide +kernel
theorem dX10_chance_36 : decode cX10_chance 36 = .ok (.aload_n 0, 1) := by decide +kernel
theorem dX10_chance_37 : decode cX10_chance 37 = .ok (.getfield 28, 3) := by decide +kernel
theorem dX10_chance_40 : decode cX10_chance 40 = .ok (.aload_n 0, 1) := by decide +kernel
theorem dX10_chance_41 : decode cX10_chance 41 = .ok (.getfield 38, 3) := by decide +kernel
theorem dX10_chance_44 : decode cX10_chance 44 = .ok (.iload_n 2, 1) := by decide +kernel
theorem dX10_chance_45 : decode cX10_chance 45 = .ok (.iload_n 1, 1) := by decide +kernel
theorem dX10_chance_46 : decode cX10_chance 46 = .ok (.invokevirtual 204, 3) := by decide +kernel
theorem dX10_chance_49 : decode cX10_chance 49 = .ok (.lstore 4, 2) := by decide +kernel
theorem dX10_chance_51 : decode cX10_chance 51 = .ok (.lconst 1, 1) := by decide +kernel
theorem dX10_chance_52 : decode cX10_chance 52 = .ok (.lstore 6, 2) := by decide +kernel
theorem dX10_chance_54 : decode cX10_chance 54 = .ok (.iconst 0, 1) := by decide +kernel
theorem dX10_chance_55 : decode cX10_chance 55 = .ok (.istore 8, 2) := by decide +kernel
theorem dX10_chance_57 : decode cX10_chance 57 = .ok (.iload 8, 2) := by decide +kernel
theorem dX10_chance_59 : decode cX10_chance 59 = .ok (.iload_n 2, 1) := by decide +kernel
theorem dX10_chance_60 : decode cX10_chance 60 = .ok (.if_icmp .ge 17, 3) := by decide +kernel
theorem dX10_chance_63 : decode cX10_chance 63 = .ok (.lload 6, 2) := by decide +kernel
theorem dX10_chance_65 : decode cX10_chance 65 = .ok (.ldc2_w 208, 3) := by decide +kernel
theorem dX10_chance_68 : decode cX10_chance 68 = .ok (.lmul, 1) := by decide +kernel
theorem dX10_chance_69 : decode cX10_chance 69 = .ok (.lstore 6, 2) := by decide +kernel
theorem dX10_chance_71 : decode cX10_chance 71 = .ok (.iinc 8 1, 3) := by decide +kernel
theorem dX10_chance_74 : decode cX10_chance 74 = .ok (.goto (-17), 3) := by decide +kernel
theorem dX10_chance_77 : decode cX10_chance 77 = .ok (.lload 6, 2) := by decide +kernel
theorem dX10_chance_79 : decode cX10_chance 79 = .ok (.lload 4, 2) := by decide +kernel
theorem dX10_chance_81 : decode cX10_chance 81 = .ok (.invokestatic 210, 3) := by decide +kernel
theorem dX10_chance_84 : decode cX10_chance 84 = .ok (.lstore 8, 2) := by decide +kernel
theorem dX10_chance_86 : decode cX10_chance 86 = .ok (.lload 8, 2) := by decide +kernel
theorem dX10_chance_88 : decode cX10_chance 88 = .ok (.lconst 1, 1) := by decide +kernel
theorem dX10_chance_89 : decode cX10_chance 89 = .ok (.lcmp, 1) := by decide +kernel
theorem dX10_chance_90 : decode cX10_chance 90 = .ok (.ifCond .ge 15, 3) := by decide +kernel
theorem dX10_chance_93 : decode cX10_chance 93 = .ok (.iload_n 3, 1) := by decide +kernel
theorem dX10_chance_94 : decode cX10_chance 94 = .ok (.ifCond .ne 8, 3) := by decide +kernel
theorem dX10_chance_97 : decode cX10_chance 97 = .ok (.lload 4, 2) := by decide +kernel
theorem dX10_chance_99 : decode cX10_chance 99 = .ok (.goto 5, 3) := by decide +kernel
theorem dX10_chance_102 : decode cX10_chance 102 = .ok (.lload 6, 2) := by decide +kernel
theorem dX10_chance_104 : decode cX10_chance 104 = .ok (.lreturn, 1) := by decide +kernel
theorem dX10_chance_105 : decode cX10_chance 105 = .ok (.iload_n 3, 1) := by decide +kernel
theorem dX10_chance_106 : decode cX10_chance 106 = .ok (.ifCond .ne 11, 3) := by decide +kernel
theorem dX10_chance_109 : decode cX10_chance 109 = .ok (.lload 4, 2) := by decide +kernel
theorem dX10_chance_111 : decode cX10_chance 111 = .ok (.lload 8, 2) := by decide +kernel
theorem dX10_chance_113 : decode cX10_chance 113 = .ok (.ldiv, 1) := by decide +kernel
theorem dX10_chance_114 : decode cX10_chance 114 = .ok (.goto 8, 3) := by decide +kernel
theorem dX10_chance_117 : decode cX10_chance 117 = .ok (.lload 6, 2) := by decide +kernel
theorem dX10_chance_119 : decode cX10_chance 119 = .ok (.lload 8, 2) := by decide +kernel
theorem dX10_chance_121 : decode cX10_chance 121 = .ok (.ldiv, 1) := by decide +kernel
theorem dX10_chance_122 : decode cX10_chance 122 = .ok (.lreturn, 1) := by decide +kernel
theorem dX10_year_0 : decode cX10_year 0 = .ok (.iload_n 1, 1) := by decide +kernel
theorem dX10_year_1 : decode cX10_year 1 = .ok (.ifCond .lt 29, 3) := by decide +kernel
theorem dX10_year_4 : decode cX10_year 4 = .ok (.iload_n 1, 1) := by decide +kernel
theorem dX10_year_5 : decode cX10_year 5 = .ok (.sipush 9999, 3) := by decide +kernel
theorem dX10_year_8 : decode cX10_year 8 = .ok (.if_icmp .gt 22, 3) := by decide +kernel
theorem dX10_year_11 : decode cX10_year 11 = .ok (.iload_n 2, 1) := by decide +kernel
theorem dX10_year_12 : decode cX10_year 12 = .ok (.iconst 1, 1) := by decide +kernel
theorem dX10_year_13 : decode cX10_year 13 = .ok (.if_icmp .lt 17, 3) := by decide +kernel
theorem dX10_year_16 : decode cX10_year 16 = .ok (.iload_n 2, 1) := by decide +kernel
theorem dX10_year_17 : decode cX10_year 17 = .ok (.sipush 400, 3) := by decide +kernel
theorem dX10_year_20 : decode cX10_year 20 = .ok (.if_icmp .gt 10, 3) := by decide +kernel
theorem dX10_year_23 : decode cX10_year 23 = .ok (.iload_n 3, 1) := by decide +kernel
theorem dX10_year_24 : decode cX10_year 24 = .ok (.invokestatic 169, 3) := by decide +kernel
theorem dX10_year_27 : decode cX10_year 27 = .ok (.ifCond .ne 5, 3) := by decide +kernel
theorem dX10_year_30 : decode cX10_year 30 = .ok (.iconst (-1), 1) := by decide +kernel
theorem dX10_year_31 : decode cX10_year 31 = .ok (.ireturn, 1) := by decide +kernel
theorem dX10_year_32 : decode cX10_year 32 = .ok (.aload_n 0, 1) := by decide +kernel
theorem dX10_year_33 : decode cX10_year 33 = .ok (.getfield 28, 3) := by decide +kernel
theorem dX10_year_36 : decode cX10_year 36 = .ok (.invokevirtual 214, 3) := by decide +kernel
theorem dX10_year_39 : decode cX10_year 39 = .ok (.istore 4, 2) := by decide +kernel
theorem dX10_year_41 : decode cX10_year 41 = .ok (.iconst 0, 1) := by decide +kernel
theorem dX10_year_42 : decode cX10_year 42 = .ok (.istore 5, 2) := by decide +kernel
theorem dX10_year_44 : decode cX10_year 44 = .ok (.iconst 0, 1) := by decide +kernel
theorem dX10_year_45 : decode cX10_year 45 = .ok (.istore 6, 2) := by decide +kernel
theorem dX10_year_47 : decode cX10_year 47 = .ok (.iload 6, 2) := by decide +kernel
theorem dX10_year_49 : decode cX10_year 49 = .ok (.iload_n 2, 1) := by decide +kernel
theorem dX10_year_50 : decode cX10_year 50 = .ok (.if_icmp .ge 73, 3) := by decide +kernel
theorem dX10_year_53 : decode cX10_year 53 = .ok (.iload_n 1, 1) := by decide +kernel
theorem dX10_year_54 : decode cX10_year 54 = .ok (.iload 6, 2) := by decide +kernel
theorem dX10_year_56 : decode cX10_year 56 = .ok (.aload_n 0, 1) := by decide +kernel
theorem dX10_year_57 : decode cX10_year 57 = .ok (.getfield 28, 3) := by decide +kernel
theorem dX10_year_60 : decode cX10_year 60 = .ok (.invokevirtual 114, 3) := by decide +kernel
theorem dX10_year_63 : decode cX10_year 63 = .ok (.invokestatic 217, 3) := by decide +kernel
theorem dX10_year_66 : decode cX10_year 66 = .ok (.istore 7, 2) := by decide +kernel
theorem dX10_year_68 : decode cX10_year 68 = .ok (.iload 7, 2) := by decide +kernel
theorem dX10_year_70 : decode cX10_year 70 = .ok (.iconst (-1), 1) := by decide +kernel
theorem dX10_year_71 : decode cX10_year 71 = .ok (.if_icmp .eq 31, 3) := by decide +kernel
theorem dX10_year_74 : decode cX10_year 74 = .ok (.aload_n 0, 1) := by decide +kernel
theorem dX10_year_75 : decode cX10_year 75 = .ok (.getfield 28, 3) := by decide +kernel
theorem dX10_year_78 : decode cX10_year 78 = .ok (.iload 7, 2) := by decide +kernel
theorem dX10_year_80 : decode cX10_year 80 = .ok (.iload 4, 2) := by decide +kernel
theorem dX10_year_82 : decode cX10_year 82 = .ok (.iload 6, 2) := by decide +kernel
theorem dX10_year_84 : decode cX10_year 84 = .ok (.invokevirtual 142, 3) := by decide +kernel
theorem dX10_year_87 : decode cX10_year 87 = .ok (.ifCond .eq 15, 3) := by decide +kernel
theorem dX10_year_90 : decode cX10_year 90 = .ok (.iload 4, 2) := by decide +kernel
theorem dX10_year_92 : decode cX10_year 92 = .ok (.iload 7, 2) := by decide +kernel
theorem dX10_year_94 : decode cX10_year 94 = .ok (.invokestatic 150, 3) := by decide +kernel
theorem dX10_year_97 : decode cX10_year 97 = .ok (.istore 4, 2) := by decide +kernel
theorem dX10_year_99 : decode cX10_year 99 = .ok (.iinc 5 1, 3) := by decide +kernel
theorem dX10_year_102 : decode cX10_year 102 = .ok (.aload_n 0, 1) := by decide +kernel
theorem dX10_year_103 : decode cX10_year 103 = .ok (.getfield 28, 3) := by decide +kernel
theorem dX10_year_106 : decode cX10_year 106 = .ok (.iload 4, 2) := by decide +kernel
theorem dX10_year_108 : decode cX10_year 108 = .ok (.iload 6, 2) := by decide +kernel
theorem dX10_year_110 : decode cX10_year 110 = .ok (.iconst 1, 1) := by decide +kernel
theorem dX10_year_111 : decode cX10_year 111 = .ok (.iadd, 1) := by decide +kernel
theorem dX10_year_112 : decode cX10_year 112 = .ok (.invokevirtual 220, 3) := by decide +kernel
theorem dX10_year_115 : decode cX10_year 115 = .ok (.istore 4, 2) := by decide +kernel
theorem dX10_year_117 : decode cX10_year 117 = .ok (.iinc 6 1, 3) := by decide +kernel
theorem dX10_year_120 : decode cX10_year 120 = .ok (.goto (-73), 3) := by decide +kernel
theorem dX10_year_123 : decode cX10_year 123 = .ok (.iload_n 3, 1) := by decide +kernel
theorem dX10_year_124 : decode cX10_year 124 = .ok (.ifCond .ne 8, 3) := by decide +kernel
theorem dX10_year_127 : decode cX10_year 127 = .ok (.iload 5, 2) := by decide +kernel
theorem dX10_year_129 : decode cX10_year 129 = .ok (.goto 8, 3) := by decide +kernel
theorem dX10_year_132 : decode cX10_year 132 = .ok (.iload 4, 2) := by decide +kernel
theorem dX10_year_134 : decode cX10_year 134 = .ok (.invokestatic 160, 3) := by decide +kernel
theorem dX10_year_137 : decode cX10_year 137 = .ok (.ireturn, 1) := by decide +kernel
theorem dX10_keep_0 : decode cX10_keep 0 = .ok (.aload_n 0, 1) := by decide +kernel
theorem dX10_keep_1 : decode cX10_keep 1 = .ok (.getfield 49, 3) := by decide +kernel
theorem dX10_keep_4 : decode cX10_keep 4 = .ok (.invokevirtual 163, 3) := by decide +kernel
theorem dX10_keep_7 : decode cX10_keep 7 = .ok (.iconst 2, 1) := by decide +kernel
theorem dX10_keep_8 : decode cX10_keep 8 = .ok (.if_icmp .lt 6, 3) := by decide +kernel
theorem dX10_keep_11 : decode cX10_keep 11 = .ok (.bipush (-3), 2) := by decide +kernel
theorem dX10_keep_13 : decode cX10_keep 13 = .ok (.ireturn, 1) := by decide +kernel
theorem dX10_keep_14 : decode cX10_keep 14 = .ok (.aload_n 0, 1) := by decide +kernel
theorem dX10_keep_15 : decode cX10_keep 15 = .ok (.getfield 49, 3) := by decide +kernel
theorem dX10_keep_18 : decode cX10_keep 18 = .ok (.aload_n 0, 1) := by decide +kernel
theorem dX10_keep_19 : decode cX10_keep 19 = .ok (.getfield 38, 3) := by decide +kernel
theorem dX10_keep_22 : decode cX10_keep 22 = .ok (.invokevirtual 146, 3) := by decide +kernel
theorem dX10_keep_25 : decode cX10_keep 25 = .ok (.aload_n 0, 1) := by decide +kernel
theorem dX10_keep_26 : decode cX10_keep 26 = .ok (.getfield 49, 3) := by decide +kernel
theorem dX10_keep_29 : decode cX10_keep 29 = .ok (.invokevirtual 163, 3) := by decide +kernel
theorem dX10_keep_32 : decode cX10_keep 32 = .ok (.ireturn, 1) := by decide +kernel
theorem dX10_back_0 : decode cX10_back 0 = .ok (.aload_n 0, 1) := by decide +kernel
theorem dX10_back_1 : decode cX10_back 1 = .ok (.getfield 49, 3) := by decide +kernel
theorem dX10_back_4 : decode cX10_back 4 = .ok (.invokevirtual 163, 3) := by decide +kernel
theorem dX10_back_7 : decode cX10_back 7 = .ok (.ifCond .ne 6, 3) := by decide +kernel
theorem dX10_back_10 : decode cX10_back 10 = .ok (.bipush (-2), 2) := by decide +kernel
theorem dX10_back_12 : decode cX10_back 12 = .ok (.ireturn, 1) := by decide +kernel
theorem dX10_back_13 : decode cX10_back 13 = .ok (.aload_n 0, 1) := by decide +kernel
theorem dX10_back_14 : decode cX10_back 14 = .ok (.getfield 49, 3) := by decide +kernel
theorem dX10_back_17 : decode cX10_back 17 = .ok (.aload_n 0, 1) := by decide +kernel
theorem dX10_back_18 : decode cX10_back 18 = .ok (.getfield 38, 3) := by decide +kernel
theorem dX10_back_21 : decode cX10_back 21 = .ok (.invokevirtual 166, 3) := by decide +kernel
theorem dX10_back_24 : decode cX10_back 24 = .ok (.aload_n 0, 1) := by decide +kernel
theorem dX10_back_25 : decode cX10_back 25 = .ok (.getfield 45, 3) := by decide +kernel
theorem dX10_back_28 : decode cX10_back 28 = .ok (.invokevirtual 113, 3) := by decide +kernel
theorem dX10_back_31 : decode cX10_back 31 = .ok (.aload_n 0, 1) := by decide +kernel
theorem dX10_back_32 : decode cX10_back 32 = .ok (.getfield 49, 3) := by decide +kernel
theorem dX10_back_35 : decode cX10_back 35 = .ok (.invokevirtual 163, 3) := by decide +kernel
theorem dX10_back_38 : decode cX10_back 38 = .ok (.ireturn, 1) := by decide +kernel
theorem dX10_count_0 : decode cX10_count 0 = .ok (.iload_n 1, 1) := by decide +kernel
theorem dX10_count_1 : decode cX10_count 1 = .ok (.tableswitch 111 0 7 #[47, 55, 63, 71, 79, 87, 95, 103], 47) := by decide +kernel
theorem dX10_count_48 : decode cX10_count 48 = .ok (.aload_n 0, 1) := by decide +kernel
theorem dX10_count_49 : decode cX10_count 49 = .ok (.getfield 28, 3) := by decide +kernel
theorem dX10_count_52 : decode cX10_count 52 = .ok (.invokevirtual 223, 3) := by decide +kernel
theorem dX10_count_55 : decode cX10_count 55 = .ok (.ireturn, 1) := by decide +kernel
theorem dX10_count_56 : decode cX10_count 56 = .ok (.aload_n 0, 1) := by decide +kernel
theorem dX10_count_57 : decode cX10_count 57 = .ok (.getfield 28, 3) := by decide +kernel
theorem dX10_count_60 : decode cX10_count 60 = .ok (.invokevirtual 114, 3) := by decide +kernel
theorem dX10_count_63 : decode cX10_count 63 = .ok (.ireturn, 1) := by decide +kernel
theorem dX10_count_64 : decode cX10_count 64 = .ok (.aload_n 0, 1) := by decide +kernel
theorem dX10_count_65 : decode cX10_count 65 = .ok (.getfield 38, 3) := by decide +kernel
theorem dX10_count_68 : decode cX10_count 68 = .ok (.getfield 139, 3) := by decide +kernel
theorem dX10_count_71 : decode cX10_count 71 = .ok (.ireturn, 1) := by decide +kernel
theorem dX10_count_72 : decode cX10_count 72 = .ok (.aload_n 0, 1) := by decide +kernel
theorem dX10_count_73 : decode cX10_count 73 = .ok (.getfield 55, 3) := by decide +kernel
theorem dX10_count_76 : decode cX10_count 76 = .ok (.invokevirtual 226, 3) := by decide +kernel
theorem dX10_count_79 : decode cX10_count 79 = .ok (.ireturn, 1) := by decide +kernel
theorem dX10_count_80 : decode cX10_count 80 = .ok (.aload_n 0, 1) := by decide +kernel
theorem dX10_count_81 : decode cX10_count 81 = .ok (.getfield 59, 3) := by decide +kernel
theorem dX10_count_84 : decode cX10_count 84 = .ok (.invokevirtual 226, 3) := by decide +kernel
theorem dX10_count_87 : decode cX10_count 87 = .ok (.ireturn, 1) := by decide +kernel
theorem dX10_count_88 : decode cX10_count 88 = .ok (.aload_n 0, 1) := by decide +kernel
theorem dX10_count_89 : decode cX10_count 89 = .ok (.getfield 45, 3) := by decide +kernel
theorem dX10_count_92 : decode cX10_count 92 = .ok (.invokevirtual 163, 3) := by decide +kernel
theorem dX10_count_95 : decode cX10_count 95 = .ok (.ireturn, 1) := by decide +kernel
theorem dX10_count_96 : decode cX10_count 96 = .ok (.aload_n 0, 1) := by decide +kernel
theorem dX10_count_97 : decode cX10_count 97 = .ok (.getfield 49, 3) := by decide +kernel
theorem dX10_count_100 : decode cX10_count 100 = .ok (.invokevirtual 163, 3) := by decide +kernel
theorem dX10_count_103 : decode cX10_count 103 = .ok (.ireturn, 1) := by decide +kernel
theorem dX10_count_104 : decode cX10_count 104 = .ok (.aload_n 0, 1) := by decide +kernel
theorem dX10_count_105 : decode cX10_count 105 = .ok (.getfield 12, 3) := by decide +kernel
theorem dX10_count_108 : decode cX10_count 108 = .ok (.invokevirtual 106, 3) := by decide +kernel
theorem dX10_count_111 : decode cX10_count 111 = .ok (.ireturn, 1) := by decide +kernel
theorem dX10_count_112 : decode cX10_count 112 = .ok (.iconst (-1), 1) := by decide +kernel
theorem dX10_count_113 : decode cX10_count 113 = .ok (.ireturn, 1) := by decide +kernel
theorem dX10_isFlag_0 : decode cX10_isFlag 0 = .ok (.iload_n 0, 1) := by decide +kernel
theorem dX10_isFlag_1 : decode cX10_isFlag 1 = .ok (.ifCond .eq 8, 3) := by decide +kernel
theorem dX10_isFlag_4 : decode cX10_isFlag 4 = .ok (.iload_n 0, 1) := by decide +kernel
theorem dX10_isFlag_5 : decode cX10_isFlag 5 = .ok (.iconst 1, 1) := by decide +kernel
theorem dX10_isFlag_6 : decode cX10_isFlag 6 = .ok (.if_icmp .ne 7, 3) := by decide +kernel
theorem dX10_isFlag_9 : decode cX10_isFlag 9 = .ok (.iconst 1, 1) := by decide +kernel
theorem dX10_isFlag_10 : decode cX10_isFlag 10 = .ok (.goto 4, 3) := by decide +kernel
theorem dX10_isFlag_13 : decode cX10_isFlag 13 = .ok (.iconst 0, 1) := by decide +kernel
theorem dX10_isFlag_14 : decode cX10_isFlag 14 = .ok (.ireturn, 1) := by decide +kernel
theorem dX10_orNone_0 : decode cX10_orNone 0 = .ok (.iload_n 0, 1) := by decide +kernel
theorem dX10_orNone_1 : decode cX10_orNone 1 = .ok (.ifCond .lt 7, 3) := by decide +kernel
theorem dX10_orNone_4 : decode cX10_orNone 4 = .ok (.iload_n 0, 1) := by decide +kernel
theorem dX10_orNone_5 : decode cX10_orNone 5 = .ok (.goto 5, 3) := by decide +kernel
theorem dX10_orNone_8 : decode cX10_orNone 8 = .ok (.bipush (-4), 2) := by decide +kernel
theorem dX10_orNone_10 : decode cX10_orNone 10 = .ok (.ireturn, 1) := by decide +kernel
theorem dX10_packed_0 : decode cX10_packed 0 = .ok (.iload_n 2, 1) := by decide +kernel
theorem dX10_packed_1 : decode cX10_packed 1 = .ok (.bipush 6, 2) := by decide +kernel
theorem dX10_packed_3 : decode cX10_packed 3 = .ok (.imul, 1) := by decide +kernel
theorem dX10_packed_4 : decode cX10_packed 4 = .ok (.iload_n 1, 1) := by decide +kernel
theorem dX10_packed_5 : decode cX10_packed 5 = .ok (.iadd, 1) := by decide +kernel
theorem dX10_packed_6 : decode cX10_packed 6 = .ok (.iconst 1, 1) := by decide +kernel
theorem dX10_packed_7 : decode cX10_packed 7 = .ok (.iadd, 1) := by decide +kernel
theorem dX10_packed_8 : decode cX10_packed 8 = .ok (.bipush 8, 2) := by decide +kernel
theorem dX10_packed_10 : decode cX10_packed 10 = .ok (.imul, 1) := by decide +kernel
theorem dX10_packed_11 : decode cX10_packed 11 = .ok (.iload_n 0, 1) := by decide +kernel
theorem dX10_packed_12 : decode cX10_packed 12 = .ok (.iadd, 1) := by decide +kernel
theorem dX10_packed_13 : decode cX10_packed 13 = .ok (.ireturn, 1) := by decide +kernel
theorem dX10_yardOf_0 : decode cX10_yardOf 0 = .ok (.iload_n 0, 1) := by decide +kernel
theorem dX10_yardOf_1 : decode cX10_yardOf 1 = .ok (.bipush 8, 2) := by decide +kernel
theorem dX10_yardOf_3 : decode cX10_yardOf 3 = .ok (.irem, 1) := by decide +kernel
theorem dX10_yardOf_4 : decode cX10_yardOf 4 = .ok (.ireturn, 1) := by decide +kernel
theorem dX10_followedIn_0 : decode cX10_followedIn 0 = .ok (.iload_n 0, 1) := by decide +kernel
theorem dX10_followedIn_1 : decode cX10_followedIn 1 = .ok (.bipush 8, 2) := by decide +kernel
theorem dX10_followedIn_3 : decode cX10_followedIn 3 = .ok (.idiv, 1) := by decide +kernel
theorem dX10_followedIn_4 : decode cX10_followedIn 4 = .ok (.bipush 6, 2) := by decide +kernel
theorem dX10_followedIn_6 : decode cX10_followedIn 6 = .ok (.irem, 1) := by decide +kernel
theorem dX10_followedIn_7 : decode cX10_followedIn 7 = .ok (.iconst 1, 1) := by decide +kernel
theorem dX10_followedIn_8 : decode cX10_followedIn 8 = .ok (.isub, 1) := by decide +kernel
theorem dX10_followedIn_9 : decode cX10_followedIn 9 = .ok (.ireturn, 1) := by decide +kernel
theorem dX10_ageIn_0 : decode cX10_ageIn 0 = .ok (.iload_n 0, 1) := by decide +kernel
theorem dX10_ageIn_1 : decode cX10_ageIn 1 = .ok (.bipush 48, 2) := by decide +kernel
theorem dX10_ageIn_3 : decode cX10_ageIn 3 = .ok (.idiv, 1) := by decide +kernel
theorem dX10_ageIn_4 : decode cX10_ageIn 4 = .ok (.ireturn, 1) := by decide +kernel
theorem dX10_fedState_0 : decode cX10_fedState 0 = .ok (.iload_n 0, 1) := by decide +kernel
theorem dX10_fedState_1 : decode cX10_fedState 1 = .ok (.invokestatic 160, 3) := by decide +kernel
theorem dX10_fedState_4 : decode cX10_fedState 4 = .ok (.iload_n 1, 1) := by decide +kernel
theorem dX10_fedState_5 : decode cX10_fedState 5 = .ok (.iconst 0, 1) := by decide +kernel
theorem dX10_fedState_6 : decode cX10_fedState 6 = .ok (.invokestatic 227, 3) := by decide +kernel
theorem dX10_fedState_9 : decode cX10_fedState 9 = .ok (.ireturn, 1) := by decide +kernel
theorem dX10_drawnFeeder_0 : decode cX10_drawnFeeder 0 = .ok (.ldc2_w 230, 3) := by decide +kernel
theorem dX10_drawnFeeder_3 : decode cX10_drawnFeeder 3 = .ok (.iload_n 0, 1) := by decide +kernel
theorem dX10_drawnFeeder_4 : decode cX10_drawnFeeder 4 = .ok (.i2l, 1) := by decide +kernel
theorem dX10_drawnFeeder_5 : decode cX10_drawnFeeder 5 = .ok (.lmul, 1) := by decide +kernel
theorem dX10_drawnFeeder_6 : decode cX10_drawnFeeder 6 = .ok (.ldc2_w 232, 3) := by decide +kernel
theorem dX10_drawnFeeder_9 : decode cX10_drawnFeeder 9 = .ok (.iload_n 1, 1) := by decide +kernel
theorem dX10_drawnFeeder_10 : decode cX10_drawnFeeder 10 = .ok (.i2l, 1) := by decide +kernel
theorem dX10_drawnFeeder_11 : decode cX10_drawnFeeder 11 = .ok (.lmul, 1) := by decide +kernel
theorem dX10_drawnFeeder_12 : decode cX10_drawnFeeder 12 = .ok (.ladd, 1) := by decide +kernel
theorem dX10_drawnFeeder_13 : decode cX10_drawnFeeder 13 = .ok (.lconst 1, 1) := by decide +kernel
theorem dX10_drawnFeeder_14 : decode cX10_drawnFeeder 14 = .ok (.ladd, 1) := by decide +kernel
theorem dX10_drawnFeeder_15 : decode cX10_drawnFeeder 15 = .ok (.lstore_n 3, 1) := by decide +kernel
theorem dX10_drawnFeeder_16 : decode cX10_drawnFeeder 16 = .ok (.lload_n 3, 1) := by decide +kernel
theorem dX10_drawnFeeder_17 : decode cX10_drawnFeeder 17 = .ok (.lload_n 3, 1) := by decide +kernel
theorem dX10_drawnFeeder_18 : decode cX10_drawnFeeder 18 = .ok (.lmul, 1) := by decide +kernel
theorem dX10_drawnFeeder_19 : decode cX10_drawnFeeder 19 = .ok (.ldc2_w 234, 3) := by decide +kernel
theorem dX10_drawnFeeder_22 : decode cX10_drawnFeeder 22 = .ok (.lrem, 1) := by decide +kernel
theorem dX10_drawnFeeder_23 : decode cX10_drawnFeeder 23 = .ok (.lstore 5, 2) := by decide +kernel
theorem dX10_drawnFeeder_25 : decode cX10_drawnFeeder 25 = .ok (.iload_n 2, 1) := by decide +kernel
theorem dX10_drawnFeeder_26 : decode cX10_drawnFeeder 26 = .ok (.iconst 1, 1) := by decide +kernel
theorem dX10_drawnFeeder_27 : decode cX10_drawnFeeder 27 = .ok (.if_icmp .lt 18, 3) := by decide +kernel
theorem dX10_drawnFeeder_30 : decode cX10_drawnFeeder 30 = .ok (.lload 5, 2) := by decide +kernel
theorem dX10_drawnFeeder_32 : decode cX10_drawnFeeder 32 = .ok (.ldc2_w 236, 3) := by decide +kernel
theorem dX10_drawnFeeder_35 : decode cX10_drawnFeeder 35 = .ok (.ldiv, 1) := by decide +kernel
theorem dX10_drawnFeeder_36 : decode cX10_drawnFeeder 36 = .ok (.ldc2_w 238, 3) := by decide +kernel
theorem dX10_drawnFeeder_39 : decode cX10_drawnFeeder 39 = .ok (.lrem, 1) := by decide +kernel
theorem dX10_drawnFeeder_40 : decode cX10_drawnFeeder 40 = .ok (.lconst 0, 1) := by decide +kernel
theorem dX10_drawnFeeder_41 : decode cX10_drawnFeeder 41 = .ok (.lcmp, 1) := by decide +kernel
theorem dX10_drawnFeeder_42 : decode cX10_drawnFeeder 42 = .ok (.ifCond .ne 5, 3) := by decide +kernel
theorem dX10_drawnFeeder_45 : decode cX10_drawnFeeder 45 = .ok (.iconst (-1), 1) := by decide +kernel
theorem dX10_drawnFeeder_46 : decode cX10_drawnFeeder 46 = .ok (.ireturn, 1) := by decide +kernel
theorem dX10_drawnFeeder_47 : decode cX10_drawnFeeder 47 = .ok (.lload 5, 2) := by decide +kernel
theorem dX10_drawnFeeder_49 : decode cX10_drawnFeeder 49 = .ok (.iload_n 2, 1) := by decide +kernel
theorem dX10_drawnFeeder_50 : decode cX10_drawnFeeder 50 = .ok (.i2l, 1) := by decide +kernel
theorem dX10_drawnFeeder_51 : decode cX10_drawnFeeder 51 = .ok (.lrem, 1) := by decide +kernel
theorem dX10_drawnFeeder_52 : decode cX10_drawnFeeder 52 = .ok (.l2i, 1) := by decide +kernel
theorem dX10_drawnFeeder_53 : decode cX10_drawnFeeder 53 = .ok (.ireturn, 1) := by decide +kernel
theorem dX10_commonDivisor_0 : decode cX10_commonDivisor 0 = .ok (.lload_n 0, 1) := by decide +kernel
theorem dX10_commonDivisor_1 : decode cX10_commonDivisor 1 = .ok (.lstore 4, 2) := by decide +kernel
theorem dX10_commonDivisor_3 : decode cX10_commonDivisor 3 = .ok (.lload_n 2, 1) := by decide +kernel
theorem dX10_commonDivisor_4 : decode cX10_commonDivisor 4 = .ok (.lstore 6, 2) := by decide +kernel
theorem dX10_commonDivisor_6 : decode cX10_commonDivisor 6 = .ok (.iconst 0, 1) := by decide +kernel
theorem dX10_commonDivisor_7 : decode cX10_commonDivisor 7 = .ok (.istore 8, 2) := by decide +kernel
theorem dX10_commonDivisor_9 : decode cX10_commonDivisor 9 = .ok (.iload 8, 2) := by decide +kernel
theorem dX10_commonDivisor_11 : decode cX10_commonDivisor 11 = .ok (.sipush 200, 3) := by decide +kernel
theorem dX10_commonDivisor_14 : decode cX10_commonDivisor 14 = .ok (.if_icmp .ge 31, 3) := by decide +kernel
theorem dX10_commonDivisor_17 : decode cX10_commonDivisor 17 = .ok (.lload 6, 2) := by decide +kernel
theorem dX10_commonDivisor_19 : decode cX10_commonDivisor 19 = .ok (.lconst 0, 1) := by decide +kernel
theorem dX10_commonDivisor_20 : decode cX10_commonDivisor 20 = .ok (.lcmp, 1) := by decide +kernel
theorem dX10_commonDivisor_21 : decode cX10_commonDivisor 21 = .ok (.ifCond .eq 24, 3) := by decide +kernel
theorem dX10_commonDivisor_24 : decode cX10_commonDivisor 24 = .ok (.lload 4, 2) := by decide +kernel
theorem dX10_commonDivisor_26 : decode cX10_commonDivisor 26 = .ok (.lload 6, 2) := by decide +kernel
theorem dX10_commonDivisor_28 : decode cX10_commonDivisor 28 = .ok (.lrem, 1) := by decide +kernel
theorem dX10_commonDivisor_29 : decode cX10_commonDivisor 29 = .ok (.lstore 9, 2) := by decide +kernel
theorem dX10_commonDivisor_31 : decode cX10_commonDivisor 31 = .ok (.lload 6, 2) := by decide +kernel
theorem dX10_commonDivisor_33 : decode cX10_commonDivisor 33 = .ok (.lstore 4, 2) := by decide +kernel
theorem dX10_commonDivisor_35 : decode cX10_commonDivisor 35 = .ok (.lload 9, 2) := by decide +kernel
theorem dX10_commonDivisor_37 : decode cX10_commonDivisor 37 = .ok (.lstore 6, 2) := by decide +kernel
theorem dX10_commonDivisor_39 : decode cX10_commonDivisor 39 = .ok (.iinc 8 1, 3) := by decide +kernel
theorem dX10_commonDivisor_42 : decode cX10_commonDivisor 42 = .ok (.goto (-33), 3) := by decide +kernel
theorem dX10_commonDivisor_45 : decode cX10_commonDivisor 45 = .ok (.lload 4, 2) := by decide +kernel
theorem dX10_commonDivisor_47 : decode cX10_commonDivisor 47 = .ok (.lreturn, 1) := by decide +kernel
theorem dX11_init_0 : decode cX11_init 0 = .ok (.aload_n 0, 1) := by decide +kernel
theorem dX11_init_1 : decode cX11_init 1 = .ok (.invokespecial 1, 3) := by decide +kernel
theorem dX11_init_4 : decode cX11_init 4 = .ok (.aload_n 0, 1) := by decide +kernel
theorem dX11_init_5 : decode cX11_init 5 = .ok (.sipush 164, 3) := by decide +kernel
theorem dX11_init_8 : decode cX11_init 8 = .ok (.newarray .int, 2) := by decide +kernel
theorem dX11_init_10 : decode cX11_init 10 = .ok (.putfield 7, 3) := by decide +kernel
theorem dX11_init_13 : decode cX11_init 13 = .ok (.aload_n 0, 1) := by decide +kernel
theorem dX11_init_14 : decode cX11_init 14 = .ok (.bipush 64, 2) := by decide +kernel
theorem dX11_init_16 : decode cX11_init 16 = .ok (.newarray .int, 2) := by decide +kernel
theorem dX11_init_18 : decode cX11_init 18 = .ok (.putfield 13, 3) := by decide +kernel
theorem dX11_init_21 : decode cX11_init 21 = .ok (.aload_n 0, 1) := by decide +kernel
theorem dX11_init_22 : decode cX11_init 22 = .ok (.sipush 300, 3) := by decide +kernel
theorem dX11_init_25 : decode cX11_init 25 = .ok (.newarray .byte, 2) := by decide +kernel
theorem dX11_init_27 : decode cX11_init 27 = .ok (.putfield 16, 3) := by decide +kernel
theorem dX11_init_30 : decode cX11_init 30 = .ok (.aload_n 0, 1) := by decide +kernel
theorem dX11_init_31 : decode cX11_init 31 = .ok (.iconst 3, 1) := by decide +kernel
theorem dX11_init_32 : decode cX11_init 32 = .ok (.newarray .int, 2) := by decide +kernel
theorem dX11_init_34 : decode cX11_init 34 = .ok (.putfield 20, 3) := by decide +kernel
theorem dX11_init_37 : decode cX11_init 37 = .ok (.aload_n 0, 1) := by decide +kernel
theorem dX11_init_38 : decode cX11_init 38 = .ok (.bipush 24, 2) := by decide +kernel
theorem dX11_init_40 : decode cX11_init 40 = .ok (.newarray .int, 2) := by decide +kernel
theorem dX11_init_42 : decode cX11_init 42 = .ok (.putfield 23, 3) := by decide +kernel
theorem dX11_init_45 : decode cX11_init 45 = .ok (.aload_n 0, 1) := by decide +kernel
theorem dX11_init_46 : decode cX11_init 46 = .ok (.bipush 6, 2) := by decide +kernel
theorem dX11_init_48 : decode cX11_init 48 = .ok (.newarray .int, 2) := by decide +kernel
theorem dX11_init_50 : decode cX11_init 50 = .ok (.putfield 26, 3) := by decide +kernel
theorem dX11_init_53 : decode cX11_init 53 = .ok (.aload_n 0, 1) := by decide +kernel
theorem dX11_init_54 : decode cX11_init 54 = .ok (.bipush 6, 2) := by decide +kernel
theorem dX11_init_56 : decode cX11_init 56 = .ok (.newarray .int, 2) := by decide +kernel
theorem dX11_init_58 : decode cX11_init 58 = .ok (.putfield 29, 3) := by decide +kernel
theorem dX11_init_61 : decode cX11_init 61 = .ok (.aload_n 0, 1) := by decide +kernel
theorem dX11_init_62 : decode cX11_init 62 = .ok (.bipush 6, 2) := by decide +kernel
theorem dX11_init_64 : decode cX11_init 64 = .ok (.newarray .int, 2) := by decide +kernel
theorem dX11_init_66 : decode cX11_init 66 = .ok (.putfield 32, 3) := by decide +kernel
theorem dX11_init_69 : decode cX11_init 69 = .ok (.aload_n 0, 1) := by decide +kernel
theorem dX11_init_70 : decode cX11_init 70 = .ok (.sipush 1008, 3) := by decide +kernel
theorem dX11_init_73 : decode cX11_init 73 = .ok (.newarray .int, 2) := by decide +kernel
theorem dX11_init_75 : decode cX11_init 75 = .ok (.putfield 35, 3) := by decide +kernel
theorem dX11_init_78 : decode cX11_init 78 = .ok (.aload_n 0, 1) := by decide +kernel
theorem dX11_init_79 : decode cX11_init 79 = .ok (.sipush 1008, 3) := by decide +kernel
theorem dX11_init_82 : decode cX11_init 82 = .ok (.newarray .int, 2) := by decide +kernel
theorem dX11_init_84 : decode cX11_init 84 = .ok (.putfield 38, 3) := by decide +kernel
theorem dX11_init_87 : decode cX11_init 87 = .ok (.aload_n 0, 1) := by decide +kernel
theorem dX11_init_88 : decode cX11_init 88 = .ok (.sipush 1008, 3) := by decide +kernel
theorem dX11_init_91 : decode cX11_init 91 = .ok (.newarray .boolean, 2) := by decide +kernel
theorem dX11_init_93 : decode cX11_init 93 = .ok (.putfield 41, 3) := by decide +kernel
theorem dX11_init_96 : decode cX11_init 96 = .ok (.aload_n 0, 1) := by decide +kernel
theorem dX11_init_97 : decode cX11_init 97 = .ok (.sipush 1008, 3) := by decide +kernel
theorem dX11_init_100 : decode cX11_init 100 = .ok (.newarray .boolean, 2) := by decide +kernel
theorem dX11_init_102 : decode cX11_init 102 = .ok (.putfield 45, 3) := by decide +kernel
theorem dX11_init_105 : decode cX11_init 105 = .ok (.aload_n 0, 1) := by decide +kernel
theorem dX11_init_106 : decode cX11_init 106 = .ok (.bipush 6, 2) := by decide +kernel
theorem dX11_init_108 : decode cX11_init 108 = .ok (.newarray .int, 2) := by decide +kernel
theorem dX11_init_110 : decode cX11_init 110 = .ok (.putfield 48, 3) := by decide +kernel
theorem dX11_init_113 : decode cX11_init 113 = .ok (.aload_n 0, 1) := by decide +kernel
theorem dX11_init_114 : decode cX11_init 114 = .ok (.bipush 6, 2) := by decide +kernel
theorem dX11_init_116 : decode cX11_init 116 = .ok (.newarray .int, 2) := by decide +kernel
theorem dX11_init_118 : decode cX11_init 118 = .ok (.putfield 51, 3) := by decide +kernel
theorem dX11_init_121 : decode cX11_init 121 = .ok (.aload_n 0, 1) := by decide +kernel
theorem dX11_init_122 : decode cX11_init 122 = .ok (.sipush 1008, 3) := by decide +kernel
theorem dX11_init_125 : decode cX11_init 125 = .ok (.newarray .long, 2) := by decide +kernel
theorem dX11_init_127 : decode cX11_init 127 = .ok (.putfield 54, 3) := by decide +kernel
theorem dX11_init_130 : decode cX11_init 130 = .ok (.aload_n 0, 1) := by decide +kernel
theorem dX11_init_131 : decode cX11_init 131 = .ok (.sipush 1008, 3) := by decide +kernel
theorem dX11_init_134 : decode cX11_init 134 = .ok (.newarray .long, 2) := by decide +kernel
theorem dX11_init_136 : decode cX11_init 136 = .ok (.putfield 58, 3) := by decide +kernel
theorem dX11_init_139 : decode cX11_init 139 = .ok (.aload_n 0, 1) := by decide +kernel
theorem dX11_init_140 : decode cX11_init 140 = .ok (.getfield 7, 3) := by decide +kernel
theorem dX11_init_143 : decode cX11_init 143 = .ok (.iconst 0, 1) := by decide +kernel
theorem dX11_init_144 : decode cX11_init 144 = .ok (.iconst 4, 1) := by decide +kernel
theorem dX11_init_145 : decode cX11_init 145 = .ok (.iastore, 1) := by decide +kernel
theorem dX11_init_146 : decode cX11_init 146 = .ok (.aload_n 0, 1) := by decide +kernel
theorem dX11_init_147 : decode cX11_init 147 = .ok (.iconst 0, 1) := by decide +kernel
theorem dX11_init_148 : decode cX11_init 148 = .ok (.iconst 0, 1) := by decide +kernel
theorem dX11_init_149 : decode cX11_init 149 = .ok (.iconst 1, 1) := by decide +kernel
end
section
theorem dX11_init_150 : decode cX11_init 150 = .ok (.invokevirtual 61, 3) := by decide +kernel
theorem dX11_init_153 : decode cX11_init 153 = .ok (.aload_n 0, 1) := by decide +kernel
theorem dX11_init_154 : decode cX11_init 154 = .ok (.iconst 0, 1) := by decide +kernel
theorem dX11_init_155 : decode cX11_init 155 = .ok (.iconst 1, 1) := by decide +kernel
theorem dX11_init_156 : decode cX11_init 156 = .ok (.iconst 2, 1) := by decide +kernel
theorem dX11_init_157 : decode cX11_init 157 = .ok (.invokevirtual 61, 3) := by decide +kernel
theorem dX11_init_160 : decode cX11_init 160 = .ok (.aload_n 0, 1) := by decide +kernel
theorem dX11_init_161 : decode cX11_init 161 = .ok (.iconst 0, 1) := by decide +kernel
theorem dX11_init_162 : decode cX11_init 162 = .ok (.iconst 2, 1) := by decide +kernel
theorem dX11_init_163 : decode cX11_init 163 = .ok (.iconst 3, 1) := by decide +kernel
theorem dX11_init_164 : decode cX11_init 164 = .ok (.invokevirtual 61, 3) := by decide +kernel
theorem dX11_init_167 : decode cX11_init 167 = .ok (.aload_n 0, 1) := by decide +kernel
theorem dX11_init_168 : decode cX11_init 168 = .ok (.getfield 7, 3) := by decide +kernel
theorem dX11_init_171 : decode cX11_init 171 = .ok (.iconst 1, 1) := by decide +kernel
theorem dX11_init_172 : decode cX11_init 172 = .ok (.iconst 2, 1) := by decide +kernel
theorem dX11_init_173 : decode cX11_init 173 = .ok (.iastore, 1) := by decide +kernel
theorem dX11_init_174 : decode cX11_init 174 = .ok (.aload_n 0, 1) := by decide +kernel
theorem dX11_init_175 : decode cX11_init 175 = .ok (.getfield 7, 3) := by decide +kernel
theorem dX11_init_178 : decode cX11_init 178 = .ok (.bipush 12, 2) := by decide +kernel
theorem dX11_init_180 : decode cX11_init 180 = .ok (.iconst 1, 1) := by decide +kernel
theorem dX11_init_181 : decode cX11_init 181 = .ok (.iastore, 1) := by decide +kernel
theorem dX11_init_182 : decode cX11_init 182 = .ok (.aload_n 0, 1) := by decide +kernel
theorem dX11_init_183 : decode cX11_init 183 = .ok (.getfield 7, 3) := by decide +kernel
theorem dX11_init_186 : decode cX11_init 186 = .ok (.bipush 13, 2) := by decide +kernel
theorem dX11_init_188 : decode cX11_init 188 = .ok (.iconst 2, 1) := by decide +kernel
theorem dX11_init_189 : decode cX11_init 189 = .ok (.iastore, 1) := by decide +kernel
theorem dX11_init_190 : decode cX11_init 190 = .ok (.aload_n 0, 1) := by decide +kernel
theorem dX11_init_191 : decode cX11_init 191 = .ok (.getfield 7, 3) := by decide +kernel
theorem dX11_init_194 : decode cX11_init 194 = .ok (.bipush 17, 2) := by decide +kernel
theorem dX11_init_196 : decode cX11_init 196 = .ok (.iconst 4, 1) := by decide +kernel
theorem dX11_init_197 : decode cX11_init 197 = .ok (.iastore, 1) := by decide +kernel
theorem dX11_init_198 : decode cX11_init 198 = .ok (.aload_n 0, 1) := by decide +kernel
theorem dX11_init_199 : decode cX11_init 199 = .ok (.getfield 7, 3) := by decide +kernel
theorem dX11_init_202 : decode cX11_init 202 = .ok (.bipush 18, 2) := by decide +kernel
theorem dX11_init_204 : decode cX11_init 204 = .ok (.iconst 1, 1) := by decide +kernel
theorem dX11_init_205 : decode cX11_init 205 = .ok (.iastore, 1) := by decide +kernel
theorem dX11_init_206 : decode cX11_init 206 = .ok (.iconst 0, 1) := by decide +kernel
theorem dX11_init_207 : decode cX11_init 207 = .ok (.istore_n 1, 1) := by decide +kernel
theorem dX11_init_208 : decode cX11_init 208 = .ok (.iload_n 1, 1) := by decide +kernel
theorem dX11_init_209 : decode cX11_init 209 = .ok (.iconst 4, 1) := by decide +kernel
theorem dX11_init_210 : decode cX11_init 210 = .ok (.if_icmp .ge 19, 3) := by decide +kernel
theorem dX11_init_213 : decode cX11_init 213 = .ok (.aload_n 0, 1) := by decide +kernel
theorem dX11_init_214 : decode cX11_init 214 = .ok (.getfield 7, 3) := by decide +kernel
theorem dX11_init_217 : decode cX11_init 217 = .ok (.bipush 22, 2) := by decide +kernel
theorem dX11_init_219 : decode cX11_init 219 = .ok (.iload_n 1, 1) := by decide +kernel
theorem dX11_init_220 : decode cX11_init 220 = .ok (.iadd, 1) := by decide +kernel
theorem dX11_init_221 : decode cX11_init 221 = .ok (.iload_n 1, 1) := by decide +kernel
theorem dX11_init_222 : decode cX11_init 222 = .ok (.iastore, 1) := by decide +kernel
theorem dX11_init_223 : decode cX11_init 223 = .ok (.iinc 1 1, 3) := by decide +kernel
theorem dX11_init_226 : decode cX11_init 226 = .ok (.goto (-18), 3) := by decide +kernel
theorem dX11_init_229 : decode cX11_init 229 = .ok (.aload_n 0, 1) := by decide +kernel
theorem dX11_init_230 : decode cX11_init 230 = .ok (.getfield 7, 3) := by decide +kernel
theorem dX11_init_233 : decode cX11_init 233 = .ok (.bipush 34, 2) := by decide +kernel
theorem dX11_init_235 : decode cX11_init 235 = .ok (.iconst 3, 1) := by decide +kernel
theorem dX11_init_236 : decode cX11_init 236 = .ok (.iastore, 1) := by decide +kernel
theorem dX11_init_237 : decode cX11_init 237 = .ok (.aload_n 0, 1) := by decide +kernel
theorem dX11_init_238 : decode cX11_init 238 = .ok (.invokevirtual 65, 3) := by decide +kernel
theorem dX11_init_241 : decode cX11_init 241 = .ok (.return_, 1) := by decide +kernel
theorem dX11_in_0 : decode cX11_in 0 = .ok (.iload_n 0, 1) := by decide +kernel
theorem dX11_in_1 : decode cX11_in 1 = .ok (.iload_n 1, 1) := by decide +kernel
theorem dX11_in_2 : decode cX11_in 2 = .ok (.if_icmp .lt 12, 3) := by decide +kernel
theorem dX11_in_5 : decode cX11_in 5 = .ok (.iload_n 0, 1) := by decide +kernel
theorem dX11_in_6 : decode cX11_in 6 = .ok (.iload_n 2, 1) := by decide +kernel
theorem dX11_in_7 : decode cX11_in 7 = .ok (.if_icmp .gt 7, 3) := by decide +kernel
theorem dX11_in_10 : decode cX11_in 10 = .ok (.iconst 1, 1) := by decide +kernel
theorem dX11_in_11 : decode cX11_in 11 = .ok (.goto 4, 3) := by decide +kernel
theorem dX11_in_14 : decode cX11_in 14 = .ok (.iconst 0, 1) := by decide +kernel
theorem dX11_in_15 : decode cX11_in 15 = .ok (.ireturn, 1) := by decide +kernel
theorem dX11_link_0 : decode cX11_link 0 = .ok (.aload_n 0, 1) := by decide +kernel
theorem dX11_link_1 : decode cX11_link 1 = .ok (.getfield 7, 3) := by decide +kernel
theorem dX11_link_4 : decode cX11_link 4 = .ok (.iload_n 1, 1) := by decide +kernel
theorem dX11_link_5 : decode cX11_link 5 = .ok (.iconst 4, 1) := by decide +kernel
theorem dX11_link_6 : decode cX11_link 6 = .ok (.iadd, 1) := by decide +kernel
theorem dX11_link_7 : decode cX11_link 7 = .ok (.iload_n 2, 1) := by decide +kernel
theorem dX11_link_8 : decode cX11_link 8 = .ok (.iadd, 1) := by decide +kernel
theorem dX11_link_9 : decode cX11_link 9 = .ok (.dup2, 1) := by decide +kernel
theorem dX11_link_10 : decode cX11_link 10 = .ok (.iaload, 1) := by decide +kernel
theorem dX11_link_11 : decode cX11_link 11 = .ok (.iconst 1, 1) := by decide +kernel
theorem dX11_link_12 : decode cX11_link 12 = .ok (.iload_n 3, 1) := by decide +kernel
theorem dX11_link_13 : decode cX11_link 13 = .ok (.ishl, 1) := by decide +kernel
theorem dX11_link_14 : decode cX11_link 14 = .ok (.ior, 1) := by decide +kernel
theorem dX11_link_15 : decode cX11_link 15 = .ok (.iastore, 1) := by decide +kernel
theorem dX11_link_16 : decode cX11_link 16 = .ok (.aload_n 0, 1) := by decide +kernel
theorem dX11_link_17 : decode cX11_link 17 = .ok (.getfield 7, 3) := by decide +kernel
theorem dX11_link_20 : decode cX11_link 20 = .ok (.iload_n 1, 1) := by decide +kernel
theorem dX11_link_21 : decode cX11_link 21 = .ok (.iconst 4, 1) := by decide +kernel
theorem dX11_link_22 : decode cX11_link 22 = .ok (.iadd, 1) := by decide +kernel
theorem dX11_link_23 : decode cX11_link 23 = .ok (.iload_n 3, 1) := by decide +kernel
theorem dX11_link_24 : decode cX11_link 24 = .ok (.iadd, 1) := by decide +kernel
theorem dX11_link_25 : decode cX11_link 25 = .ok (.dup2, 1) := by decide +kernel
theorem dX11_link_26 : decode cX11_link 26 = .ok (.iaload, 1) := by decide +kernel
theorem dX11_link_27 : decode cX11_link 27 = .ok (.iconst 1, 1) := by decide +kernel
theorem dX11_link_28 : decode cX11_link 28 = .ok (.iload_n 2, 1) := by decide +kernel
theorem dX11_link_29 : decode cX11_link 29 = .ok (.ishl, 1) := by decide +kernel
theorem dX11_link_30 : decode cX11_link 30 = .ok (.ior, 1) := by decide +kernel
theorem dX11_link_31 : decode cX11_link 31 = .ok (.iastore, 1) := by decide +kernel
theorem dX11_link_32 : decode cX11_link 32 = .ok (.return_, 1) := by decide +kernel
theorem dX11_write_0 : decode cX11_write 0 = .ok (.iload_n 1, 1) := by decide +kernel
theorem dX11_write_1 : decode cX11_write 1 = .ok (.iconst 1, 1) := by decide +kernel
theorem dX11_write_2 : decode cX11_write 2 = .ok (.bipush 8, 2) := by decide +kernel
theorem dX11_write_4 : decode cX11_write 4 = .ok (.invokestatic 68, 3) := by decide +kernel
theorem dX11_write_7 : decode cX11_write 7 = .ok (.ifCond .ne 5, 3) := by decide +kernel
theorem dX11_write_10 : decode cX11_write 10 = .ok (.iconst (-1), 1) := by decide +kernel
theorem dX11_write_11 : decode cX11_write 11 = .ok (.ireturn, 1) := by decide +kernel
theorem dX11_write_12 : decode cX11_write 12 = .ok (.aload_n 0, 1) := by decide +kernel
theorem dX11_write_13 : decode cX11_write 13 = .ok (.getfield 72, 3) := by decide +kernel
theorem dX11_write_16 : decode cX11_write 16 = .ok (.iload_n 1, 1) := by decide +kernel
theorem dX11_write_17 : decode cX11_write 17 = .ok (.iadd, 1) := by decide +kernel
theorem dX11_write_18 : decode cX11_write 18 = .ok (.sipush 300, 3) := by decide +kernel
theorem dX11_write_21 : decode cX11_write 21 = .ok (.if_icmp .le 6, 3) := by decide +kernel
theorem dX11_write_24 : decode cX11_write 24 = .ok (.bipush (-3), 2) := by decide +kernel
theorem dX11_write_26 : decode cX11_write 26 = .ok (.ireturn, 1) := by decide +kernel
theorem dX11_write_27 : decode cX11_write 27 = .ok (.iload_n 1, 1) := by decide +kernel
theorem dX11_write_28 : decode cX11_write 28 = .ok (.iconst 1, 1) := by decide +kernel
theorem dX11_write_29 : decode cX11_write 29 = .ok (.isub, 1) := by decide +kernel
theorem dX11_write_30 : decode cX11_write 30 = .ok (.istore 4, 2) := by decide +kernel
theorem dX11_write_32 : decode cX11_write 32 = .ok (.iload 4, 2) := by decide +kernel
theorem dX11_write_34 : decode cX11_write 34 = .ok (.ifCond .lt 41, 3) := by decide +kernel
theorem dX11_write_37 : decode cX11_write 37 = .ok (.aload_n 0, 1) := by decide +kernel
theorem dX11_write_38 : decode cX11_write 38 = .ok (.getfield 16, 3) := by decide +kernel
theorem dX11_write_41 : decode cX11_write 41 = .ok (.aload_n 0, 1) := by decide +kernel
theorem dX11_write_42 : decode cX11_write 42 = .ok (.getfield 72, 3) := by decide +kernel
theorem dX11_write_45 : decode cX11_write 45 = .ok (.lload_n 2, 1) := by decide +kernel
theorem dX11_write_46 : decode cX11_write 46 = .ok (.bipush 8, 2) := by decide +kernel
theorem dX11_write_48 : decode cX11_write 48 = .ok (.iload 4, 2) := by decide +kernel
theorem dX11_write_50 : decode cX11_write 50 = .ok (.imul, 1) := by decide +kernel
theorem dX11_write_51 : decode cX11_write 51 = .ok (.lshr, 1) := by decide +kernel
theorem dX11_write_52 : decode cX11_write 52 = .ok (.ldc2_w 76, 3) := by decide +kernel
theorem dX11_write_55 : decode cX11_write 55 = .ok (.land, 1) := by decide +kernel
theorem dX11_write_56 : decode cX11_write 56 = .ok (.l2i, 1) := by decide +kernel
theorem dX11_write_57 : decode cX11_write 57 = .ok (.i2b, 1) := by decide +kernel
theorem dX11_write_58 : decode cX11_write 58 = .ok (.bastore, 1) := by decide +kernel
theorem dX11_write_59 : decode cX11_write 59 = .ok (.aload_n 0, 1) := by decide +kernel
theorem dX11_write_60 : decode cX11_write 60 = .ok (.dup, 1) := by decide +kernel
theorem dX11_write_61 : decode cX11_write 61 = .ok (.getfield 72, 3) := by decide +kernel
theorem dX11_write_64 : decode cX11_write 64 = .ok (.iconst 1, 1) := by decide +kernel
theorem dX11_write_65 : decode cX11_write 65 = .ok (.iadd, 1) := by decide +kernel
theorem dX11_write_66 : decode cX11_write 66 = .ok (.putfield 72, 3) := by decide +kernel
theorem dX11_write_69 : decode cX11_write 69 = .ok (.iinc 4 (-1), 3) := by decide +kernel
theorem dX11_write_72 : decode cX11_write 72 = .ok (.goto (-40), 3) := by decide +kernel
theorem dX11_write_75 : decode cX11_write 75 = .ok (.aload_n 0, 1) := by decide +kernel
theorem dX11_write_76 : decode cX11_write 76 = .ok (.getfield 72, 3) := by decide +kernel
theorem dX11_write_79 : decode cX11_write 79 = .ok (.ireturn, 1) := by decide +kernel
theorem dX11_wipe_0 : decode cX11_wipe 0 = .ok (.aload_n 0, 1) := by decide +kernel
theorem dX11_wipe_1 : decode cX11_wipe 1 = .ok (.getfield 72, 3) := by decide +kernel
theorem dX11_wipe_4 : decode cX11_wipe 4 = .ok (.istore_n 1, 1) := by decide +kernel
theorem dX11_wipe_5 : decode cX11_wipe 5 = .ok (.aload_n 0, 1) := by decide +kernel
theorem dX11_wipe_6 : decode cX11_wipe 6 = .ok (.iconst 0, 1) := by decide +kernel
theorem dX11_wipe_7 : decode cX11_wipe 7 = .ok (.putfield 72, 3) := by decide +kernel
theorem dX11_wipe_10 : decode cX11_wipe 10 = .ok (.iload_n 1, 1) := by decide +kernel
theorem dX11_wipe_11 : decode cX11_wipe 11 = .ok (.ireturn, 1) := by decide +kernel
theorem dX11_here_0 : decode cX11_here 0 = .ok (.aload_n 0, 1) := by decide +kernel
theorem dX11_here_1 : decode cX11_here 1 = .ok (.getfield 78, 3) := by decide +kernel
theorem dX11_here_4 : decode cX11_here 4 = .ok (.aload_n 0, 1) := by decide +kernel
theorem dX11_here_5 : decode cX11_here 5 = .ok (.getfield 72, 3) := by decide +kernel
theorem dX11_here_8 : decode cX11_here 8 = .ok (.if_icmp .ge 19, 3) := by decide +kernel
theorem dX11_here_11 : decode cX11_here 11 = .ok (.aload_n 0, 1) := by decide +kernel
theorem dX11_here_12 : decode cX11_here 12 = .ok (.getfield 16, 3) := by decide +kernel
theorem dX11_here_15 : decode cX11_here 15 = .ok (.aload_n 0, 1) := by decide +kernel
theorem dX11_here_16 : decode cX11_here 16 = .ok (.getfield 78, 3) := by decide +kernel
theorem dX11_here_19 : decode cX11_here 19 = .ok (.baload, 1) := by decide +kernel
theorem dX11_here_20 : decode cX11_here 20 = .ok (.sipush 255, 3) := by decide +kernel
theorem dX11_here_23 : decode cX11_here 23 = .ok (.iand, 1) := by decide +kernel
theorem dX11_here_24 : decode cX11_here 24 = .ok (.goto 4, 3) := by decide +kernel
theorem dX11_here_27 : decode cX11_here 27 = .ok (.iconst (-1), 1) := by decide +kernel
theorem dX11_here_28 : decode cX11_here 28 = .ok (.ireturn, 1) := by decide +kernel
theorem dX11_number_0 : decode cX11_number 0 = .ok (.iconst 0, 1) := by decide +kernel
theorem dX11_number_1 : decode cX11_number 1 = .ok (.istore_n 3, 1) := by decide +kernel
theorem dX11_number_2 : decode cX11_number 2 = .ok (.iconst 0, 1) := by decide +kernel
theorem dX11_number_3 : decode cX11_number 3 = .ok (.istore 4, 2) := by decide +kernel
theorem dX11_number_5 : decode cX11_number 5 = .ok (.iload 4, 2) := by decide +kernel
theorem dX11_number_7 : decode cX11_number 7 = .ok (.iconst 2, 1) := by decide +kernel
theorem dX11_number_8 : decode cX11_number 8 = .ok (.if_icmp .ge 46, 3) := by decide +kernel
theorem dX11_number_11 : decode cX11_number 11 = .ok (.aload_n 0, 1) := by decide +kernel
theorem dX11_number_12 : decode cX11_number 12 = .ok (.invokevirtual 81, 3) := by decide +kernel
theorem dX11_number_15 : decode cX11_number 15 = .ok (.bipush 48, 2) := by decide +kernel
theorem dX11_number_17 : decode cX11_number 17 = .ok (.bipush 57, 2) := by decide +kernel
theorem dX11_number_19 : decode cX11_number 19 = .ok (.invokestatic 68, 3) := by decide +kernel
theorem dX11_number_22 : decode cX11_number 22 = .ok (.ifCond .eq 32, 3) := by decide +kernel
theorem dX11_number_25 : decode cX11_number 25 = .ok (.bipush 10, 2) := by decide +kernel
theorem dX11_number_27 : decode cX11_number 27 = .ok (.iload_n 3, 1) := by decide +kernel
theorem dX11_number_28 : decode cX11_number 28 = .ok (.imul, 1) := by decide +kernel
theorem dX11_number_29 : decode cX11_number 29 = .ok (.aload_n 0, 1) := by decide +kernel
theorem dX11_number_30 : decode cX11_number 30 = .ok (.invokevirtual 81, 3) := by decide +kernel
theorem dX11_number_33 : decode cX11_number 33 = .ok (.iadd, 1) := by decide +kernel
theorem dX11_number_34 : decode cX11_number 34 = .ok (.bipush 48, 2) := by decide +kernel
theorem dX11_number_36 : decode cX11_number 36 = .ok (.isub, 1) := by decide +kernel
theorem dX11_number_37 : decode cX11_number 37 = .ok (.istore_n 3, 1) := by decide +kernel
theorem dX11_number_38 : decode cX11_number 38 = .ok (.aload_n 0, 1) := by decide +kernel
theorem dX11_number_39 : decode cX11_number 39 = .ok (.dup, 1) := by decide +kernel
theorem dX11_number_40 : decode cX11_number 40 = .ok (.getfield 78, 3) := by decide +kernel
theorem dX11_number_43 : decode cX11_number 43 = .ok (.iconst 1, 1) := by decide +kernel
theorem dX11_number_44 : decode cX11_number 44 = .ok (.iadd, 1) := by decide +kernel
theorem dX11_number_45 : decode cX11_number 45 = .ok (.putfield 78, 3) := by decide +kernel
theorem dX11_number_48 : decode cX11_number 48 = .ok (.iinc 4 1, 3) := by decide +kernel
theorem dX11_number_51 : decode cX11_number 51 = .ok (.goto (-46), 3) := by decide +kernel
theorem dX11_number_54 : decode cX11_number 54 = .ok (.aload_n 0, 1) := by decide +kernel
theorem dX11_number_55 : decode cX11_number 55 = .ok (.aload_n 0, 1) := by decide +kernel
theorem dX11_number_56 : decode cX11_number 56 = .ok (.getfield 85, 3) := by decide +kernel
theorem dX11_number_59 : decode cX11_number 59 = .ok (.ifCond .ne 17, 3) := by decide +kernel
theorem dX11_number_62 : decode cX11_number 62 = .ok (.iload 4, 2) := by decide +kernel
theorem dX11_number_64 : decode cX11_number 64 = .ok (.ifCond .eq 12, 3) := by decide +kernel
theorem dX11_number_67 : decode cX11_number 67 = .ok (.iload_n 3, 1) := by decide +kernel
theorem dX11_number_68 : decode cX11_number 68 = .ok (.iload_n 1, 1) := by decide +kernel
theorem dX11_number_69 : decode cX11_number 69 = .ok (.iload_n 2, 1) := by decide +kernel
theorem dX11_number_70 : decode cX11_number 70 = .ok (.invokestatic 68, 3) := by decide +kernel
theorem dX11_number_73 : decode cX11_number 73 = .ok (.ifCond .ne 7, 3) := by decide +kernel
theorem dX11_number_76 : decode cX11_number 76 = .ok (.iconst 1, 1) := by decide +kernel
theorem dX11_number_77 : decode cX11_number 77 = .ok (.goto 4, 3) := by decide +kernel
theorem dX11_number_80 : decode cX11_number 80 = .ok (.iconst 0, 1) := by decide +kernel
theorem dX11_number_81 : decode cX11_number 81 = .ok (.putfield 85, 3) := by decide +kernel
theorem dX11_number_84 : decode cX11_number 84 = .ok (.iload_n 3, 1) := by decide +kernel
theorem dX11_number_85 : decode cX11_number 85 = .ok (.ireturn, 1) := by decide +kernel
theorem dX11_due_0 : decode cX11_due 0 = .ok (.aload_n 0, 1) := by decide +kernel
theorem dX11_due_1 : decode cX11_due 1 = .ok (.aload_n 0, 1) := by decide +kernel
theorem dX11_due_2 : decode cX11_due 2 = .ok (.getfield 85, 3) := by decide +kernel
theorem dX11_due_5 : decode cX11_due 5 = .ok (.ifCond .ne 11, 3) := by decide +kernel
theorem dX11_due_8 : decode cX11_due 8 = .ok (.aload_n 0, 1) := by decide +kernel
theorem dX11_due_9 : decode cX11_due 9 = .ok (.invokevirtual 81, 3) := by decide +kernel
theorem dX11_due_12 : decode cX11_due 12 = .ok (.iload_n 1, 1) := by decide +kernel
theorem dX11_due_13 : decode cX11_due 13 = .ok (.if_icmp .eq 7, 3) := by decide +kernel
theorem dX11_due_16 : decode cX11_due 16 = .ok (.iconst 1, 1) := by decide +kernel
theorem dX11_due_17 : decode cX11_due 17 = .ok (.goto 4, 3) := by decide +kernel
theorem dX11_due_20 : decode cX11_due 20 = .ok (.iconst 0, 1) := by decide +kernel
theorem dX11_due_21 : decode cX11_due 21 = .ok (.putfield 85, 3) := by decide +kernel
theorem dX11_due_24 : decode cX11_due 24 = .ok (.aload_n 0, 1) := by decide +kernel
theorem dX11_due_25 : decode cX11_due 25 = .ok (.dup, 1) := by decide +kernel
theorem dX11_due_26 : decode cX11_due 26 = .ok (.getfield 78, 3) := by decide +kernel
theorem dX11_due_29 : decode cX11_due 29 = .ok (.iconst 1, 1) := by decide +kernel
theorem dX11_due_30 : decode cX11_due 30 = .ok (.iadd, 1) := by decide +kernel
theorem dX11_due_31 : decode cX11_due 31 = .ok (.putfield 78, 3) := by decide +kernel
theorem dX11_due_34 : decode cX11_due 34 = .ok (.return_, 1) := by decide +kernel
theorem dX11_readWay_0 : decode cX11_readWay 0 = .ok (.aload_n 0, 1) := by decide +kernel
theorem dX11_readWay_1 : decode cX11_readWay 1 = .ok (.getfield 7, 3) := by decide +kernel
theorem dX11_readWay_4 : decode cX11_readWay 4 = .ok (.bipush 83, 2) := by decide +kernel
theorem dX11_readWay_6 : decode cX11_readWay 6 = .ok (.iaload, 1) := by decide +kernel
theorem dX11_readWay_7 : decode cX11_readWay 7 = .ok (.iconst 1, 1) := by decide +kernel
theorem dX11_readWay_8 : decode cX11_readWay 8 = .ok (.isub, 1) := by decide +kernel
theorem dX11_readWay_9 : decode cX11_readWay 9 = .ok (.istore_n 1, 1) := by decide +kernel
theorem dX11_readWay_10 : decode cX11_readWay 10 = .ok (.iconst 0, 1) := by decide +kernel
theorem dX11_readWay_11 : decode cX11_readWay 11 = .ok (.istore_n 2, 1) := by decide +kernel
theorem dX11_readWay_12 : decode cX11_readWay 12 = .ok (.iload_n 2, 1) := by decide +kernel
theorem dX11_readWay_13 : decode cX11_readWay 13 = .ok (.bipush 12, 2) := by decide +kernel
theorem dX11_readWay_15 : decode cX11_readWay 15 = .ok (.if_icmp .ge 58, 3) := by decide +kernel
theorem dX11_readWay_18 : decode cX11_readWay 18 = .ok (.aload_n 0, 1) := by decide +kernel
theorem dX11_readWay_19 : decode cX11_readWay 19 = .ok (.invokevirtual 81, 3) := by decide +kernel
theorem dX11_readWay_22 : decode cX11_readWay 22 = .ok (.bipush 48, 2) := by decide +kernel
theorem dX11_readWay_24 : decode cX11_readWay 24 = .ok (.bipush 55, 2) := by decide +kernel
theorem dX11_readWay_26 : decode cX11_readWay 26 = .ok (.invokestatic 68, 3) := by decide +kernel
theorem dX11_readWay_29 : decode cX11_readWay 29 = .ok (.ifCond .eq 44, 3) := by decide +kernel
theorem dX11_readWay_32 : decode cX11_readWay 32 = .ok (.iload_n 1, 1) := by decide +kernel
theorem dX11_readWay_33 : decode cX11_readWay 33 = .ok (.ifCond .lt 24, 3) := by decide +kernel
theorem dX11_readWay_36 : decode cX11_readWay 36 = .ok (.aload_n 0, 1) := by decide +kernel
theorem dX11_readWay_37 : decode cX11_readWay 37 = .ok (.getfield 7, 3) := by decide +kernel
theorem dX11_readWay_40 : decode cX11_readWay 40 = .ok (.bipush 104, 2) := by decide +kernel
theorem dX11_readWay_42 : decode cX11_readWay 42 = .ok (.bipush 12, 2) := by decide +kernel
theorem dX11_readWay_44 : decode cX11_readWay 44 = .ok (.iload_n 1, 1) := by decide +kernel
theorem dX11_readWay_45 : decode cX11_readWay 45 = .ok (.imul, 1) := by decide +kernel
theorem dX11_readWay_46 : decode cX11_readWay 46 = .ok (.iadd, 1) := by decide +kernel
theorem dX11_readWay_47 : decode cX11_readWay 47 = .ok (.iload_n 2, 1) := by decide +kernel
theorem dX11_readWay_48 : decode cX11_readWay 48 = .ok (.iadd, 1) := by decide +kernel
theorem dX11_readWay_49 : decode cX11_readWay 49 = .ok (.aload_n 0, 1) := by decide +kernel
theorem dX11_readWay_50 : decode cX11_readWay 50 = .ok (.invokevirtual 81, 3) := by decide +kernel
theorem dX11_readWay_53 : decode cX11_readWay 53 = .ok (.bipush 48, 2) := by decide +kernel
theorem dX11_readWay_55 : decode cX11_readWay 55 = .ok (.isub, 1) := by decide +kernel
theorem dX11_readWay_56 : decode cX11_readWay 56 = .ok (.iastore, 1) := by decide +kernel
theorem dX11_readWay_57 : decode cX11_readWay 57 = .ok (.iinc 2 1, 3) := by decide +kernel
theorem dX11_readWay_60 : decode cX11_readWay 60 = .ok (.aload_n 0, 1) := by decide +kernel
theorem dX11_readWay_61 : decode cX11_readWay 61 = .ok (.dup, 1) := by decide +kernel
theorem dX11_readWay_62 : decode cX11_readWay 62 = .ok (.getfield 78, 3) := by decide +kernel
theorem dX11_readWay_65 : decode cX11_readWay 65 = .ok (.iconst 1, 1) := by decide +kernel
theorem dX11_readWay_66 : decode cX11_readWay 66 = .ok (.iadd, 1) := by decide +kernel
theorem dX11_readWay_67 : decode cX11_readWay 67 = .ok (.putfield 78, 3) := by decide +kernel
theorem dX11_readWay_70 : decode cX11_readWay 70 = .ok (.goto (-58), 3) := by decide +kernel
theorem dX11_readWay_73 : decode cX11_readWay 73 = .ok (.aload_n 0, 1) := by decide +kernel
theorem dX11_readWay_74 : decode cX11_readWay 74 = .ok (.aload_n 0, 1) := by decide +kernel
theorem dX11_readWay_75 : decode cX11_readWay 75 = .ok (.getfield 85, 3) := by decide +kernel
theorem dX11_readWay_78 : decode cX11_readWay 78 = .ok (.ifCond .ne 11, 3) := by decide +kernel
theorem dX11_readWay_81 : decode cX11_readWay 81 = .ok (.iload_n 2, 1) := by decide +kernel
theorem dX11_readWay_82 : decode cX11_readWay 82 = .ok (.ifCond .eq 7, 3) := by decide +kernel
theorem dX11_readWay_85 : decode cX11_readWay 85 = .ok (.iload_n 1, 1) := by decide +kernel
theorem dX11_readWay_86 : decode cX11_readWay 86 = .ok (.ifCond .ge 7, 3) := by decide +kernel
theorem dX11_readWay_89 : decode cX11_readWay 89 = .ok (.iconst 1, 1) := by decide +kernel
theorem dX11_readWay_90 : decode cX11_readWay 90 = .ok (.goto 4, 3) := by decide +kernel
theorem dX11_readWay_93 : decode cX11_readWay 93 = .ok (.iconst 0, 1) := by decide +kernel
theorem dX11_readWay_94 : decode cX11_readWay 94 = .ok (.putfield 85, 3) := by decide +kernel
theorem dX11_readWay_97 : decode cX11_readWay 97 = .ok (.iload_n 1, 1) := by decide +kernel
theorem dX11_readWay_98 : decode cX11_readWay 98 = .ok (.ifCond .lt 13, 3) := by decide +kernel
theorem dX11_readWay_101 : decode cX11_readWay 101 = .ok (.aload_n 0, 1) := by decide +kernel
theorem dX11_readWay_102 : decode cX11_readWay 102 = .ok (.getfield 7, 3) := by decide +kernel
theorem dX11_readWay_105 : decode cX11_readWay 105 = .ok (.bipush 99, 2) := by decide +kernel
theorem dX11_readWay_107 : decode cX11_readWay 107 = .ok (.iload_n 1, 1) := by decide +kernel
theorem dX11_readWay_108 : decode cX11_readWay 108 = .ok (.iadd, 1) := by decide +kernel
theorem dX11_readWay_109 : decode cX11_readWay 109 = .ok (.iload_n 2, 1) := by decide +kernel
theorem dX11_readWay_110 : decode cX11_readWay 110 = .ok (.iastore, 1) := by decide +kernel
theorem dX11_readWay_111 : decode cX11_readWay 111 = .ok (.return_, 1) := by decide +kernel
theorem dX11_readItem_0 : decode cX11_readItem 0 = .ok (.aload_n 0, 1) := by decide +kernel
theorem dX11_readItem_1 : decode cX11_readItem 1 = .ok (.invokevirtual 81, 3) := by decide +kernel
theorem dX11_readItem_4 : decode cX11_readItem 4 = .ok (.istore_n 1, 1) := by decide +kernel
theorem dX11_readItem_5 : decode cX11_readItem 5 = .ok (.aload_n 0, 1) := by decide +kernel
theorem dX11_readItem_6 : decode cX11_readItem 6 = .ok (.dup, 1) := by decide +kernel
theorem dX11_readItem_7 : decode cX11_readItem 7 = .ok (.getfield 78, 3) := by decide +kernel
theorem dX11_readItem_10 : decode cX11_readItem 10 = .ok (.iconst 1, 1) := by decide +kernel
theorem dX11_readItem_11 : decode cX11_readItem 11 = .ok (.iadd, 1) := by decide +kernel
theorem dX11_readItem_12 : decode cX11_readItem 12 = .ok (.putfield 78, 3) := by decide +kernel
theorem dX11_readItem_15 : decode cX11_readItem 15 = .ok (.iload_n 1, 1) := by decide +kernel
theorem dX11_readItem_16 : decode cX11_readItem 16 = .ok (.lookupswitch 329 #[(99, 312), (102, 295), (108, 102), (112, 185), (119, 288), (121, 60)], 60) := by decide +kernel
theorem dX11_readItem_76 : decode cX11_readItem 76 = .ok (.aload_n 0, 1) := by decide +kernel
theorem dX11_readItem_77 : decode cX11_readItem 77 = .ok (.iconst 2, 1) := by decide +kernel
theorem dX11_readItem_78 : decode cX11_readItem 78 = .ok (.bipush 8, 2) := by decide +kernel
theorem dX11_readItem_80 : decode cX11_readItem 80 = .ok (.invokevirtual 89, 3) := by decide +kernel
theorem dX11_readItem_83 : decode cX11_readItem 83 = .ok (.istore_n 2, 1) := by decide +kernel
theorem dX11_readItem_84 : decode cX11_readItem 84 = .ok (.aload_n 0, 1) := by decide +kernel
theorem dX11_readItem_85 : decode cX11_readItem 85 = .ok (.aload_n 0, 1) := by decide +kernel
theorem dX11_readItem_86 : decode cX11_readItem 86 = .ok (.getfield 85, 3) := by decide +kernel
theorem dX11_readItem_89 : decode cX11_readItem 89 = .ok (.ifCond .ne 10, 3) := by decide +kernel
theorem dX11_readItem_92 : decode cX11_readItem 92 = .ok (.aload_n 0, 1) := by decide +kernel
theorem dX11_readItem_93 : decode cX11_readItem 93 = .ok (.getfield 93, 3) := by decide +kernel
theorem dX11_readItem_96 : decode cX11_readItem 96 = .ok (.ifCond .eq 7, 3) := by decide +kernel
theorem dX11_readItem_99 : decode cX11_readItem 99 = .ok (.iconst 1, 1) := by decide +kernel
theorem dX11_readItem_100 : decode cX11_readItem 100 = .ok (.goto 4, 3) := by decide +kernel
theorem dX11_readItem_103 : decode cX11_readItem 103 = .ok (.iconst 0, 1) := by decide +kernel
theorem dX11_readItem_104 : decode cX11_readItem 104 = .ok (.putfield 85, 3) := by decide +kernel
theorem dX11_readItem_107 : decode cX11_readItem 107 = .ok (.aload_n 0, 1) := by decide +kernel
theorem dX11_readItem_108 : decode cX11_readItem 108 = .ok (.getfield 7, 3) := by decide +kernel
theorem dX11_readItem_111 : decode cX11_readItem 111 = .ok (.bipush 82, 2) := by decide +kernel
theorem dX11_readItem_113 : decode cX11_readItem 113 = .ok (.iload_n 2, 1) := by decide +kernel
theorem dX11_readItem_114 : decode cX11_readItem 114 = .ok (.iastore, 1) := by decide +kernel
theorem dX11_readItem_115 : decode cX11_readItem 115 = .ok (.goto 235, 3) := by decide +kernel
theorem dX11_readItem_118 : decode cX11_readItem 118 = .ok (.aload_n 0, 1) := by decide +kernel
theorem dX11_readItem_119 : decode cX11_readItem 119 = .ok (.iconst 0, 1) := by decide +kernel
theorem dX11_readItem_120 : decode cX11_readItem 120 = .ok (.aload_n 0, 1) := by decide +kernel
theorem dX11_readItem_121 : decode cX11_readItem 121 = .ok (.getfield 7, 3) := by decide +kernel
theorem dX11_readItem_124 : decode cX11_readItem 124 = .ok (.bipush 82, 2) := by decide +kernel
theorem dX11_readItem_126 : decode cX11_readItem 126 = .ok (.iaload, 1) := by decide +kernel
theorem dX11_readItem_127 : decode cX11_readItem 127 = .ok (.iconst 1, 1) := by decide +kernel
theorem dX11_readItem_128 : decode cX11_readItem 128 = .ok (.isub, 1) := by decide +kernel
theorem dX11_readItem_129 : decode cX11_readItem 129 = .ok (.invokevirtual 89, 3) := by decide +kernel
theorem dX11_readItem_132 : decode cX11_readItem 132 = .ok (.istore_n 3, 1) := by decide +kernel
theorem dX11_readItem_133 : decode cX11_readItem 133 = .ok (.aload_n 0, 1) := by decide +kernel
theorem dX11_readItem_134 : decode cX11_readItem 134 = .ok (.bipush 44, 2) := by decide +kernel
theorem dX11_readItem_136 : decode cX11_readItem 136 = .ok (.invokevirtual 96, 3) := by decide +kernel
theorem dX11_readItem_139 : decode cX11_readItem 139 = .ok (.aload_n 0, 1) := by decide +kernel
theorem dX11_readItem_140 : decode cX11_readItem 140 = .ok (.iconst 0, 1) := by decide +kernel
theorem dX11_readItem_141 : decode cX11_readItem 141 = .ok (.aload_n 0, 1) := by decide +kernel
theorem dX11_readItem_142 : decode cX11_readItem 142 = .ok (.getfield 7, 3) := by decide +kernel
theorem dX11_readItem_145 : decode cX11_readItem 145 = .ok (.bipush 82, 2) := by decide +kernel
theorem dX11_readItem_147 : decode cX11_readItem 147 = .ok (.iaload, 1) := by decide +kernel
theorem dX11_readItem_148 : decode cX11_readItem 148 = .ok (.iconst 1, 1) := by decide +kernel
theorem dX11_readItem_149 : decode cX11_readItem 149 = .ok (.isub, 1) := by decide +kernel
theorem dX11_readItem_150 : decode cX11_readItem 150 = .ok (.invokevirtual 89, 3) := by decide +kernel
theorem dX11_readItem_153 : decode cX11_readItem 153 = .ok (.istore 4, 2) := by decide +kernel
theorem dX11_readItem_155 : decode cX11_readItem 155 = .ok (.aload_n 0, 1) := by decide +kernel
theorem dX11_readItem_156 : decode cX11_readItem 156 = .ok (.aload_n 0, 1) := by decide +kernel
theorem dX11_readItem_157 : decode cX11_readItem 157 = .ok (.getfield 85, 3) := by decide +kernel
theorem dX11_readItem_160 : decode cX11_readItem 160 = .ok (.ifCond .ne 9, 3) := by decide +kernel
theorem dX11_readItem_163 : decode cX11_readItem 163 = .ok (.iload_n 3, 1) := by decide +kernel
theorem dX11_readItem_164 : decode cX11_readItem 164 = .ok (.iload 4, 2) := by decide +kernel
theorem dX11_readItem_166 : decode cX11_readItem 166 = .ok (.if_icmp .ne 7, 3) := by decide +kernel
theorem dX11_readItem_169 : decode cX11_readItem 169 = .ok (.iconst 1, 1) := by decide +kernel
theorem dX11_readItem_170 : decode cX11_readItem 170 = .ok (.goto 4, 3) := by decide +kernel
theorem dX11_readItem_173 : decode cX11_readItem 173 = .ok (.iconst 0, 1) := by decide +kernel
theorem dX11_readItem_174 : decode cX11_readItem 174 = .ok (.putfield 85, 3) := by decide +kernel
theorem dX11_readItem_177 : decode cX11_readItem 177 = .ok (.aload_n 0, 1) := by decide +kernel
theorem dX11_readItem_178 : decode cX11_readItem 178 = .ok (.iconst 1, 1) := by decide +kernel
theorem dX11_readItem_179 : decode cX11_readItem 179 = .ok (.putfield 93, 3) := by decide +kernel
theorem dX11_readItem_182 : decode cX11_readItem 182 = .ok (.aload_n 0, 1) := by decide +kernel
theorem dX11_readItem_183 : decode cX11_readItem 183 = .ok (.getfield 85, 3) := by decide +kernel
theorem dX11_readItem_186 : decode cX11_readItem 186 = .ok (.ifCond .ne 164, 3) := by decide +kernel
theorem dX11_readItem_189 : decode cX11_readItem 189 = .ok (.aload_n 0, 1) := by decide +kernel
theorem dX11_readItem_190 : decode cX11_readItem 190 = .ok (.bipush 82, 2) := by decide +kernel
theorem dX11_readItem_192 : decode cX11_readItem 192 = .ok (.iload_n 3, 1) := by decide +kernel
theorem dX11_readItem_193 : decode cX11_readItem 193 = .ok (.iload 4, 2) := by decide +kernel
theorem dX11_readItem_195 : decode cX11_readItem 195 = .ok (.invokevirtual 61, 3) := by decide +kernel
theorem dX11_readItem_198 : decode cX11_readItem 198 = .ok (.goto 152, 3) := by decide +kernel
theorem dX11_readItem_201 : decode cX11_readItem 201 = .ok (.aload_n 0, 1) := by decide +kernel
theorem dX11_readItem_202 : decode cX11_readItem 202 = .ok (.iconst 0, 1) := by decide +kernel
theorem dX11_readItem_203 : decode cX11_readItem 203 = .ok (.bipush 99, 2) := by decide +kernel
theorem dX11_readItem_205 : decode cX11_readItem 205 = .ok (.invokevirtual 89, 3) := by decide +kernel
theorem dX11_readItem_208 : decode cX11_readItem 208 = .ok (.istore 5, 2) := by decide +kernel
theorem dX11_readItem_210 : decode cX11_readItem 210 = .ok (.aload_n 0, 1) := by decide +kernel
theorem dX11_readItem_211 : decode cX11_readItem 211 = .ok (.aload_n 0, 1) := by decide +kernel
theorem dX11_readItem_212 : decode cX11_readItem 212 = .ok (.getfield 85, 3) := by decide +kernel
theorem dX11_readItem_215 : decode cX11_readItem 215 = .ok (.ifCond .ne 14, 3) := by decide +kernel
theorem dX11_readItem_218 : decode cX11_readItem 218 = .ok (.aload_n 0, 1) := by decide +kernel
theorem dX11_readItem_219 : decode cX11_readItem 219 = .ok (.getfield 7, 3) := by decide +kernel
theorem dX11_readItem_222 : decode cX11_readItem 222 = .ok (.bipush 83, 2) := by decide +kernel
theorem dX11_readItem_224 : decode cX11_readItem 224 = .ok (.iaload, 1) := by decide +kernel
theorem dX11_readItem_225 : decode cX11_readItem 225 = .ok (.iconst 5, 1) := by decide +kernel
theorem dX11_readItem_226 : decode cX11_readItem 226 = .ok (.if_icmp .ne 7, 3) := by decide +kernel
theorem dX11_readItem_229 : decode cX11_readItem 229 = .ok (.iconst 1, 1) := by decide +kernel
theorem dX11_readItem_230 : decode cX11_readItem 230 = .ok (.goto 4, 3) := by decide +kernel
theorem dX11_readItem_233 : decode cX11_readItem 233 = .ok (.iconst 0, 1) := by decide +kernel
theorem dX11_readItem_234 : decode cX11_readItem 234 = .ok (.putfield 85, 3) := by decide +kernel
theorem dX11_readItem_237 : decode cX11_readItem 237 = .ok (.aload_n 0, 1) := by decide +kernel
theorem dX11_readItem_238 : decode cX11_readItem 238 = .ok (.getfield 85, 3) := by decide +kernel
theorem dX11_readItem_241 : decode cX11_readItem 241 = .ok (.ifCond .ne 109, 3) := by decide +kernel
theorem dX11_readItem_244 : decode cX11_readItem 244 = .ok (.aload_n 0, 1) := by decide +kernel
theorem dX11_readItem_245 : decode cX11_readItem 245 = .ok (.getfield 7, 3) := by decide +kernel
theorem dX11_readItem_248 : decode cX11_readItem 248 = .ok (.bipush 83, 2) := by decide +kernel
theorem dX11_readItem_250 : decode cX11_readItem 250 = .ok (.iaload, 1) := by decide +kernel
theorem dX11_readItem_251 : decode cX11_readItem 251 = .ok (.istore 6, 2) := by decide +kernel
theorem dX11_readItem_253 : decode cX11_readItem 253 = .ok (.aload_n 0, 1) := by decide +kernel
theorem dX11_readItem_254 : decode cX11_readItem 254 = .ok (.getfield 7, 3) := by decide +kernel
theorem dX11_readItem_257 : decode cX11_readItem 257 = .ok (.bipush 94, 2) := by decide +kernel
theorem dX11_readItem_259 : decode cX11_readItem 259 = .ok (.iload 6, 2) := by decide +kernel
theorem dX11_readItem_261 : decode cX11_readItem 261 = .ok (.iadd, 1) := by decide +kernel
theorem dX11_readItem_262 : decode cX11_readItem 262 = .ok (.iload 5, 2) := by decide +kernel
theorem dX11_readItem_264 : decode cX11_readItem 264 = .ok (.iastore, 1) := by decide +kernel
theorem dX11_readItem_265 : decode cX11_readItem 265 = .ok (.aload_n 0, 1) := by decide +kernel
theorem dX11_readItem_266 : decode cX11_readItem 266 = .ok (.getfield 7, 3) := by decide +kernel
theorem dX11_readItem_269 : decode cX11_readItem 269 = .ok (.bipush 99, 2) := by decide +kernel
theorem dX11_readItem_271 : decode cX11_readItem 271 = .ok (.iload 6, 2) := by decide +kernel
theorem dX11_readItem_273 : decode cX11_readItem 273 = .ok (.iadd, 1) := by decide +kernel
theorem dX11_readItem_274 : decode cX11_readItem 274 = .ok (.iconst 1, 1) := by decide +kernel
theorem dX11_readItem_275 : decode cX11_readItem 275 = .ok (.iastore, 1) := by decide +kernel
theorem dX11_readItem_276 : decode cX11_readItem 276 = .ok (.aload_n 0, 1) := by decide +kernel
theorem dX11_readItem_277 : decode cX11_readItem 277 = .ok (.getfield 7, 3) := by decide +kernel
theorem dX11_readItem_280 : decode cX11_readItem 280 = .ok (.bipush 104, 2) := by decide +kernel
theorem dX11_readItem_282 : decode cX11_readItem 282 = .ok (.bipush 12, 2) := by decide +kernel
theorem dX11_readItem_284 : decode cX11_readItem 284 = .ok (.iload 6, 2) := by decide +kernel
theorem dX11_readItem_286 : decode cX11_readItem 286 = .ok (.imul, 1) := by decide +kernel
theorem dX11_readItem_287 : decode cX11_readItem 287 = .ok (.iadd, 1) := by decide +kernel
theorem dX11_readItem_288 : decode cX11_readItem 288 = .ok (.iconst 0, 1) := by decide +kernel
theorem dX11_readItem_289 : decode cX11_readItem 289 = .ok (.iastore, 1) := by decide +kernel
theorem dX11_readItem_290 : decode cX11_readItem 290 = .ok (.aload_n 0, 1) := by decide +kernel
theorem dX11_readItem_291 : decode cX11_readItem 291 = .ok (.getfield 7, 3) := by decide +kernel
theorem dX11_readItem_294 : decode cX11_readItem 294 = .ok (.bipush 83, 2) := by decide +kernel
theorem dX11_readItem_296 : decode cX11_readItem 296 = .ok (.dup2, 1) := by decide +kernel
theorem dX11_readItem_297 : decode cX11_readItem 297 = .ok (.iaload, 1) := by decide +kernel
theorem dX11_readItem_298 : decode cX11_readItem 298 = .ok (.iconst 1, 1) := by decide +kernel
theorem dX11_readItem_299 : decode cX11_readItem 299 = .ok (.iadd, 1) := by decide +kernel
theorem dX11_readItem_300 : decode cX11_readItem 300 = .ok (.iastore, 1) := by decide +kernel
theorem dX11_readItem_301 : decode cX11_readItem 301 = .ok (.goto 49, 3) := by decide +kernel
theorem dX11_readItem_304 : decode cX11_readItem 304 = .ok (.aload_n 0, 1) := by decide +kernel
theorem dX11_readItem_305 : decode cX11_readItem 305 = .ok (.invokevirtual 100, 3) := by decide +kernel
theorem dX11_readItem_308 : decode cX11_readItem 308 = .ok (.goto 42, 3) := by decide +kernel
theorem dX11_readItem_311 : decode cX11_readItem 311 = .ok (.aload_n 0, 1) := by decide +kernel
theorem dX11_readItem_312 : decode cX11_readItem 312 = .ok (.getfield 7, 3) := by decide +kernel
theorem dX11_readItem_315 : decode cX11_readItem 315 = .ok (.bipush 84, 2) := by decide +kernel
theorem dX11_readItem_317 : decode cX11_readItem 317 = .ok (.aload_n 0, 1) := by decide +kernel
theorem dX11_readItem_318 : decode cX11_readItem 318 = .ok (.iconst 0, 1) := by decide +kernel
theorem dX11_readItem_319 : decode cX11_readItem 319 = .ok (.bipush 20, 2) := by decide +kernel
theorem dX11_readItem_321 : decode cX11_readItem 321 = .ok (.invokevirtual 89, 3) := by decide +kernel
theorem dX11_readItem_324 : decode cX11_readItem 324 = .ok (.iastore, 1) := by decide +kernel
theorem dX11_readItem_325 : decode cX11_readItem 325 = .ok (.goto 25, 3) := by decide +kernel
theorem dX11_readItem_328 : decode cX11_readItem 328 = .ok (.aload_n 0, 1) := by decide +kernel
theorem dX11_readItem_329 : decode cX11_readItem 329 = .ok (.getfield 7, 3) := by decide +kernel
theorem dX11_readItem_332 : decode cX11_readItem 332 = .ok (.bipush 85, 2) := by decide +kernel
theorem dX11_readItem_334 : decode cX11_readItem 334 = .ok (.aload_n 0, 1) := by decide +kernel
theorem dX11_readItem_335 : decode cX11_readItem 335 = .ok (.iconst 0, 1) := by decide +kernel
theorem dX11_readItem_336 : decode cX11_readItem 336 = .ok (.bipush 7, 2) := by decide +kernel
theorem dX11_readItem_338 : decode cX11_readItem 338 = .ok (.invokevirtual 89, 3) := by decide +kernel
theorem dX11_readItem_341 : decode cX11_readItem 341 = .ok (.iastore, 1) := by decide +kernel
theorem dX11_readItem_342 : decode cX11_readItem 342 = .ok (.goto 8, 3) := by decide +kernel
theorem dX11_readItem_345 : decode cX11_readItem 345 = .ok (.aload_n 0, 1) := by decide +kernel
theorem dX11_readItem_346 : decode cX11_readItem 346 = .ok (.iconst 1, 1) := by decide +kernel
theorem dX11_readItem_347 : decode cX11_readItem 347 = .ok (.putfield 85, 3) := by decide +kernel
theorem dX11_readItem_350 : decode cX11_readItem 350 = .ok (.aload_n 0, 1) := by decide +kernel
theorem dX11_readItem_351 : decode cX11_readItem 351 = .ok (.bipush 59, 2) := by decide +kernel
theorem dX11_readItem_353 : decode cX11_readItem 353 = .ok (.invokevirtual 96, 3) := by decide +kernel
theorem dX11_readItem_356 : decode cX11_readItem 356 = .ok (.return_, 1) := by decide +kernel
theorem dX11_findFault_0 : decode cX11_findFault 0 = .ok (.aload_n 0, 1) := by decide +kernel
theorem dX11_findFault_1 : decode cX11_findFault 1 = .ok (.iconst 0, 1) := by decide +kernel
theorem dX11_findFault_2 : decode cX11_findFault 2 = .ok (.putfield 78, 3) := by decide +kernel
theorem dX11_findFault_5 : decode cX11_findFault 5 = .ok (.aload_n 0, 1) := by decide +kernel
theorem dX11_findFault_6 : decode cX11_findFault 6 = .ok (.iconst 0, 1) := by decide +kernel
theorem dX11_findFault_7 : decode cX11_findFault 7 = .ok (.putfield 85, 3) := by decide +kernel
theorem dX11_findFault_10 : decode cX11_findFault 10 = .ok (.aload_n 0, 1) := by decide +kernel
theorem dX11_findFault_11 : decode cX11_findFault 11 = .ok (.iconst 0, 1) := by decide +kernel
theorem dX11_findFault_12 : decode cX11_findFault 12 = .ok (.putfield 93, 3) := by decide +kernel
theorem dX11_findFault_15 : decode cX11_findFault 15 = .ok (.iconst 0, 1) := by decide +kernel
theorem dX11_findFault_16 : decode cX11_findFault 16 = .ok (.istore_n 1, 1) := by decide +kernel
theorem dX11_findFault_17 : decode cX11_findFault 17 = .ok (.iload_n 1, 1) := by decide +kernel
theorem dX11_findFault_18 : decode cX11_findFault 18 = .ok (.bipush 82, 2) := by decide +kernel
theorem dX11_findFault_20 : decode cX11_findFault 20 = .ok (.if_icmp .ge 19, 3) := by decide +kernel
theorem dX11_findFault_23 : decode cX11_findFault 23 = .ok (.aload_n 0, 1) := by decide +kernel
theorem dX11_findFault_24 : decode cX11_findFault 24 = .ok (.getfield 7, 3) := by decide +kernel
theorem dX11_findFault_27 : decode cX11_findFault 27 = .ok (.bipush 82, 2) := by decide +kernel
theorem dX11_findFault_29 : decode cX11_findFault 29 = .ok (.iload_n 1, 1) := by decide +kernel
theorem dX11_findFault_30 : decode cX11_findFault 30 = .ok (.iadd, 1) := by decide +kernel
theorem dX11_findFault_31 : decode cX11_findFault 31 = .ok (.iconst 0, 1) := by decide +kernel
theorem dX11_findFault_32 : decode cX11_findFault 32 = .ok (.iastore, 1) := by decide +kernel
theorem dX11_findFault_33 : decode cX11_findFault 33 = .ok (.iinc 1 1, 3) := by decide +kernel
theorem dX11_findFault_36 : decode cX11_findFault 36 = .ok (.goto (-19), 3) := by decide +kernel
theorem dX11_findFault_39 : decode cX11_findFault 39 = .ok (.aload_n 0, 1) := by decide +kernel
theorem dX11_findFault_40 : decode cX11_findFault 40 = .ok (.getfield 7, 3) := by decide +kernel
theorem dX11_findFault_43 : decode cX11_findFault 43 = .ok (.bipush 82, 2) := by decide +kernel
theorem dX11_findFault_45 : decode cX11_findFault 45 = .ok (.iconst 4, 1) := by decide +kernel
theorem dX11_findFault_46 : decode cX11_findFault 46 = .ok (.iastore, 1) := by decide +kernel
theorem dX11_findFault_47 : decode cX11_findFault 47 = .ok (.aload_n 0, 1) := by decide +kernel
theorem dX11_findFault_48 : decode cX11_findFault 48 = .ok (.getfield 78, 3) := by decide +kernel
theorem dX11_findFault_51 : decode cX11_findFault 51 = .ok (.aload_n 0, 1) := by decide +kernel
theorem dX11_findFault_52 : decode cX11_findFault 52 = .ok (.getfield 72, 3) := by decide +kernel
theorem dX11_findFault_55 : decode cX11_findFault 55 = .ok (.if_icmp .ge 24, 3) := by decide +kernel
theorem dX11_findFault_58 : decode cX11_findFault 58 = .ok (.aload_n 0, 1) := by decide +kernel
theorem dX11_findFault_59 : decode cX11_findFault 59 = .ok (.getfield 78, 3) := by decide +kernel
theorem dX11_findFault_62 : decode cX11_findFault 62 = .ok (.istore_n 1, 1) := by decide +kernel
theorem dX11_findFault_63 : decode cX11_findFault 63 = .ok (.aload_n 0, 1) := by decide +kernel
theorem dX11_findFault_64 : decode cX11_findFault 64 = .ok (.invokevirtual 103, 3) := by decide +kernel
theorem dX11_findFault_67 : decode cX11_findFault 67 = .ok (.aload_n 0, 1) := by decide +kernel
theorem dX11_findFault_68 : decode cX11_findFault 68 = .ok (.getfield 85, 3) := by decide +kernel
theorem dX11_findFault_71 : decode cX11_findFault 71 = .ok (.ifCond .eq 5, 3) := by decide +kernel
theorem dX11_findFault_74 : decode cX11_findFault 74 = .ok (.iload_n 1, 1) := by decide +kernel
theorem dX11_findFault_75 : decode cX11_findFault 75 = .ok (.ireturn, 1) := by decide +kernel
theorem dX11_findFault_76 : decode cX11_findFault 76 = .ok (.goto (-29), 3) := by decide +kernel
theorem dX11_findFault_79 : decode cX11_findFault 79 = .ok (.bipush (-4), 2) := by decide +kernel
theorem dX11_findFault_81 : decode cX11_findFault 81 = .ok (.ireturn, 1) := by decide +kernel
theorem dX11_fault_0 : decode cX11_fault 0 = .ok (.aload_n 0, 1) := by decide +kernel
theorem dX11_fault_1 : decode cX11_fault 1 = .ok (.invokevirtual 106, 3) := by decide +kernel
theorem dX11_fault_4 : decode cX11_fault 4 = .ok (.ireturn, 1) := by decide +kernel
theorem dX11_lay_0 : decode cX11_lay 0 = .ok (.aload_n 0, 1) := by decide +kernel
theorem dX11_lay_1 : decode cX11_lay 1 = .ok (.invokevirtual 106, 3) := by decide +kernel
theorem dX11_lay_4 : decode cX11_lay 4 = .ok (.bipush (-4), 2) := by decide +kernel
theorem dX11_lay_6 : decode cX11_lay 6 = .ok (.if_icmp .ne 34, 3) := by decide +kernel
theorem dX11_lay_9 : decode cX11_lay 9 = .ok (.aload_n 0, 1) := by decide +kernel
theorem dX11_lay_10 : decode cX11_lay 10 = .ok (.getfield 7, 3) := by decide +kernel
theorem dX11_lay_13 : decode cX11_lay 13 = .ok (.bipush 83, 2) := by decide +kernel
theorem dX11_lay_15 : decode cX11_lay 15 = .ok (.iaload, 1) := by decide +kernel
theorem dX11_lay_16 : decode cX11_lay 16 = .ok (.ifCond .le 24, 3) := by decide +kernel
theorem dX11_lay_19 : decode cX11_lay 19 = .ok (.aload_n 0, 1) := by decide +kernel
theorem dX11_lay_20 : decode cX11_lay 20 = .ok (.getfield 7, 3) := by decide +kernel
theorem dX11_lay_23 : decode cX11_lay 23 = .ok (.bipush 85, 2) := by decide +kernel
theorem dX11_lay_25 : decode cX11_lay 25 = .ok (.iaload, 1) := by decide +kernel
theorem dX11_lay_26 : decode cX11_lay 26 = .ok (.aload_n 0, 1) := by decide +kernel
theorem dX11_lay_27 : decode cX11_lay 27 = .ok (.getfield 7, 3) := by decide +kernel
theorem dX11_lay_30 : decode cX11_lay 30 = .ok (.bipush 82, 2) := by decide +kernel
theorem dX11_lay_32 : decode cX11_lay 32 = .ok (.iaload, 1) := by decide +kernel
theorem dX11_lay_33 : decode cX11_lay 33 = .ok (.if_icmp .ge 7, 3) := by decide +kernel
theorem dX11_lay_36 : decode cX11_lay 36 = .ok (.iconst 1, 1) := by decide +kernel
theorem dX11_lay_37 : decode cX11_lay 37 = .ok (.goto 4, 3) := by decide +kernel
theorem dX11_lay_40 : decode cX11_lay 40 = .ok (.iconst 0, 1) := by decide +kernel
theorem dX11_lay_41 : decode cX11_lay 41 = .ok (.istore_n 1, 1) := by decide +kernel
theorem dX11_lay_42 : decode cX11_lay 42 = .ok (.iconst 0, 1) := by decide +kernel
theorem dX11_lay_43 : decode cX11_lay 43 = .ok (.istore_n 2, 1) := by decide +kernel
theorem dX11_lay_44 : decode cX11_lay 44 = .ok (.iload_n 2, 1) := by decide +kernel
theorem dX11_lay_45 : decode cX11_lay 45 = .ok (.aload_n 0, 1) := by decide +kernel
theorem dX11_lay_46 : decode cX11_lay 46 = .ok (.getfield 7, 3) := by decide +kernel
theorem dX11_lay_49 : decode cX11_lay 49 = .ok (.bipush 83, 2) := by decide +kernel
theorem dX11_lay_51 : decode cX11_lay 51 = .ok (.iaload, 1) := by decide +kernel
theorem dX11_lay_52 : decode cX11_lay 52 = .ok (.if_icmp .ge 68, 3) := by decide +kernel
theorem dX11_lay_55 : decode cX11_lay 55 = .ok (.iload_n 1, 1) := by decide +kernel
theorem dX11_lay_56 : decode cX11_lay 56 = .ok (.ifCond .eq 64, 3) := by decide +kernel
theorem dX11_lay_59 : decode cX11_lay 59 = .ok (.iconst 0, 1) := by decide +kernel
theorem dX11_lay_60 : decode cX11_lay 60 = .ok (.istore_n 3, 1) := by decide +kernel
theorem dX11_lay_61 : decode cX11_lay 61 = .ok (.iload_n 3, 1) := by decide +kernel
theorem dX11_lay_62 : decode cX11_lay 62 = .ok (.aload_n 0, 1) := by decide +kernel
theorem dX11_lay_63 : decode cX11_lay 63 = .ok (.getfield 7, 3) := by decide +kernel
theorem dX11_lay_66 : decode cX11_lay 66 = .ok (.bipush 99, 2) := by decide +kernel
theorem dX11_lay_68 : decode cX11_lay 68 = .ok (.iload_n 2, 1) := by decide +kernel
theorem dX11_lay_69 : decode cX11_lay 69 = .ok (.iadd, 1) := by decide +kernel
theorem dX11_lay_70 : decode cX11_lay 70 = .ok (.iaload, 1) := by decide +kernel
theorem dX11_lay_71 : decode cX11_lay 71 = .ok (.if_icmp .ge 43, 3) := by decide +kernel
theorem dX11_lay_74 : decode cX11_lay 74 = .ok (.iload_n 1, 1) := by decide +kernel
theorem dX11_lay_75 : decode cX11_lay 75 = .ok (.ifCond .eq 31, 3) := by decide +kernel
theorem dX11_lay_78 : decode cX11_lay 78 = .ok (.aload_n 0, 1) := by decide +kernel
theorem dX11_lay_79 : decode cX11_lay 79 = .ok (.getfield 7, 3) := by decide +kernel
theorem dX11_lay_82 : decode cX11_lay 82 = .ok (.bipush 104, 2) := by decide +kernel
theorem dX11_lay_84 : decode cX11_lay 84 = .ok (.bipush 12, 2) := by decide +kernel
theorem dX11_lay_86 : decode cX11_lay 86 = .ok (.iload_n 2, 1) := by decide +kernel
theorem dX11_lay_87 : decode cX11_lay 87 = .ok (.imul, 1) := by decide +kernel
theorem dX11_lay_88 : decode cX11_lay 88 = .ok (.iadd, 1) := by decide +kernel
theorem dX11_lay_89 : decode cX11_lay 89 = .ok (.iload_n 3, 1) := by decide +kernel
theorem dX11_lay_90 : decode cX11_lay 90 = .ok (.iadd, 1) := by decide +kernel
theorem dX11_lay_91 : decode cX11_lay 91 = .ok (.iaload, 1) := by decide +kernel
theorem dX11_lay_92 : decode cX11_lay 92 = .ok (.aload_n 0, 1) := by decide +kernel
theorem dX11_lay_93 : decode cX11_lay 93 = .ok (.getfield 7, 3) := by decide +kernel
theorem dX11_lay_96 : decode cX11_lay 96 = .ok (.bipush 82, 2) := by decide +kernel
theorem dX11_lay_98 : decode cX11_lay 98 = .ok (.iaload, 1) := by decide +kernel
theorem dX11_lay_99 : decode cX11_lay 99 = .ok (.if_icmp .ge 7, 3) := by decide +kernel
theorem dX11_lay_102 : decode cX11_lay 102 = .ok (.iconst 1, 1) := by decide +kernel
theorem dX11_lay_103 : decode cX11_lay 103 = .ok (.goto 4, 3) := by decide +kernel
theorem dX11_lay_106 : decode cX11_lay 106 = .ok (.iconst 0, 1) := by decide +kernel
theorem dX11_lay_107 : decode cX11_lay 107 = .ok (.istore_n 1, 1) := by decide +kernel
theorem dX11_lay_108 : decode cX11_lay 108 = .ok (.iinc 3 1, 3) := by decide +kernel
theorem dX11_lay_111 : decode cX11_lay 111 = .ok (.goto (-50), 3) := by decide +kernel
theorem dX11_lay_114 : decode cX11_lay 114 = .ok (.iinc 2 1, 3) := by decide +kernel
theorem dX11_lay_117 : decode cX11_lay 117 = .ok (.goto (-73), 3) := by decide +kernel
theorem dX11_lay_120 : decode cX11_lay 120 = .ok (.iload_n 1, 1) := by decide +kernel
theorem dX11_lay_121 : decode cX11_lay 121 = .ok (.ifCond .ne 6, 3) := by decide +kernel
theorem dX11_lay_124 : decode cX11_lay 124 = .ok (.bipush (-2), 2) := by decide +kernel
theorem dX11_lay_126 : decode cX11_lay 126 = .ok (.ireturn, 1) := by decide +kernel
theorem dX11_lay_127 : decode cX11_lay 127 = .ok (.iconst 0, 1) := by decide +kernel
theorem dX11_lay_128 : decode cX11_lay 128 = .ok (.istore_n 2, 1) := by decide +kernel
theorem dX11_lay_129 : decode cX11_lay 129 = .ok (.iload_n 2, 1) := by decide +kernel
theorem dX11_lay_130 : decode cX11_lay 130 = .ok (.bipush 82, 2) := by decide +kernel
theorem dX11_lay_132 : decode cX11_lay 132 = .ok (.if_icmp .ge 24, 3) := by decide +kernel
theorem dX11_lay_135 : decode cX11_lay 135 = .ok (.aload_n 0, 1) := by decide +kernel
theorem dX11_lay_136 : decode cX11_lay 136 = .ok (.getfield 7, 3) := by decide +kernel
theorem dX11_lay_139 : decode cX11_lay 139 = .ok (.iload_n 2, 1) := by decide +kernel
theorem dX11_lay_140 : decode cX11_lay 140 = .ok (.aload_n 0, 1) := by decide +kernel
theorem dX11_lay_141 : decode cX11_lay 141 = .ok (.getfield 7, 3) := by decide +kernel
theorem dX11_lay_144 : decode cX11_lay 144 = .ok (.bipush 82, 2) := by decide +kernel
theorem dX11_lay_146 : decode cX11_lay 146 = .ok (.iload_n 2, 1) := by decide +kernel
theorem dX11_lay_147 : decode cX11_lay 147 = .ok (.iadd, 1) := by decide +kernel
theorem dX11_lay_148 : decode cX11_lay 148 = .ok (.iaload, 1) := by decide +kernel
theorem dX11_lay_149 : decode cX11_lay 149 = .ok (.iastore, 1) := by decide +kernel
theorem dX11_lay_150 : decode cX11_lay 150 = .ok (.iinc 2 1, 3) := by decide +kernel
theorem dX11_lay_153 : decode cX11_lay 153 = .ok (.goto (-24), 3) := by decide +kernel
theorem dX11_lay_156 : decode cX11_lay 156 = .ok (.aload_n 0, 1) := by decide +kernel
theorem dX11_lay_157 : decode cX11_lay 157 = .ok (.invokevirtual 65, 3) := by decide +kernel
theorem dX11_lay_160 : decode cX11_lay 160 = .ok (.aload_n 0, 1) := by decide +kernel
theorem dX11_lay_161 : decode cX11_lay 161 = .ok (.getfield 7, 3) := by decide +kernel
theorem dX11_lay_164 : decode cX11_lay 164 = .ok (.iconst 1, 1) := by decide +kernel
theorem dX11_lay_165 : decode cX11_lay 165 = .ok (.iaload, 1) := by decide +kernel
theorem dX11_lay_166 : decode cX11_lay 166 = .ok (.ireturn, 1) := by decide +kernel
theorem dX11_begin_0 : decode cX11_begin 0 = .ok (.iconst 0, 1) := by decide +kernel
theorem dX11_begin_1 : decode cX11_begin 1 = .ok (.istore_n 1, 1) := by decide +kernel
theorem dX11_begin_2 : decode cX11_begin 2 = .ok (.iload_n 1, 1) := by decide +kernel
theorem dX11_begin_3 : decode cX11_begin 3 = .ok (.bipush 8, 2) := by decide +kernel
theorem dX11_begin_5 : decode cX11_begin 5 = .ok (.if_icmp .ge 65, 3) := by decide +kernel
theorem dX11_begin_8 : decode cX11_begin 8 = .ok (.iconst 0, 1) := by decide +kernel
theorem dX11_begin_9 : decode cX11_begin 9 = .ok (.istore_n 2, 1) := by decide +kernel
theorem dX11_begin_10 : decode cX11_begin 10 = .ok (.iload_n 2, 1) := by decide +kernel
theorem dX11_begin_11 : decode cX11_begin 11 = .ok (.bipush 8, 2) := by decide +kernel
theorem dX11_begin_13 : decode cX11_begin 13 = .ok (.if_icmp .ge 51, 3) := by decide +kernel
theorem dX11_begin_16 : decode cX11_begin 16 = .ok (.aload_n 0, 1) := by decide +kernel
theorem dX11_begin_17 : decode cX11_begin 17 = .ok (.getfield 13, 3) := by decide +kernel
theorem dX11_begin_20 : decode cX11_begin 20 = .ok (.bipush 8, 2) := by decide +kernel
theorem dX11_begin_22 : decode cX11_begin 22 = .ok (.iload_n 1, 1) := by decide +kernel
theorem dX11_begin_23 : decode cX11_begin 23 = .ok (.imul, 1) := by decide +kernel
theorem dX11_begin_24 : decode cX11_begin 24 = .ok (.iload_n 2, 1) := by decide +kernel
theorem dX11_begin_25 : decode cX11_begin 25 = .ok (.iadd, 1) := by decide +kernel
theorem dX11_begin_26 : decode cX11_begin 26 = .ok (.iload_n 1, 1) := by decide +kernel
theorem dX11_begin_27 : decode cX11_begin 27 = .ok (.iload_n 2, 1) := by decide +kernel
theorem dX11_begin_28 : decode cX11_begin 28 = .ok (.if_icmp .ne 7, 3) := by decide +kernel
theorem dX11_begin_31 : decode cX11_begin 31 = .ok (.iconst 0, 1) := by decide +kernel
theorem dX11_begin_32 : decode cX11_begin 32 = .ok (.goto 25, 3) := by decide +kernel
theorem dX11_begin_35 : decode cX11_begin 35 = .ok (.aload_n 0, 1) := by decide +kernel
theorem dX11_begin_36 : decode cX11_begin 36 = .ok (.getfield 7, 3) := by decide +kernel
theorem dX11_begin_39 : decode cX11_begin 39 = .ok (.iconst 4, 1) := by decide +kernel
theorem dX11_begin_40 : decode cX11_begin 40 = .ok (.iload_n 1, 1) := by decide +kernel
theorem dX11_begin_41 : decode cX11_begin 41 = .ok (.iadd, 1) := by decide +kernel
theorem dX11_begin_42 : decode cX11_begin 42 = .ok (.iaload, 1) := by decide +kernel
theorem dX11_begin_43 : decode cX11_begin 43 = .ok (.iload_n 2, 1) := by decide +kernel
theorem dX11_begin_44 : decode cX11_begin 44 = .ok (.ishr, 1) := by decide +kernel
theorem dX11_begin_45 : decode cX11_begin 45 = .ok (.iconst 1, 1) := by decide +kernel
theorem dX11_begin_46 : decode cX11_begin 46 = .ok (.iand, 1) := by decide +kernel
theorem dX11_begin_47 : decode cX11_begin 47 = .ok (.iconst 1, 1) := by decide +kernel
theorem dX11_begin_48 : decode cX11_begin 48 = .ok (.if_icmp .ne 7, 3) := by decide +kernel
theorem dX11_begin_51 : decode cX11_begin 51 = .ok (.iconst 1, 1) := by decide +kernel
theorem dX11_begin_52 : decode cX11_begin 52 = .ok (.goto 5, 3) := by decide +kernel
theorem dX11_begin_55 : decode cX11_begin 55 = .ok (.ldc 109, 2) := by decide +kernel
theorem dX11_begin_57 : decode cX11_begin 57 = .ok (.iastore, 1) := by decide +kernel
theorem dX11_begin_58 : decode cX11_begin 58 = .ok (.iinc 2 1, 3) := by decide +kernel
theorem dX11_begin_61 : decode cX11_begin 61 = .ok (.goto (-51), 3) := by decide +kernel
theorem dX11_begin_64 : decode cX11_begin 64 = .ok (.iinc 1 1, 3) := by decide +kernel
theorem dX11_begin_67 : decode cX11_begin 67 = .ok (.goto (-65), 3) := by decide +kernel
theorem dX11_begin_70 : decode cX11_begin 70 = .ok (.iconst 0, 1) := by decide +kernel
theorem dX11_begin_71 : decode cX11_begin 71 = .ok (.istore_n 1, 1) := by decide +kernel
theorem dX11_begin_72 : decode cX11_begin 72 = .ok (.iload_n 1, 1) := by decide +kernel
theorem dX11_begin_73 : decode cX11_begin 73 = .ok (.bipush 8, 2) := by decide +kernel
theorem dX11_begin_75 : decode cX11_begin 75 = .ok (.if_icmp .ge 105, 3) := by decide +kernel
theorem dX11_begin_78 : decode cX11_begin 78 = .ok (.iconst 0, 1) := by decide +kernel
theorem dX11_begin_79 : decode cX11_begin 79 = .ok (.istore_n 2, 1) := by decide +kernel
theorem dX11_begin_80 : decode cX11_begin 80 = .ok (.iload_n 2, 1) := by decide +kernel
theorem dX11_begin_81 : decode cX11_begin 81 = .ok (.bipush 8, 2) := by decide +kernel
theorem dX11_begin_83 : decode cX11_begin 83 = .ok (.if_icmp .ge 91, 3) := by decide +kernel
theorem dX11_begin_86 : decode cX11_begin 86 = .ok (.iconst 0, 1) := by decide +kernel
theorem dX11_begin_87 : decode cX11_begin 87 = .ok (.istore_n 3, 1) := by decide +kernel
theorem dX11_begin_88 : decode cX11_begin 88 = .ok (.iload_n 3, 1) := by decide +kernel
theorem dX11_begin_89 : decode cX11_begin 89 = .ok (.bipush 8, 2) := by decide +kernel
theorem dX11_begin_91 : decode cX11_begin 91 = .ok (.if_icmp .ge 77, 3) := by decide +kernel
theorem dX11_begin_94 : decode cX11_begin 94 = .ok (.aload_n 0, 1) := by decide +kernel
theorem dX11_begin_95 : decode cX11_begin 95 = .ok (.getfield 13, 3) := by decide +kernel
theorem dX11_begin_98 : decode cX11_begin 98 = .ok (.bipush 8, 2) := by decide +kernel
theorem dX11_begin_100 : decode cX11_begin 100 = .ok (.iload_n 2, 1) := by decide +kernel
theorem dX11_begin_101 : decode cX11_begin 101 = .ok (.imul, 1) := by decide +kernel
theorem dX11_begin_102 : decode cX11_begin 102 = .ok (.iload_n 1, 1) := by decide +kernel
theorem dX11_begin_103 : decode cX11_begin 103 = .ok (.iadd, 1) := by decide +kernel
theorem dX11_begin_104 : decode cX11_begin 104 = .ok (.iaload, 1) := by decide +kernel
theorem dX11_begin_105 : decode cX11_begin 105 = .ok (.aload_n 0, 1) := by decide +kernel
theorem dX11_begin_106 : decode cX11_begin 106 = .ok (.getfield 13, 3) := by decide +kernel
theorem dX11_begin_109 : decode cX11_begin 109 = .ok (.bipush 8, 2) := by decide +kernel
theorem dX11_begin_111 : decode cX11_begin 111 = .ok (.iload_n 1, 1) := by decide +kernel
theorem dX11_begin_112 : decode cX11_begin 112 = .ok (.imul, 1) := by decide +kernel
theorem dX11_begin_113 : decode cX11_begin 113 = .ok (.iload_n 3, 1) := by decide +kernel
theorem dX11_begin_114 : decode cX11_begin 114 = .ok (.iadd, 1) := by decide +kernel
theorem dX11_begin_115 : decode cX11_begin 115 = .ok (.iaload, 1) := by decide +kernel
theorem dX11_begin_116 : decode cX11_begin 116 = .ok (.iadd, 1) := by decide +kernel
theorem dX11_begin_117 : decode cX11_begin 117 = .ok (.istore 4, 2) := by decide +kernel
theorem dX11_begin_119 : decode cX11_begin 119 = .ok (.aload_n 0, 1) := by decide +kernel
theorem dX11_begin_120 : decode cX11_begin 120 = .ok (.getfield 13, 3) := by decide +kernel
theorem dX11_begin_123 : decode cX11_begin 123 = .ok (.bipush 8, 2) := by decide +kernel
theorem dX11_begin_125 : decode cX11_begin 125 = .ok (.iload_n 2, 1) := by decide +kernel
theorem dX11_begin_126 : decode cX11_begin 126 = .ok (.imul, 1) := by decide +kernel
theorem dX11_begin_127 : decode cX11_begin 127 = .ok (.iload_n 3, 1) := by decide +kernel
theorem dX11_begin_128 : decode cX11_begin 128 = .ok (.iadd, 1) := by decide +kernel
theorem dX11_begin_129 : decode cX11_begin 129 = .ok (.iload 4, 2) := by decide +kernel
theorem dX11_begin_131 : decode cX11_begin 131 = .ok (.aload_n 0, 1) := by decide +kernel
theorem dX11_begin_132 : decode cX11_begin 132 = .ok (.getfield 13, 3) := by decide +kernel
theorem dX11_begin_135 : decode cX11_begin 135 = .ok (.bipush 8, 2) := by decide +kernel
theorem dX11_begin_137 : decode cX11_begin 137 = .ok (.iload_n 2, 1) := by decide +kernel
theorem dX11_begin_138 : decode cX11_begin 138 = .ok (.imul, 1) := by decide +kernel
theorem dX11_begin_139 : decode cX11_begin 139 = .ok (.iload_n 3, 1) := by decide +kernel
theorem dX11_begin_140 : decode cX11_begin 140 = .ok (.iadd, 1) := by decide +kernel
theorem dX11_begin_141 : decode cX11_begin 141 = .ok (.iaload, 1) := by decide +kernel
theorem dX11_begin_142 : decode cX11_begin 142 = .ok (.if_icmp .ge 8, 3) := by decide +kernel
theorem dX11_begin_145 : decode cX11_begin 145 = .ok (.iload 4, 2) := by decide +kernel
theorem dX11_begin_147 : decode cX11_begin 147 = .ok (.goto 14, 3) := by decide +kernel
theorem dX11_begin_150 : decode cX11_begin 150 = .ok (.aload_n 0, 1) := by decide +kernel
theorem dX11_begin_151 : decode cX11_begin 151 = .ok (.getfield 13, 3) := by decide +kernel
theorem dX11_begin_154 : decode cX11_begin 154 = .ok (.bipush 8, 2) := by decide +kernel
theorem dX11_begin_156 : decode cX11_begin 156 = .ok (.iload_n 2, 1) := by decide +kernel
theorem dX11_begin_157 : decode cX11_begin 157 = .ok (.imul, 1) := by decide +kernel
theorem dX11_begin_158 : decode cX11_begin 158 = .ok (.iload_n 3, 1) := by decide +kernel
theorem dX11_begin_159 : decode cX11_begin 159 = .ok (.iadd, 1) := by decide +kernel
theorem dX11_begin_160 : decode cX11_begin 160 = .ok (.iaload, 1) := by decide +kernel
theorem dX11_begin_161 : decode cX11_begin 161 = .ok (.iastore, 1) := by decide +kernel
theorem dX11_begin_162 : decode cX11_begin 162 = .ok (.iinc 3 1, 3) := by decide +kernel
theorem dX11_begin_165 : decode cX11_begin 165 = .ok (.goto (-77), 3) := by decide +kernel
theorem dX11_begin_168 : decode cX11_begin 168 = .ok (.iinc 2 1, 3) := by decide +kernel
theorem dX11_begin_171 : decode cX11_begin 171 = .ok (.goto (-91), 3) := by decide +kernel
theorem dX11_begin_174 : decode cX11_begin 174 = .ok (.iinc 1 1, 3) := by decide +kernel
theorem dX11_begin_177 : decode cX11_begin 177 = .ok (.goto (-105), 3) := by decide +kernel
theorem dX11_begin_180 : decode cX11_begin 180 = .ok (.aload_n 0, 1) := by decide +kernel
theorem dX11_begin_181 : decode cX11_begin 181 = .ok (.getfield 20, 3) := by decide +kernel
theorem dX11_begin_184 : decode cX11_begin 184 = .ok (.iconst 0, 1) := by decide +kernel
theorem dX11_begin_185 : decode cX11_begin 185 = .ok (.iconst 0, 1) := by decide +kernel
theorem dX11_begin_186 : decode cX11_begin 186 = .ok (.iastore, 1) := by decide +kernel
theorem dX11_begin_187 : decode cX11_begin 187 = .ok (.aload_n 0, 1) := by decide +kernel
theorem dX11_begin_188 : decode cX11_begin 188 = .ok (.getfield 20, 3) := by decide +kernel
theorem dX11_begin_191 : decode cX11_begin 191 = .ok (.iconst 1, 1) := by decide +kernel
theorem dX11_begin_192 : decode cX11_begin 192 = .ok (.aload_n 0, 1) := by decide +kernel
theorem dX11_begin_193 : decode cX11_begin 193 = .ok (.getfield 7, 3) := by decide +kernel
theorem dX11_begin_196 : decode cX11_begin 196 = .ok (.iconst 3, 1) := by decide +kernel
theorem dX11_begin_197 : decode cX11_begin 197 = .ok (.iaload, 1) := by decide +kernel
theorem dX11_begin_198 : decode cX11_begin 198 = .ok (.iastore, 1) := by decide +kernel
theorem dX11_begin_199 : decode cX11_begin 199 = .ok (.aload_n 0, 1) := by decide +kernel
theorem dX11_begin_200 : decode cX11_begin 200 = .ok (.getfield 20, 3) := by decide +kernel
theorem dX11_begin_203 : decode cX11_begin 203 = .ok (.iconst 2, 1) := by decide +kernel
theorem dX11_begin_204 : decode cX11_begin 204 = .ok (.iconst 0, 1) := by decide +kernel
theorem dX11_begin_205 : decode cX11_begin 205 = .ok (.iastore, 1) := by decide +kernel
theorem dX11_begin_206 : decode cX11_begin 206 = .ok (.aload_n 0, 1) := by decide +kernel
theorem dX11_begin_207 : decode cX11_begin 207 = .ok (.iconst 0, 1) := by decide +kernel
theorem dX11_begin_208 : decode cX11_begin 208 = .ok (.putfield 110, 3) := by decide +kernel
theorem dX11_begin_211 : decode cX11_begin 211 = .ok (.aload_n 0, 1) := by decide +kernel
theorem dX11_begin_212 : decode cX11_begin 212 = .ok (.iconst 0, 1) := by decide +kernel
theorem dX11_begin_213 : decode cX11_begin 213 = .ok (.putfield 113, 3) := by decide +kernel
theorem dX11_begin_216 : decode cX11_begin 216 = .ok (.aload_n 0, 1) := by decide +kernel
theorem dX11_begin_217 : decode cX11_begin 217 = .ok (.iconst 0, 1) := by decide +kernel
theorem dX11_begin_218 : decode cX11_begin 218 = .ok (.putfield 116, 3) := by decide +kernel
theorem dX11_begin_221 : decode cX11_begin 221 = .ok (.aload_n 0, 1) := by decide +kernel
theorem dX11_begin_222 : decode cX11_begin 222 = .ok (.iconst 0, 1) := by decide +kernel
theorem dX11_begin_223 : decode cX11_begin 223 = .ok (.putfield 119, 3) := by decide +kernel
theorem dX11_begin_226 : decode cX11_begin 226 = .ok (.return_, 1) := by decide +kernel
theorem dX11_isYard_0 : decode cX11_isYard 0 = .ok (.iload_n 1, 1) := by decide +kernel
theorem dX11_isYard_1 : decode cX11_isYard 1 = .ok (.iconst 0, 1) := by decide +kernel
theorem dX11_isYard_2 : decode cX11_isYard 2 = .ok (.aload_n 0, 1) := by decide +kernel
theorem dX11_isYard_3 : decode cX11_isYard 3 = .ok (.getfield 7, 3) := by decide +kernel
theorem dX11_isYard_6 : decode cX11_isYard 6 = .ok (.iconst 0, 1) := by decide +kernel
theorem dX11_isYard_7 : decode cX11_isYard 7 = .ok (.iaload, 1) := by decide +kernel
theorem dX11_isYard_8 : decode cX11_isYard 8 = .ok (.iconst 1, 1) := by decide +kernel
theorem dX11_isYard_9 : decode cX11_isYard 9 = .ok (.isub, 1) := by decide +kernel
theorem dX11_isYard_10 : decode cX11_isYard 10 = .ok (.invokestatic 68, 3) := by decide +kernel
theorem dX11_isYard_13 : decode cX11_isYard 13 = .ok (.ireturn, 1) := by decide +kernel
theorem dX11_isPerson_0 : decode cX11_isPerson 0 = .ok (.iload_n 1, 1) := by decide +kernel
theorem dX11_isPerson_1 : decode cX11_isPerson 1 = .ok (.iconst 0, 1) := by decide +kernel
theorem dX11_isPerson_2 : decode cX11_isPerson 2 = .ok (.aload_n 0, 1) := by decide +kernel
theorem dX11_isPerson_3 : decode cX11_isPerson 3 = .ok (.getfield 7, 3) := by decide +kernel
theorem dX11_isPerson_6 : decode cX11_isPerson 6 = .ok (.iconst 1, 1) := by decide +kernel
theorem dX11_isPerson_7 : decode cX11_isPerson 7 = .ok (.iaload, 1) := by decide +kernel
theorem dX11_isPerson_8 : decode cX11_isPerson 8 = .ok (.iconst 1, 1) := by decide +kernel
theorem dX11_isPerson_9 : decode cX11_isPerson 9 = .ok (.isub, 1) := by decide +kernel
theorem dX11_isPerson_10 : decode cX11_isPerson 10 = .ok (.invokestatic 68, 3) := by decide +kernel
theorem dX11_isPerson_13 : decode cX11_isPerson 13 = .ok (.ireturn, 1) := by decide +kernel
theorem dX11_far_0 : decode cX11_far 0 = .ok (.aload_n 0, 1) := by decide +kernel
theorem dX11_far_1 : decode cX11_far 1 = .ok (.iload_n 1, 1) := by decide +kernel
theorem dX11_far_2 : decode cX11_far 2 = .ok (.invokevirtual 122, 3) := by decide +kernel
theorem dX11_far_5 : decode cX11_far 5 = .ok (.ifCond .eq 11, 3) := by decide +kernel
theorem dX11_far_8 : decode cX11_far 8 = .ok (.aload_n 0, 1) := by decide +kernel
theorem dX11_far_9 : decode cX11_far 9 = .ok (.iload_n 2, 1) := by decide +kernel
theorem dX11_far_10 : decode cX11_far 10 = .ok (.invokevirtual 122, 3) := by decide +kernel
theorem dX11_far_13 : decode cX11_far 13 = .ok (.ifCond .ne 5, 3) := by decide +kernel
theorem dX11_far_16 : decode cX11_far 16 = .ok (.iconst (-1), 1) := by decide +kernel
theorem dX11_far_17 : decode cX11_far 17 = .ok (.ireturn, 1) := by decide +kernel
theorem dX11_far_18 : decode cX11_far 18 = .ok (.aload_n 0, 1) := by decide +kernel
theorem dX11_far_19 : decode cX11_far 19 = .ok (.getfield 13, 3) := by decide +kernel
theorem dX11_far_22 : decode cX11_far 22 = .ok (.bipush 8, 2) := by decide +kernel
theorem dX11_far_24 : decode cX11_far 24 = .ok (.iload_n 1, 1) := by decide +kernel
theorem dX11_far_25 : decode cX11_far 25 = .ok (.imul, 1) := by decide +kernel
theorem dX11_far_26 : decode cX11_far 26 = .ok (.iload_n 2, 1) := by decide +kernel
theorem dX11_far_27 : decode cX11_far 27 = .ok (.iadd, 1) := by decide +kernel
theorem dX11_far_28 : decode cX11_far 28 = .ok (.iaload, 1) := by decide +kernel
theorem dX11_far_29 : decode cX11_far 29 = .ok (.ldc 109, 2) := by decide +kernel
theorem dX11_far_31 : decode cX11_far 31 = .ok (.if_icmp .lt 8, 3) := by decide +kernel
theorem dX11_far_34 : decode cX11_far 34 = .ok (.bipush (-4), 2) := by decide +kernel
theorem dX11_far_36 : decode cX11_far 36 = .ok (.goto 14, 3) := by decide +kernel
theorem dX11_far_39 : decode cX11_far 39 = .ok (.aload_n 0, 1) := by decide +kernel
theorem dX11_far_40 : decode cX11_far 40 = .ok (.getfield 13, 3) := by decide +kernel
theorem dX11_far_43 : decode cX11_far 43 = .ok (.bipush 8, 2) := by decide +kernel
theorem dX11_far_45 : decode cX11_far 45 = .ok (.iload_n 1, 1) := by decide +kernel
theorem dX11_far_46 : decode cX11_far 46 = .ok (.imul, 1) := by decide +kernel
theorem dX11_far_47 : decode cX11_far 47 = .ok (.iload_n 2, 1) := by decide +kernel
theorem dX11_far_48 : decode cX11_far 48 = .ok (.iadd, 1) := by decide +kernel
theorem dX11_far_49 : decode cX11_far 49 = .ok (.iaload, 1) := by decide +kernel
theorem dX11_far_50 : decode cX11_far 50 = .ok (.ireturn, 1) := by decide +kernel
theorem dX11_placeOf_0 : decode cX11_placeOf 0 = .ok (.aload_n 0, 1) := by decide +kernel
theorem dX11_placeOf_1 : decode cX11_placeOf 1 = .ok (.getfield 7, 3) := by decide +kernel
theorem dX11_placeOf_4 : decode cX11_placeOf 4 = .ok (.bipush 22, 2) := by decide +kernel
theorem dX11_placeOf_6 : decode cX11_placeOf 6 = .ok (.bipush 12, 2) := by decide +kernel
theorem dX11_placeOf_8 : decode cX11_placeOf 8 = .ok (.iload_n 1, 1) := by decide +kernel
theorem dX11_placeOf_9 : decode cX11_placeOf 9 = .ok (.imul, 1) := by decide +kernel
theorem dX11_placeOf_10 : decode cX11_placeOf 10 = .ok (.iadd, 1) := by decide +kernel
theorem dX11_placeOf_11 : decode cX11_placeOf 11 = .ok (.iload_n 2, 1) := by decide +kernel
theorem dX11_placeOf_12 : decode cX11_placeOf 12 = .ok (.aload_n 0, 1) := by decide +kernel
theorem dX11_placeOf_13 : decode cX11_placeOf 13 = .ok (.getfield 7, 3) := by decide +kernel
theorem dX11_placeOf_16 : decode cX11_placeOf 16 = .ok (.bipush 17, 2) := by decide +kernel
theorem dX11_placeOf_18 : decode cX11_placeOf 18 = .ok (.iload_n 1, 1) := by decide +kernel
theorem dX11_placeOf_19 : decode cX11_placeOf 19 = .ok (.iadd, 1) := by decide +kernel
theorem dX11_placeOf_20 : decode cX11_placeOf 20 = .ok (.iaload, 1) := by decide +kernel
theorem dX11_placeOf_21 : decode cX11_placeOf 21 = .ok (.irem, 1) := by decide +kernel
theorem dX11_placeOf_22 : decode cX11_placeOf 22 = .ok (.iadd, 1) := by decide +kernel
theorem dX11_placeOf_23 : decode cX11_placeOf 23 = .ok (.iaload, 1) := by decide +kernel
theorem dX11_placeOf_24 : decode cX11_placeOf 24 = .ok (.ireturn, 1) := by decide +kernel
theorem dX11_person_0 : decode cX11_person 0 = .ok (.aload_n 0, 1) := by decide +kernel
theorem dX11_person_1 : decode cX11_person 1 = .ok (.iload_n 1, 1) := by decide +kernel
theorem dX11_person_2 : decode cX11_person 2 = .ok (.invokevirtual 126, 3) := by decide +kernel
theorem dX11_person_5 : decode cX11_person 5 = .ok (.ifCond .eq 14, 3) := by decide +kernel
theorem dX11_person_8 : decode cX11_person 8 = .ok (.iload_n 2, 1) := by decide +kernel
theorem dX11_person_9 : decode cX11_person 9 = .ok (.iconst (-1), 1) := by decide +kernel
theorem dX11_person_10 : decode cX11_person 10 = .ok (.sipush 9999, 3) := by decide +kernel
theorem dX11_person_13 : decode cX11_person 13 = .ok (.invokestatic 68, 3) := by decide +kernel
theorem dX11_person_16 : decode cX11_person 16 = .ok (.ifCond .ne 5, 3) := by decide +kernel
theorem dX11_person_19 : decode cX11_person 19 = .ok (.iconst (-1), 1) := by decide +kernel
theorem dX11_person_20 : decode cX11_person 20 = .ok (.ireturn, 1) := by decide +kernel
theorem dX11_person_21 : decode cX11_person 21 = .ok (.iload_n 2, 1) := by decide +kernel
theorem dX11_person_22 : decode cX11_person 22 = .ok (.iconst (-1), 1) := by decide +kernel
theorem dX11_person_23 : decode cX11_person 23 = .ok (.if_icmp .ne 15, 3) := by decide +kernel
theorem dX11_person_26 : decode cX11_person 26 = .ok (.aload_n 0, 1) := by decide +kernel
theorem dX11_person_27 : decode cX11_person 27 = .ok (.getfield 7, 3) := by decide +kernel
theorem dX11_person_30 : decode cX11_person 30 = .ok (.bipush 12, 2) := by decide +kernel
theorem dX11_person_32 : decode cX11_person 32 = .ok (.iload_n 1, 1) := by decide +kernel
theorem dX11_person_33 : decode cX11_person 33 = .ok (.iadd, 1) := by decide +kernel
theorem dX11_person_34 : decode cX11_person 34 = .ok (.iaload, 1) := by decide +kernel
theorem dX11_person_35 : decode cX11_person 35 = .ok (.goto 9, 3) := by decide +kernel
theorem dX11_person_38 : decode cX11_person 38 = .ok (.aload_n 0, 1) := by decide +kernel
theorem dX11_person_39 : decode cX11_person 39 = .ok (.iload_n 1, 1) := by decide +kernel
theorem dX11_person_40 : decode cX11_person 40 = .ok (.iload_n 2, 1) := by decide +kernel
theorem dX11_person_41 : decode cX11_person 41 = .ok (.invokevirtual 129, 3) := by decide +kernel
theorem dX11_person_44 : decode cX11_person 44 = .ok (.ireturn, 1) := by decide +kernel
theorem dX11_yardOf_0 : decode cX11_yardOf 0 = .ok (.iload_n 0, 1) := by decide +kernel
theorem dX11_yardOf_1 : decode cX11_yardOf 1 = .ok (.bipush 8, 2) := by decide +kernel
theorem dX11_yardOf_3 : decode cX11_yardOf 3 = .ok (.irem, 1) := by decide +kernel
theorem dX11_yardOf_4 : decode cX11_yardOf 4 = .ok (.ireturn, 1) := by decide +kernel
theorem dX11_whomOf_0 : decode cX11_whomOf 0 = .ok (.iload_n 0, 1) := by decide +kernel
theorem dX11_whomOf_1 : decode cX11_whomOf 1 = .ok (.bipush 8, 2) := by decide +kernel
theorem dX11_whomOf_3 : decode cX11_whomOf 3 = .ok (.idiv, 1) := by decide +kernel
theorem dX11_whomOf_4 : decode cX11_whomOf 4 = .ok (.bipush 6, 2) := by decide +kernel
theorem dX11_whomOf_6 : decode cX11_whomOf 6 = .ok (.irem, 1) := by decide +kernel
theorem dX11_whomOf_7 : decode cX11_whomOf 7 = .ok (.iconst 1, 1) := by decide +kernel
theorem dX11_whomOf_8 : decode cX11_whomOf 8 = .ok (.isub, 1) := by decide +kernel
theorem dX11_whomOf_9 : decode cX11_whomOf 9 = .ok (.ireturn, 1) := by decide +kernel
theorem dX11_fedBy_0 : decode cX11_fedBy 0 = .ok (.iload_n 1, 1) := by decide +kernel
theorem dX11_fedBy_1 : decode cX11_fedBy 1 = .ok (.invokestatic 132, 3) := by decide +kernel
theorem dX11_fedBy_4 : decode cX11_fedBy 4 = .ok (.bipush 8, 2) := by decide +kernel
theorem dX11_fedBy_6 : decode cX11_fedBy 6 = .ok (.iload_n 2, 1) := by decide +kernel
theorem dX11_fedBy_7 : decode cX11_fedBy 7 = .ok (.iconst 1, 1) := by decide +kernel
theorem dX11_fedBy_8 : decode cX11_fedBy 8 = .ok (.iadd, 1) := by decide +kernel
theorem dX11_fedBy_9 : decode cX11_fedBy 9 = .ok (.imul, 1) := by decide +kernel
theorem dX11_fedBy_10 : decode cX11_fedBy 10 = .ok (.iadd, 1) := by decide +kernel
theorem dX11_fedBy_11 : decode cX11_fedBy 11 = .ok (.bipush 48, 2) := by decide +kernel
theorem dX11_fedBy_13 : decode cX11_fedBy 13 = .ok (.aload_n 0, 1) := by decide +kernel
theorem dX11_fedBy_14 : decode cX11_fedBy 14 = .ok (.getfield 7, 3) := by decide +kernel
theorem dX11_fedBy_17 : decode cX11_fedBy 17 = .ok (.iconst 2, 1) := by decide +kernel
theorem dX11_fedBy_18 : decode cX11_fedBy 18 = .ok (.iaload, 1) := by decide +kernel
theorem dX11_fedBy_19 : decode cX11_fedBy 19 = .ok (.imul, 1) := by decide +kernel
theorem dX11_fedBy_20 : decode cX11_fedBy 20 = .ok (.iadd, 1) := by decide +kernel
theorem dX11_fedBy_21 : decode cX11_fedBy 21 = .ok (.ireturn, 1) := by decide +kernel
theorem dX11_mayFeed_0 : decode cX11_mayFeed 0 = .ok (.aload_n 0, 1) := by decide +kernel
theorem dX11_mayFeed_1 : decode cX11_mayFeed 1 = .ok (.iload_n 2, 1) := by decide +kernel
theorem dX11_mayFeed_2 : decode cX11_mayFeed 2 = .ok (.iload_n 3, 1) := by decide +kernel
theorem dX11_mayFeed_3 : decode cX11_mayFeed 3 = .ok (.invokevirtual 129, 3) := by decide +kernel
theorem dX11_mayFeed_6 : decode cX11_mayFeed 6 = .ok (.iload_n 1, 1) := by decide +kernel
theorem dX11_mayFeed_7 : decode cX11_mayFeed 7 = .ok (.invokestatic 132, 3) := by decide +kernel
theorem dX11_mayFeed_10 : decode cX11_mayFeed 10 = .ok (.if_icmp .ne 7, 3) := by decide +kernel
theorem dX11_mayFeed_13 : decode cX11_mayFeed 13 = .ok (.iconst 1, 1) := by decide +kernel
theorem dX11_mayFeed_14 : decode cX11_mayFeed 14 = .ok (.goto 4, 3) := by decide +kernel
theorem dX11_mayFeed_17 : decode cX11_mayFeed 17 = .ok (.iconst 0, 1) := by decide +kernel
theorem dX11_mayFeed_18 : decode cX11_mayFeed 18 = .ok (.ireturn, 1) := by decide +kernel
theorem dX11_after_0 : decode cX11_after 0 = .ok (.iload_n 1, 1) := by decide +kernel
theorem dX11_after_1 : decode cX11_after 1 = .ok (.invokestatic 136, 3) := by decide +kernel
theorem dX11_after_4 : decode cX11_after 4 = .ok (.istore_n 3, 1) := by decide +kernel
theorem dX11_after_5 : decode cX11_after 5 = .ok (.iload_n 1, 1) := by decide +kernel
theorem dX11_after_6 : decode cX11_after 6 = .ok (.invokestatic 132, 3) := by decide +kernel
theorem dX11_after_9 : decode cX11_after 9 = .ok (.istore 4, 2) := by decide +kernel
theorem dX11_after_11 : decode cX11_after 11 = .ok (.iload_n 3, 1) := by decide +kernel
theorem dX11_after_12 : decode cX11_after 12 = .ok (.ifCond .ge 6, 3) := by decide +kernel
theorem dX11_after_15 : decode cX11_after 15 = .ok (.iload 4, 2) := by decide +kernel
theorem dX11_after_17 : decode cX11_after 17 = .ok (.ireturn, 1) := by decide +kernel
theorem dX11_after_18 : decode cX11_after 18 = .ok (.iload_n 1, 1) := by decide +kernel
theorem dX11_after_19 : decode cX11_after 19 = .ok (.bipush 48, 2) := by decide +kernel
theorem dX11_after_21 : decode cX11_after 21 = .ok (.idiv, 1) := by decide +kernel
theorem dX11_after_22 : decode cX11_after 22 = .ok (.istore 5, 2) := by decide +kernel
theorem dX11_after_24 : decode cX11_after 24 = .ok (.aload_n 0, 1) := by decide +kernel
theorem dX11_after_25 : decode cX11_after 25 = .ok (.getfield 7, 3) := by decide +kernel
theorem dX11_after_28 : decode cX11_after 28 = .ok (.iconst 2, 1) := by decide +kernel
theorem dX11_after_29 : decode cX11_after 29 = .ok (.iaload, 1) := by decide +kernel
theorem dX11_after_30 : decode cX11_after 30 = .ok (.ifCond .le 14, 3) := by decide +kernel
theorem dX11_after_33 : decode cX11_after 33 = .ok (.iinc 5 (-1), 3) := by decide +kernel
theorem dX11_after_36 : decode cX11_after 36 = .ok (.iload 5, 2) := by decide +kernel
theorem dX11_after_38 : decode cX11_after 38 = .ok (.ifCond .ne 6, 3) := by decide +kernel
theorem dX11_after_41 : decode cX11_after 41 = .ok (.iload 4, 2) := by decide +kernel
theorem dX11_after_43 : decode cX11_after 43 = .ok (.ireturn, 1) := by decide +kernel
theorem dX11_after_44 : decode cX11_after 44 = .ok (.aload_n 0, 1) := by decide +kernel
theorem dX11_after_45 : decode cX11_after 45 = .ok (.iload_n 3, 1) := by decide +kernel
theorem dX11_after_46 : decode cX11_after 46 = .ok (.iload_n 2, 1) := by decide +kernel
theorem dX11_after_47 : decode cX11_after 47 = .ok (.invokevirtual 129, 3) := by decide +kernel
theorem dX11_after_50 : decode cX11_after 50 = .ok (.istore 6, 2) := by decide +kernel
theorem dX11_after_52 : decode cX11_after 52 = .ok (.aload_n 0, 1) := by decide +kernel
theorem dX11_after_53 : decode cX11_after 53 = .ok (.getfield 13, 3) := by decide +kernel
theorem dX11_after_56 : decode cX11_after 56 = .ok (.bipush 8, 2) := by decide +kernel
theorem dX11_after_58 : decode cX11_after 58 = .ok (.iload 4, 2) := by decide +kernel
theorem dX11_after_60 : decode cX11_after 60 = .ok (.imul, 1) := by decide +kernel
theorem dX11_after_61 : decode cX11_after 61 = .ok (.iload 6, 2) := by decide +kernel
theorem dX11_after_63 : decode cX11_after 63 = .ok (.iadd, 1) := by decide +kernel
theorem dX11_after_64 : decode cX11_after 64 = .ok (.iaload, 1) := by decide +kernel
theorem dX11_after_65 : decode cX11_after 65 = .ok (.istore 7, 2) := by decide +kernel
theorem dX11_after_67 : decode cX11_after 67 = .ok (.iload 7, 2) := by decide +kernel
theorem dX11_after_69 : decode cX11_after 69 = .ok (.ifCond .le 60, 3) := by decide +kernel
theorem dX11_after_72 : decode cX11_after 72 = .ok (.iload 7, 2) := by decide +kernel
theorem dX11_after_74 : decode cX11_after 74 = .ok (.ldc 109, 2) := by decide +kernel
theorem dX11_after_76 : decode cX11_after 76 = .ok (.if_icmp .ge 53, 3) := by decide +kernel
theorem dX11_after_79 : decode cX11_after 79 = .ok (.iconst 0, 1) := by decide +kernel
theorem dX11_after_80 : decode cX11_after 80 = .ok (.istore 8, 2) := by decide +kernel
theorem dX11_after_82 : decode cX11_after 82 = .ok (.aload_n 0, 1) := by decide +kernel
theorem dX11_after_83 : decode cX11_after 83 = .ok (.getfield 7, 3) := by decide +kernel
theorem dX11_after_86 : decode cX11_after 86 = .ok (.iconst 4, 1) := by decide +kernel
theorem dX11_after_87 : decode cX11_after 87 = .ok (.iload 4, 2) := by decide +kernel
theorem dX11_after_89 : decode cX11_after 89 = .ok (.iadd, 1) := by decide +kernel
theorem dX11_after_90 : decode cX11_after 90 = .ok (.iaload, 1) := by decide +kernel
theorem dX11_after_91 : decode cX11_after 91 = .ok (.iload 8, 2) := by decide +kernel
theorem dX11_after_93 : decode cX11_after 93 = .ok (.ishr, 1) := by decide +kernel
theorem dX11_after_94 : decode cX11_after 94 = .ok (.iconst 1, 1) := by decide +kernel
theorem dX11_after_95 : decode cX11_after 95 = .ok (.iand, 1) := by decide +kernel
theorem dX11_after_96 : decode cX11_after 96 = .ok (.ifCond .eq 23, 3) := by decide +kernel
theorem dX11_after_99 : decode cX11_after 99 = .ok (.aload_n 0, 1) := by decide +kernel
theorem dX11_after_100 : decode cX11_after 100 = .ok (.getfield 13, 3) := by decide +kernel
theorem dX11_after_103 : decode cX11_after 103 = .ok (.bipush 8, 2) := by decide +kernel
theorem dX11_after_105 : decode cX11_after 105 = .ok (.iload 8, 2) := by decide +kernel
theorem dX11_after_107 : decode cX11_after 107 = .ok (.imul, 1) := by decide +kernel
theorem dX11_after_108 : decode cX11_after 108 = .ok (.iload 6, 2) := by decide +kernel
theorem dX11_after_110 : decode cX11_after 110 = .ok (.iadd, 1) := by decide +kernel
theorem dX11_after_111 : decode cX11_after 111 = .ok (.iaload, 1) := by decide +kernel
theorem dX11_after_112 : decode cX11_after 112 = .ok (.iload 7, 2) := by decide +kernel
theorem dX11_after_114 : decode cX11_after 114 = .ok (.iconst 1, 1) := by decide +kernel
theorem dX11_after_115 : decode cX11_after 115 = .ok (.isub, 1) := by decide +kernel
theorem dX11_after_116 : decode cX11_after 116 = .ok (.if_icmp .eq 9, 3) := by decide +kernel
theorem dX11_after_119 : decode cX11_after 119 = .ok (.iinc 8 1, 3) := by decide +kernel
theorem dX11_after_122 : decode cX11_after 122 = .ok (.goto (-40), 3) := by decide +kernel
theorem dX11_after_125 : decode cX11_after 125 = .ok (.iload 8, 2) := by decide +kernel
theorem dX11_after_127 : decode cX11_after 127 = .ok (.istore 4, 2) := by decide +kernel
theorem dX11_after_129 : decode cX11_after 129 = .ok (.iload 4, 2) := by decide +kernel
theorem dX11_after_131 : decode cX11_after 131 = .ok (.bipush 8, 2) := by decide +kernel
theorem dX11_after_133 : decode cX11_after 133 = .ok (.iload_n 3, 1) := by decide +kernel
theorem dX11_after_134 : decode cX11_after 134 = .ok (.iconst 1, 1) := by decide +kernel
theorem dX11_after_135 : decode cX11_after 135 = .ok (.iadd, 1) := by decide +kernel
theorem dX11_after_136 : decode cX11_after 136 = .ok (.imul, 1) := by decide +kernel
theorem dX11_after_137 : decode cX11_after 137 = .ok (.iadd, 1) := by decide +kernel
theorem dX11_after_138 : decode cX11_after 138 = .ok (.bipush 48, 2) := by decide +kernel
theorem dX11_after_140 : decode cX11_after 140 = .ok (.iload 5, 2) := by decide +kernel
theorem dX11_after_142 : decode cX11_after 142 = .ok (.imul, 1) := by decide +kernel
theorem dX11_after_143 : decode cX11_after 143 = .ok (.iadd, 1) := by decide +kernel
theorem dX11_after_144 : decode cX11_after 144 = .ok (.ireturn, 1) := by decide +kernel
theorem dX11_know_0 : decode cX11_know 0 = .ok (.aload_n 0, 1) := by decide +kernel
theorem dX11_know_1 : decode cX11_know 1 = .ok (.getfield 110, 3) := by decide +kernel
theorem dX11_know_4 : decode cX11_know 4 = .ok (.bipush 8, 2) := by decide +kernel
theorem dX11_know_6 : decode cX11_know 6 = .ok (.if_icmp .ne 41, 3) := by decide +kernel
theorem dX11_know_9 : decode cX11_know 9 = .ok (.iconst 0, 1) := by decide +kernel
theorem dX11_know_10 : decode cX11_know 10 = .ok (.istore_n 1, 1) := by decide +kernel
theorem dX11_know_11 : decode cX11_know 11 = .ok (.iload_n 1, 1) := by decide +kernel
theorem dX11_know_12 : decode cX11_know 12 = .ok (.bipush 21, 2) := by decide +kernel
theorem dX11_know_14 : decode cX11_know 14 = .ok (.if_icmp .ge 23, 3) := by decide +kernel
theorem dX11_know_17 : decode cX11_know 17 = .ok (.aload_n 0, 1) := by decide +kernel
theorem dX11_know_18 : decode cX11_know 18 = .ok (.getfield 23, 3) := by decide +kernel
theorem dX11_know_21 : decode cX11_know 21 = .ok (.iload_n 1, 1) := by decide +kernel
theorem dX11_know_22 : decode cX11_know 22 = .ok (.aload_n 0, 1) := by decide +kernel
theorem dX11_know_23 : decode cX11_know 23 = .ok (.getfield 23, 3) := by decide +kernel
theorem dX11_know_26 : decode cX11_know 26 = .ok (.iload_n 1, 1) := by decide +kernel
theorem dX11_know_27 : decode cX11_know 27 = .ok (.iconst 3, 1) := by decide +kernel
theorem dX11_know_28 : decode cX11_know 28 = .ok (.iadd, 1) := by decide +kernel
theorem dX11_know_29 : decode cX11_know 29 = .ok (.iaload, 1) := by decide +kernel
theorem dX11_know_30 : decode cX11_know 30 = .ok (.iastore, 1) := by decide +kernel
theorem dX11_know_31 : decode cX11_know 31 = .ok (.iinc 1 1, 3) := by decide +kernel
theorem dX11_know_34 : decode cX11_know 34 = .ok (.goto (-23), 3) := by decide +kernel
theorem dX11_know_37 : decode cX11_know 37 = .ok (.aload_n 0, 1) := by decide +kernel
theorem dX11_know_38 : decode cX11_know 38 = .ok (.dup, 1) := by decide +kernel
theorem dX11_know_39 : decode cX11_know 39 = .ok (.getfield 110, 3) := by decide +kernel
theorem dX11_know_42 : decode cX11_know 42 = .ok (.iconst 1, 1) := by decide +kernel
theorem dX11_know_43 : decode cX11_know 43 = .ok (.isub, 1) := by decide +kernel
theorem dX11_know_44 : decode cX11_know 44 = .ok (.putfield 110, 3) := by decide +kernel
theorem dX11_know_47 : decode cX11_know 47 = .ok (.iconst 0, 1) := by decide +kernel
theorem dX11_know_48 : decode cX11_know 48 = .ok (.istore_n 1, 1) := by decide +kernel
theorem dX11_know_49 : decode cX11_know 49 = .ok (.iload_n 1, 1) := by decide +kernel
theorem dX11_know_50 : decode cX11_know 50 = .ok (.iconst 3, 1) := by decide +kernel
theorem dX11_know_51 : decode cX11_know 51 = .ok (.if_icmp .ge 28, 3) := by decide +kernel
theorem dX11_know_54 : decode cX11_know 54 = .ok (.aload_n 0, 1) := by decide +kernel
theorem dX11_know_55 : decode cX11_know 55 = .ok (.getfield 23, 3) := by decide +kernel
theorem dX11_know_58 : decode cX11_know 58 = .ok (.iconst 3, 1) := by decide +kernel
theorem dX11_know_59 : decode cX11_know 59 = .ok (.aload_n 0, 1) := by decide +kernel
theorem dX11_know_60 : decode cX11_know 60 = .ok (.getfield 110, 3) := by decide +kernel
theorem dX11_know_63 : decode cX11_know 63 = .ok (.imul, 1) := by decide +kernel
theorem dX11_know_64 : decode cX11_know 64 = .ok (.iload_n 1, 1) := by decide +kernel
theorem dX11_know_65 : decode cX11_know 65 = .ok (.iadd, 1) := by decide +kernel
theorem dX11_know_66 : decode cX11_know 66 = .ok (.aload_n 0, 1) := by decide +kernel
theorem dX11_know_67 : decode cX11_know 67 = .ok (.getfield 20, 3) := by decide +kernel
theorem dX11_know_70 : decode cX11_know 70 = .ok (.iload_n 1, 1) := by decide +kernel
theorem dX11_know_71 : decode cX11_know 71 = .ok (.iaload, 1) := by decide +kernel
theorem dX11_know_72 : decode cX11_know 72 = .ok (.iastore, 1) := by decide +kernel
theorem dX11_know_73 : decode cX11_know 73 = .ok (.iinc 1 1, 3) := by decide +kernel
theorem dX11_know_76 : decode cX11_know 76 = .ok (.goto (-27), 3) := by decide +kernel
theorem dX11_know_79 : decode cX11_know 79 = .ok (.aload_n 0, 1) := by decide +kernel
theorem dX11_know_80 : decode cX11_know 80 = .ok (.dup, 1) := by decide +kernel
theorem dX11_know_81 : decode cX11_know 81 = .ok (.getfield 110, 3) := by decide +kernel
theorem dX11_know_84 : decode cX11_know 84 = .ok (.iconst 1, 1) := by decide +kernel
theorem dX11_know_85 : decode cX11_know 85 = .ok (.iadd, 1) := by decide +kernel
theorem dX11_know_86 : decode cX11_know 86 = .ok (.putfield 110, 3) := by decide +kernel
theorem dX11_know_89 : decode cX11_know 89 = .ok (.return_, 1) := by decide +kernel
theorem dX11_feed_0 : decode cX11_feed 0 = .ok (.aload_n 0, 1) := by decide +kernel
theorem dX11_feed_1 : decode cX11_feed 1 = .ok (.iload_n 1, 1) := by decide +kernel
theorem dX11_feed_2 : decode cX11_feed 2 = .ok (.invokevirtual 126, 3) := by decide +kernel
theorem dX11_feed_5 : decode cX11_feed 5 = .ok (.ifCond .ne 5, 3) := by decide +kernel
theorem dX11_feed_8 : decode cX11_feed 8 = .ok (.iconst (-1), 1) := by decide +kernel
theorem dX11_feed_9 : decode cX11_feed 9 = .ok (.ireturn, 1) := by decide +kernel
theorem dX11_feed_10 : decode cX11_feed 10 = .ok (.aload_n 0, 1) := by decide +kernel
theorem dX11_feed_11 : decode cX11_feed 11 = .ok (.aload_n 0, 1) := by decide +kernel
theorem dX11_feed_12 : decode cX11_feed 12 = .ok (.getfield 20, 3) := by decide +kernel
theorem dX11_feed_15 : decode cX11_feed 15 = .ok (.iconst 1, 1) := by decide +kernel
theorem dX11_feed_16 : decode cX11_feed 16 = .ok (.iaload, 1) := by decide +kernel
theorem dX11_feed_17 : decode cX11_feed 17 = .ok (.iload_n 1, 1) := by decide +kernel
theorem dX11_feed_18 : decode cX11_feed 18 = .ok (.aload_n 0, 1) := by decide +kernel
theorem dX11_feed_19 : decode cX11_feed 19 = .ok (.getfield 20, 3) := by decide +kernel
theorem dX11_feed_22 : decode cX11_feed 22 = .ok (.iconst 0, 1) := by decide +kernel
theorem dX11_feed_23 : decode cX11_feed 23 = .ok (.iaload, 1) := by decide +kernel
theorem dX11_feed_24 : decode cX11_feed 24 = .ok (.invokevirtual 139, 3) := by decide +kernel
theorem dX11_feed_27 : decode cX11_feed 27 = .ok (.ifCond .ne 6, 3) := by decide +kernel
theorem dX11_feed_30 : decode cX11_feed 30 = .ok (.bipush (-2), 2) := by decide +kernel
theorem dX11_feed_32 : decode cX11_feed 32 = .ok (.ireturn, 1) := by decide +kernel
theorem dX11_feed_33 : decode cX11_feed 33 = .ok (.aload_n 0, 1) := by decide +kernel
theorem dX11_feed_34 : decode cX11_feed 34 = .ok (.invokevirtual 142, 3) := by decide +kernel
theorem dX11_feed_37 : decode cX11_feed 37 = .ok (.aload_n 0, 1) := by decide +kernel
theorem dX11_feed_38 : decode cX11_feed 38 = .ok (.getfield 20, 3) := by decide +kernel
theorem dX11_feed_41 : decode cX11_feed 41 = .ok (.iconst 1, 1) := by decide +kernel
theorem dX11_feed_42 : decode cX11_feed 42 = .ok (.aload_n 0, 1) := by decide +kernel
theorem dX11_feed_43 : decode cX11_feed 43 = .ok (.aload_n 0, 1) := by decide +kernel
theorem dX11_feed_44 : decode cX11_feed 44 = .ok (.getfield 20, 3) := by decide +kernel
theorem dX11_feed_47 : decode cX11_feed 47 = .ok (.iconst 1, 1) := by decide +kernel
theorem dX11_feed_48 : decode cX11_feed 48 = .ok (.iaload, 1) := by decide +kernel
theorem dX11_feed_49 : decode cX11_feed 49 = .ok (.iload_n 1, 1) := by decide +kernel
theorem dX11_feed_50 : decode cX11_feed 50 = .ok (.invokevirtual 145, 3) := by decide +kernel
theorem dX11_feed_53 : decode cX11_feed 53 = .ok (.iastore, 1) := by decide +kernel
theorem dX11_feed_54 : decode cX11_feed 54 = .ok (.aload_n 0, 1) := by decide +kernel
theorem dX11_feed_55 : decode cX11_feed 55 = .ok (.getfield 20, 3) := by decide +kernel
theorem dX11_feed_58 : decode cX11_feed 58 = .ok (.iconst 2, 1) := by decide +kernel
theorem dX11_feed_59 : decode cX11_feed 59 = .ok (.dup2, 1) := by decide +kernel
theorem dX11_feed_60 : decode cX11_feed 60 = .ok (.iaload, 1) := by decide +kernel
theorem dX11_feed_61 : decode cX11_feed 61 = .ok (.iconst 1, 1) := by decide +kernel
theorem dX11_feed_62 : decode cX11_feed 62 = .ok (.iadd, 1) := by decide +kernel
theorem dX11_feed_63 : decode cX11_feed 63 = .ok (.iastore, 1) := by decide +kernel
theorem dX11_feed_64 : decode cX11_feed 64 = .ok (.aload_n 0, 1) := by decide +kernel
theorem dX11_feed_65 : decode cX11_feed 65 = .ok (.getfield 20, 3) := by decide +kernel
theorem dX11_feed_68 : decode cX11_feed 68 = .ok (.iconst 2, 1) := by decide +kernel
theorem dX11_feed_69 : decode cX11_feed 69 = .ok (.iaload, 1) := by decide +kernel
theorem dX11_feed_70 : decode cX11_feed 70 = .ok (.ireturn, 1) := by decide +kernel
theorem dX11_gone_0 : decode cX11_gone 0 = .ok (.iload_n 1, 1) := by decide +kernel
theorem dX11_gone_1 : decode cX11_gone 1 = .ok (.istore 4, 2) := by decide +kernel
theorem dX11_gone_3 : decode cX11_gone 3 = .ok (.iconst 1, 1) := by decide +kernel
theorem dX11_gone_4 : decode cX11_gone 4 = .ok (.istore 5, 2) := by decide +kernel
theorem dX11_gone_6 : decode cX11_gone 6 = .ok (.iload 5, 2) := by decide +kernel
theorem dX11_gone_8 : decode cX11_gone 8 = .ok (.iload_n 3, 1) := by decide +kernel
theorem dX11_gone_9 : decode cX11_gone 9 = .ok (.if_icmp .gt 21, 3) := by decide +kernel
theorem dX11_gone_12 : decode cX11_gone 12 = .ok (.aload_n 0, 1) := by decide +kernel
theorem dX11_gone_13 : decode cX11_gone 13 = .ok (.iload 4, 2) := by decide +kernel
theorem dX11_gone_15 : decode cX11_gone 15 = .ok (.iload_n 2, 1) := by decide +kernel
theorem dX11_gone_16 : decode cX11_gone 16 = .ok (.iload 5, 2) := by decide +kernel
theorem dX11_gone_18 : decode cX11_gone 18 = .ok (.iadd, 1) := by decide +kernel
theorem dX11_gone_19 : decode cX11_gone 19 = .ok (.invokevirtual 148, 3) := by decide +kernel
theorem dX11_gone_22 : decode cX11_gone 22 = .ok (.istore 4, 2) := by decide +kernel
theorem dX11_gone_24 : decode cX11_gone 24 = .ok (.iinc 5 1, 3) := by decide +kernel
theorem dX11_gone_27 : decode cX11_gone 27 = .ok (.goto (-21), 3) := by decide +kernel
theorem dX11_gone_30 : decode cX11_gone 30 = .ok (.iload 4, 2) := by decide +kernel
theorem dX11_gone_32 : decode cX11_gone 32 = .ok (.ireturn, 1) := by decide +kernel
theorem dX11_pass_0 : decode cX11_pass 0 = .ok (.iload_n 1, 1) := by decide +kernel
theorem dX11_pass_1 : decode cX11_pass 1 = .ok (.iconst 1, 1) := by decide +kernel
theorem dX11_pass_2 : decode cX11_pass 2 = .ok (.bipush 99, 2) := by decide +kernel
theorem dX11_pass_4 : decode cX11_pass 4 = .ok (.invokestatic 68, 3) := by decide +kernel
theorem dX11_pass_7 : decode cX11_pass 7 = .ok (.ifCond .ne 5, 3) := by decide +kernel
theorem dX11_pass_10 : decode cX11_pass 10 = .ok (.iconst (-1), 1) := by decide +kernel
theorem dX11_pass_11 : decode cX11_pass 11 = .ok (.ireturn, 1) := by decide +kernel
theorem dX11_pass_12 : decode cX11_pass 12 = .ok (.aload_n 0, 1) := by decide +kernel
theorem dX11_pass_13 : decode cX11_pass 13 = .ok (.getfield 20, 3) := by decide +kernel
theorem dX11_pass_16 : decode cX11_pass 16 = .ok (.iconst 0, 1) := by decide +kernel
theorem dX11_pass_17 : decode cX11_pass 17 = .ok (.iaload, 1) := by decide +kernel
theorem dX11_pass_18 : decode cX11_pass 18 = .ok (.iload_n 1, 1) := by decide +kernel
theorem dX11_pass_19 : decode cX11_pass 19 = .ok (.iadd, 1) := by decide +kernel
theorem dX11_pass_20 : decode cX11_pass 20 = .ok (.sipush 9999, 3) := by decide +kernel
theorem dX11_pass_23 : decode cX11_pass 23 = .ok (.if_icmp .le 6, 3) := by decide +kernel
theorem dX11_pass_26 : decode cX11_pass 26 = .ok (.bipush (-2), 2) := by decide +kernel
theorem dX11_pass_28 : decode cX11_pass 28 = .ok (.ireturn, 1) := by decide +kernel
theorem dX11_pass_29 : decode cX11_pass 29 = .ok (.aload_n 0, 1) := by decide +kernel
theorem dX11_pass_30 : decode cX11_pass 30 = .ok (.invokevirtual 142, 3) := by decide +kernel
theorem dX11_pass_33 : decode cX11_pass 33 = .ok (.aload_n 0, 1) := by decide +kernel
theorem dX11_pass_34 : decode cX11_pass 34 = .ok (.getfield 20, 3) := by decide +kernel
theorem dX11_pass_37 : decode cX11_pass 37 = .ok (.iconst 1, 1) := by decide +kernel
theorem dX11_pass_38 : decode cX11_pass 38 = .ok (.aload_n 0, 1) := by decide +kernel
theorem dX11_pass_39 : decode cX11_pass 39 = .ok (.aload_n 0, 1) := by decide +kernel
theorem dX11_pass_40 : decode cX11_pass 40 = .ok (.getfield 20, 3) := by decide +kernel
theorem dX11_pass_43 : decode cX11_pass 43 = .ok (.iconst 1, 1) := by decide +kernel
theorem dX11_pass_44 : decode cX11_pass 44 = .ok (.iaload, 1) := by decide +kernel
theorem dX11_pass_45 : decode cX11_pass 45 = .ok (.aload_n 0, 1) := by decide +kernel
theorem dX11_pass_46 : decode cX11_pass 46 = .ok (.getfield 20, 3) := by decide +kernel
theorem dX11_pass_49 : decode cX11_pass 49 = .ok (.iconst 0, 1) := by decide +kernel
theorem dX11_pass_50 : decode cX11_pass 50 = .ok (.iaload, 1) := by decide +kernel
theorem dX11_pass_51 : decode cX11_pass 51 = .ok (.iload_n 1, 1) := by decide +kernel
theorem dX11_pass_52 : decode cX11_pass 52 = .ok (.invokevirtual 151, 3) := by decide +kernel
theorem dX11_pass_55 : decode cX11_pass 55 = .ok (.iastore, 1) := by decide +kernel
theorem dX11_pass_56 : decode cX11_pass 56 = .ok (.aload_n 0, 1) := by decide +kernel
theorem dX11_pass_57 : decode cX11_pass 57 = .ok (.getfield 20, 3) := by decide +kernel
theorem dX11_pass_60 : decode cX11_pass 60 = .ok (.iconst 0, 1) := by decide +kernel
theorem dX11_pass_61 : decode cX11_pass 61 = .ok (.dup2, 1) := by decide +kernel
theorem dX11_pass_62 : decode cX11_pass 62 = .ok (.iaload, 1) := by decide +kernel
theorem dX11_pass_63 : decode cX11_pass 63 = .ok (.iload_n 1, 1) := by decide +kernel
theorem dX11_pass_64 : decode cX11_pass 64 = .ok (.iadd, 1) := by decide +kernel
theorem dX11_pass_65 : decode cX11_pass 65 = .ok (.iastore, 1) := by decide +kernel
theorem dX11_pass_66 : decode cX11_pass 66 = .ok (.aload_n 0, 1) := by decide +kernel
theorem dX11_pass_67 : decode cX11_pass 67 = .ok (.getfield 20, 3) := by decide +kernel
theorem dX11_pass_70 : decode cX11_pass 70 = .ok (.iconst 1, 1) := by decide +kernel
theorem dX11_pass_71 : decode cX11_pass 71 = .ok (.iaload, 1) := by decide +kernel
theorem dX11_pass_72 : decode cX11_pass 72 = .ok (.invokestatic 132, 3) := by decide +kernel
theorem dX11_pass_75 : decode cX11_pass 75 = .ok (.ireturn, 1) := by decide +kernel
theorem dX11_undo_0 : decode cX11_undo 0 = .ok (.aload_n 0, 1) := by decide +kernel
theorem dX11_undo_1 : decode cX11_undo 1 = .ok (.getfield 110, 3) := by decide +kernel
theorem dX11_undo_4 : decode cX11_undo 4 = .ok (.ifCond .ne 6, 3) := by decide +kernel
theorem dX11_undo_7 : decode cX11_undo 7 = .ok (.bipush (-2), 2) := by decide +kernel
theorem dX11_undo_9 : decode cX11_undo 9 = .ok (.ireturn, 1) := by decide +kernel
theorem dX11_undo_10 : decode cX11_undo 10 = .ok (.aload_n 0, 1) := by decide +kernel
theorem dX11_undo_11 : decode cX11_undo 11 = .ok (.dup, 1) := by decide +kernel
theorem dX11_undo_12 : decode cX11_undo 12 = .ok (.getfield 110, 3) := by decide +kernel
theorem dX11_undo_15 : decode cX11_undo 15 = .ok (.iconst 1, 1) := by decide +kernel
theorem dX11_undo_16 : decode cX11_undo 16 = .ok (.isub, 1) := by decide +kernel
theorem dX11_undo_17 : decode cX11_undo 17 = .ok (.putfield 110, 3) := by decide +kernel
theorem dX11_undo_20 : decode cX11_undo 20 = .ok (.iconst 0, 1) := by decide +kernel
theorem dX11_undo_21 : decode cX11_undo 21 = .ok (.istore_n 1, 1) := by decide +kernel
theorem dX11_undo_22 : decode cX11_undo 22 = .ok (.iload_n 1, 1) := by decide +kernel
theorem dX11_undo_23 : decode cX11_undo 23 = .ok (.iconst 3, 1) := by decide +kernel
theorem dX11_undo_24 : decode cX11_undo 24 = .ok (.if_icmp .ge 28, 3) := by decide +kernel
theorem dX11_undo_27 : decode cX11_undo 27 = .ok (.aload_n 0, 1) := by decide +kernel
theorem dX11_undo_28 : decode cX11_undo 28 = .ok (.getfield 20, 3) := by decide +kernel
theorem dX11_undo_31 : decode cX11_undo 31 = .ok (.iload_n 1, 1) := by decide +kernel
theorem dX11_undo_32 : decode cX11_undo 32 = .ok (.aload_n 0, 1) := by decide +kernel
theorem dX11_undo_33 : decode cX11_undo 33 = .ok (.getfield 23, 3) := by decide +kernel
theorem dX11_undo_36 : decode cX11_undo 36 = .ok (.iconst 3, 1) := by decide +kernel
theorem dX11_undo_37 : decode cX11_undo 37 = .ok (.aload_n 0, 1) := by decide +kernel
theorem dX11_undo_38 : decode cX11_undo 38 = .ok (.getfield 110, 3) := by decide +kernel
theorem dX11_undo_41 : decode cX11_undo 41 = .ok (.imul, 1) := by decide +kernel
theorem dX11_undo_42 : decode cX11_undo 42 = .ok (.iload_n 1, 1) := by decide +kernel
theorem dX11_undo_43 : decode cX11_undo 43 = .ok (.iadd, 1) := by decide +kernel
theorem dX11_undo_44 : decode cX11_undo 44 = .ok (.iaload, 1) := by decide +kernel
theorem dX11_undo_45 : decode cX11_undo 45 = .ok (.iastore, 1) := by decide +kernel
theorem dX11_undo_46 : decode cX11_undo 46 = .ok (.iinc 1 1, 3) := by decide +kernel
theorem dX11_undo_49 : decode cX11_undo 49 = .ok (.goto (-27), 3) := by decide +kernel
theorem dX11_undo_52 : decode cX11_undo 52 = .ok (.aload_n 0, 1) := by decide +kernel
theorem dX11_undo_53 : decode cX11_undo 53 = .ok (.getfield 110, 3) := by decide +kernel
theorem dX11_undo_56 : decode cX11_undo 56 = .ok (.ireturn, 1) := by decide +kernel
theorem dX11_calf_0 : decode cX11_calf 0 = .ok (.iload_n 1, 1) := by decide +kernel
theorem dX11_calf_1 : decode cX11_calf 1 = .ok (.iconst 0, 1) := by decide +kernel
theorem dX11_calf_2 : decode cX11_calf 2 = .ok (.sipush 400, 3) := by decide +kernel
theorem dX11_calf_5 : decode cX11_calf 5 = .ok (.invokestatic 68, 3) := by decide +kernel
theorem dX11_calf_8 : decode cX11_calf 8 = .ok (.ifCond .eq 12, 3) := by decide +kernel
theorem dX11_calf_11 : decode cX11_calf 11 = .ok (.iload_n 2, 1) := by decide +kernel
theorem dX11_calf_12 : decode cX11_calf 12 = .ok (.iconst 0, 1) := by decide +kernel
theorem dX11_calf_13 : decode cX11_calf 13 = .ok (.iconst 1, 1) := by decide +kernel
theorem dX11_calf_14 : decode cX11_calf 14 = .ok (.invokestatic 68, 3) := by decide +kernel
theorem dX11_calf_17 : decode cX11_calf 17 = .ok (.ifCond .ne 5, 3) := by decide +kernel
theorem dX11_calf_20 : decode cX11_calf 20 = .ok (.iconst (-1), 1) := by decide +kernel
theorem dX11_calf_21 : decode cX11_calf 21 = .ok (.ireturn, 1) := by decide +kernel
theorem dX11_calf_22 : decode cX11_calf 22 = .ok (.aload_n 0, 1) := by decide +kernel
theorem dX11_calf_23 : decode cX11_calf 23 = .ok (.aload_n 0, 1) := by decide +kernel
theorem dX11_calf_24 : decode cX11_calf 24 = .ok (.getfield 20, 3) := by decide +kernel
theorem dX11_calf_27 : decode cX11_calf 27 = .ok (.iconst 1, 1) := by decide +kernel
theorem dX11_calf_28 : decode cX11_calf 28 = .ok (.iaload, 1) := by decide +kernel
theorem dX11_calf_29 : decode cX11_calf 29 = .ok (.aload_n 0, 1) := by decide +kernel
theorem dX11_calf_30 : decode cX11_calf 30 = .ok (.getfield 20, 3) := by decide +kernel
theorem dX11_calf_33 : decode cX11_calf 33 = .ok (.iconst 0, 1) := by decide +kernel
theorem dX11_calf_34 : decode cX11_calf 34 = .ok (.iaload, 1) := by decide +kernel
theorem dX11_calf_35 : decode cX11_calf 35 = .ok (.iload_n 1, 1) := by decide +kernel
theorem dX11_calf_36 : decode cX11_calf 36 = .ok (.invokevirtual 151, 3) := by decide +kernel
theorem dX11_calf_39 : decode cX11_calf 39 = .ok (.istore_n 3, 1) := by decide +kernel
theorem dX11_calf_40 : decode cX11_calf 40 = .ok (.iload_n 2, 1) := by decide +kernel
theorem dX11_calf_41 : decode cX11_calf 41 = .ok (.ifCond .ne 10, 3) := by decide +kernel
theorem dX11_calf_44 : decode cX11_calf 44 = .ok (.iload_n 3, 1) := by decide +kernel
theorem dX11_calf_45 : decode cX11_calf 45 = .ok (.invokestatic 132, 3) := by decide +kernel
theorem dX11_calf_48 : decode cX11_calf 48 = .ok (.goto 19, 3) := by decide +kernel
theorem dX11_calf_51 : decode cX11_calf 51 = .ok (.iload_n 3, 1) := by decide +kernel
theorem dX11_calf_52 : decode cX11_calf 52 = .ok (.invokestatic 136, 3) := by decide +kernel
theorem dX11_calf_55 : decode cX11_calf 55 = .ok (.ifCond .ge 8, 3) := by decide +kernel
theorem dX11_calf_58 : decode cX11_calf 58 = .ok (.bipush (-4), 2) := by decide +kernel
theorem dX11_calf_60 : decode cX11_calf 60 = .ok (.goto 7, 3) := by decide +kernel
theorem dX11_calf_63 : decode cX11_calf 63 = .ok (.iload_n 3, 1) := by decide +kernel
theorem dX11_calf_64 : decode cX11_calf 64 = .ok (.invokestatic 136, 3) := by decide +kernel
theorem dX11_calf_67 : decode cX11_calf 67 = .ok (.ireturn, 1) := by decide +kernel
theorem dX11_goal_0 : decode cX11_goal 0 = .ok (.aload_n 0, 1) := by decide +kernel
theorem dX11_goal_1 : decode cX11_goal 1 = .ok (.iload_n 1, 1) := by decide +kernel
theorem dX11_goal_2 : decode cX11_goal 2 = .ok (.invokevirtual 122, 3) := by decide +kernel
theorem dX11_goal_5 : decode cX11_goal 5 = .ok (.ifCond .eq 13, 3) := by decide +kernel
theorem dX11_goal_8 : decode cX11_goal 8 = .ok (.iload_n 2, 1) := by decide +kernel
theorem dX11_goal_9 : decode cX11_goal 9 = .ok (.iconst 0, 1) := by decide +kernel
theorem dX11_goal_10 : decode cX11_goal 10 = .ok (.bipush 40, 2) := by decide +kernel
theorem dX11_goal_12 : decode cX11_goal 12 = .ok (.invokestatic 68, 3) := by decide +kernel
theorem dX11_goal_15 : decode cX11_goal 15 = .ok (.ifCond .ne 5, 3) := by decide +kernel
theorem dX11_goal_18 : decode cX11_goal 18 = .ok (.iconst (-1), 1) := by decide +kernel
theorem dX11_goal_19 : decode cX11_goal 19 = .ok (.ireturn, 1) := by decide +kernel
theorem dX11_goal_20 : decode cX11_goal 20 = .ok (.aload_n 0, 1) := by decide +kernel
theorem dX11_goal_21 : decode cX11_goal 21 = .ok (.getfield 116, 3) := by decide +kernel
theorem dX11_goal_24 : decode cX11_goal 24 = .ok (.bipush 6, 2) := by decide +kernel
theorem dX11_goal_26 : decode cX11_goal 26 = .ok (.if_icmp .ne 6, 3) := by decide +kernel
theorem dX11_goal_29 : decode cX11_goal 29 = .ok (.bipush (-3), 2) := by decide +kernel
theorem dX11_goal_31 : decode cX11_goal 31 = .ok (.ireturn, 1) := by decide +kernel
theorem dX11_goal_32 : decode cX11_goal 32 = .ok (.aload_n 0, 1) := by decide +kernel
theorem dX11_goal_33 : decode cX11_goal 33 = .ok (.getfield 29, 3) := by decide +kernel
theorem dX11_goal_36 : decode cX11_goal 36 = .ok (.aload_n 0, 1) := by decide +kernel
theorem dX11_goal_37 : decode cX11_goal 37 = .ok (.getfield 116, 3) := by decide +kernel
theorem dX11_goal_40 : decode cX11_goal 40 = .ok (.iload_n 1, 1) := by decide +kernel
theorem dX11_goal_41 : decode cX11_goal 41 = .ok (.iastore, 1) := by decide +kernel
theorem dX11_goal_42 : decode cX11_goal 42 = .ok (.aload_n 0, 1) := by decide +kernel
theorem dX11_goal_43 : decode cX11_goal 43 = .ok (.getfield 32, 3) := by decide +kernel
theorem dX11_goal_46 : decode cX11_goal 46 = .ok (.aload_n 0, 1) := by decide +kernel
theorem dX11_goal_47 : decode cX11_goal 47 = .ok (.getfield 116, 3) := by decide +kernel
theorem dX11_goal_50 : decode cX11_goal 50 = .ok (.iload_n 2, 1) := by decide +kernel
theorem dX11_goal_51 : decode cX11_goal 51 = .ok (.iastore, 1) := by decide +kernel
theorem dX11_goal_52 : decode cX11_goal 52 = .ok (.aload_n 0, 1) := by decide +kernel
theorem dX11_goal_53 : decode cX11_goal 53 = .ok (.dup, 1) := by decide +kernel
theorem dX11_goal_54 : decode cX11_goal 54 = .ok (.getfield 116, 3) := by decide +kernel
theorem dX11_goal_57 : decode cX11_goal 57 = .ok (.iconst 1, 1) := by decide +kernel
theorem dX11_goal_58 : decode cX11_goal 58 = .ok (.iadd, 1) := by decide +kernel
theorem dX11_goal_59 : decode cX11_goal 59 = .ok (.putfield 116, 3) := by decide +kernel
theorem dX11_goal_62 : decode cX11_goal 62 = .ok (.aload_n 0, 1) := by decide +kernel
theorem dX11_goal_63 : decode cX11_goal 63 = .ok (.getfield 116, 3) := by decide +kernel
theorem dX11_goal_66 : decode cX11_goal 66 = .ok (.ireturn, 1) := by decide +kernel
theorem dX11_noGoals_0 : decode cX11_noGoals 0 = .ok (.aload_n 0, 1) := by decide +kernel
theorem dX11_noGoals_1 : decode cX11_noGoals 1 = .ok (.getfield 116, 3) := by decide +kernel
theorem dX11_noGoals_4 : decode cX11_noGoals 4 = .ok (.istore_n 1, 1) := by decide +kernel
theorem dX11_noGoals_5 : decode cX11_noGoals 5 = .ok (.aload_n 0, 1) := by decide +kernel
theorem dX11_noGoals_6 : decode cX11_noGoals 6 = .ok (.iconst 0, 1) := by decide +kernel
theorem dX11_noGoals_7 : decode cX11_noGoals 7 = .ok (.putfield 116, 3) := by decide +kernel
theorem dX11_noGoals_10 : decode cX11_noGoals 10 = .ok (.iload_n 1, 1) := by decide +kernel
theorem dX11_noGoals_11 : decode cX11_noGoals 11 = .ok (.ireturn, 1) := by decide +kernel
theorem dX11_isUpTo_0 : decode cX11_isUpTo 0 = .ok (.aload_n 0, 1) := by decide +kernel
theorem dX11_isUpTo_1 : decode cX11_isUpTo 1 = .ok (.getfield 32, 3) := by decide +kernel
theorem dX11_isUpTo_4 : decode cX11_isUpTo 4 = .ok (.iload_n 1, 1) := by decide +kernel
theorem dX11_isUpTo_5 : decode cX11_isUpTo 5 = .ok (.iaload, 1) := by decide +kernel
theorem dX11_isUpTo_6 : decode cX11_isUpTo 6 = .ok (.aload_n 0, 1) := by decide +kernel
theorem dX11_isUpTo_7 : decode cX11_isUpTo 7 = .ok (.getfield 32, 3) := by decide +kernel
theorem dX11_isUpTo_10 : decode cX11_isUpTo 10 = .ok (.iload_n 2, 1) := by decide +kernel
theorem dX11_isUpTo_11 : decode cX11_isUpTo 11 = .ok (.iaload, 1) := by decide +kernel
theorem dX11_isUpTo_12 : decode cX11_isUpTo 12 = .ok (.if_icmp .lt 23, 3) := by decide +kernel
theorem dX11_isUpTo_15 : decode cX11_isUpTo 15 = .ok (.aload_n 0, 1) := by decide +kernel
theorem dX11_isUpTo_16 : decode cX11_isUpTo 16 = .ok (.getfield 32, 3) := by decide +kernel
theorem dX11_isUpTo_19 : decode cX11_isUpTo 19 = .ok (.iload_n 1, 1) := by decide +kernel
theorem dX11_isUpTo_20 : decode cX11_isUpTo 20 = .ok (.iaload, 1) := by decide +kernel
theorem dX11_isUpTo_21 : decode cX11_isUpTo 21 = .ok (.aload_n 0, 1) := by decide +kernel
theorem dX11_isUpTo_22 : decode cX11_isUpTo 22 = .ok (.getfield 32, 3) := by decide +kernel
theorem dX11_isUpTo_25 : decode cX11_isUpTo 25 = .ok (.iload_n 2, 1) := by decide +kernel
theorem dX11_isUpTo_26 : decode cX11_isUpTo 26 = .ok (.iaload, 1) := by decide +kernel
theorem dX11_isUpTo_27 : decode cX11_isUpTo 27 = .ok (.if_icmp .ne 12, 3) := by decide +kernel
theorem dX11_isUpTo_30 : decode cX11_isUpTo 30 = .ok (.iload_n 1, 1) := by decide +kernel
theorem dX11_isUpTo_31 : decode cX11_isUpTo 31 = .ok (.iload_n 2, 1) := by decide +kernel
theorem dX11_isUpTo_32 : decode cX11_isUpTo 32 = .ok (.if_icmp .gt 7, 3) := by decide +kernel
theorem dX11_isUpTo_35 : decode cX11_isUpTo 35 = .ok (.iconst 1, 1) := by decide +kernel
theorem dX11_isUpTo_36 : decode cX11_isUpTo 36 = .ok (.goto 4, 3) := by decide +kernel
theorem dX11_isUpTo_39 : decode cX11_isUpTo 39 = .ok (.iconst 0, 1) := by decide +kernel
theorem dX11_isUpTo_40 : decode cX11_isUpTo 40 = .ok (.ireturn, 1) := by decide +kernel
theorem dX11_fits_0 : decode cX11_fits 0 = .ok (.iconst 1, 1) := by decide +kernel
theorem dX11_fits_1 : decode cX11_fits 1 = .ok (.istore 4, 2) := by decide +kernel
theorem dX11_fits_3 : decode cX11_fits 3 = .ok (.iconst 0, 1) := by decide +kernel
theorem dX11_fits_4 : decode cX11_fits 4 = .ok (.istore 5, 2) := by decide +kernel
theorem dX11_fits_6 : decode cX11_fits 6 = .ok (.iload 5, 2) := by decide +kernel
theorem dX11_fits_8 : decode cX11_fits 8 = .ok (.aload_n 0, 1) := by decide +kernel
theorem dX11_fits_9 : decode cX11_fits 9 = .ok (.getfield 116, 3) := by decide +kernel
theorem dX11_fits_12 : decode cX11_fits 12 = .ok (.if_icmp .ge 56, 3) := by decide +kernel
theorem dX11_fits_15 : decode cX11_fits 15 = .ok (.iload 4, 2) := by decide +kernel
theorem dX11_fits_17 : decode cX11_fits 17 = .ok (.ifCond .eq 42, 3) := by decide +kernel
theorem dX11_fits_20 : decode cX11_fits 20 = .ok (.aload_n 0, 1) := by decide +kernel
theorem dX11_fits_21 : decode cX11_fits 21 = .ok (.getfield 32, 3) := by decide +kernel
theorem dX11_fits_24 : decode cX11_fits 24 = .ok (.iload 5, 2) := by decide +kernel
theorem dX11_fits_26 : decode cX11_fits 26 = .ok (.iaload, 1) := by decide +kernel
theorem dX11_fits_27 : decode cX11_fits 27 = .ok (.iload_n 2, 1) := by decide +kernel
theorem dX11_fits_28 : decode cX11_fits 28 = .ok (.if_icmp .ne 27, 3) := by decide +kernel
theorem dX11_fits_31 : decode cX11_fits 31 = .ok (.aload_n 0, 1) := by decide +kernel
theorem dX11_fits_32 : decode cX11_fits 32 = .ok (.iload 5, 2) := by decide +kernel
theorem dX11_fits_34 : decode cX11_fits 34 = .ok (.iload_n 3, 1) := by decide +kernel
theorem dX11_fits_35 : decode cX11_fits 35 = .ok (.invokevirtual 155, 3) := by decide +kernel
theorem dX11_fits_38 : decode cX11_fits 38 = .ok (.ifCond .eq 17, 3) := by decide +kernel
theorem dX11_fits_41 : decode cX11_fits 41 = .ok (.aload_n 0, 1) := by decide +kernel
theorem dX11_fits_42 : decode cX11_fits 42 = .ok (.getfield 29, 3) := by decide +kernel
theorem dX11_fits_45 : decode cX11_fits 45 = .ok (.iload 5, 2) := by decide +kernel
theorem dX11_fits_47 : decode cX11_fits 47 = .ok (.iaload, 1) := by decide +kernel
theorem dX11_fits_48 : decode cX11_fits 48 = .ok (.iload_n 1, 1) := by decide +kernel
theorem dX11_fits_49 : decode cX11_fits 49 = .ok (.invokestatic 132, 3) := by decide +kernel
theorem dX11_fits_52 : decode cX11_fits 52 = .ok (.if_icmp .ne 7, 3) := by decide +kernel
theorem dX11_fits_55 : decode cX11_fits 55 = .ok (.iconst 1, 1) := by decide +kernel
theorem dX11_fits_56 : decode cX11_fits 56 = .ok (.goto 4, 3) := by decide +kernel
theorem dX11_fits_59 : decode cX11_fits 59 = .ok (.iconst 0, 1) := by decide +kernel
theorem dX11_fits_60 : decode cX11_fits 60 = .ok (.istore 4, 2) := by decide +kernel
theorem dX11_fits_62 : decode cX11_fits 62 = .ok (.iinc 5 1, 3) := by decide +kernel
theorem dX11_fits_65 : decode cX11_fits 65 = .ok (.goto (-59), 3) := by decide +kernel
theorem dX11_fits_68 : decode cX11_fits 68 = .ok (.iload 4, 2) := by decide +kernel
theorem dX11_fits_70 : decode cX11_fits 70 = .ok (.ireturn, 1) := by decide +kernel
theorem dX11_costBy_0 : decode cX11_costBy 0 = .ok (.iload_n 3, 1) := by decide +kernel
theorem dX11_costBy_1 : decode cX11_costBy 1 = .ok (.ifCond .ge 7, 3) := by decide +kernel
theorem dX11_costBy_4 : decode cX11_costBy 4 = .ok (.iload_n 1, 1) := by decide +kernel
theorem dX11_costBy_5 : decode cX11_costBy 5 = .ok (.goto 9, 3) := by decide +kernel
theorem dX11_costBy_8 : decode cX11_costBy 8 = .ok (.aload_n 0, 1) := by decide +kernel
theorem dX11_costBy_9 : decode cX11_costBy 9 = .ok (.iload_n 1, 1) := by decide +kernel
theorem dX11_costBy_10 : decode cX11_costBy 10 = .ok (.iload_n 3, 1) := by decide +kernel
theorem dX11_costBy_11 : decode cX11_costBy 11 = .ok (.invokevirtual 145, 3) := by decide +kernel
theorem dX11_costBy_14 : decode cX11_costBy 14 = .ok (.istore 4, 2) := by decide +kernel
theorem dX11_costBy_16 : decode cX11_costBy 16 = .ok (.aload_n 0, 1) := by decide +kernel
theorem dX11_costBy_17 : decode cX11_costBy 17 = .ok (.getfield 35, 3) := by decide +kernel
theorem dX11_costBy_20 : decode cX11_costBy 20 = .ok (.aload_n 0, 1) := by decide +kernel
theorem dX11_costBy_21 : decode cX11_costBy 21 = .ok (.iload 4, 2) := by decide +kernel
theorem dX11_costBy_23 : decode cX11_costBy 23 = .ok (.aload_n 0, 1) := by decide +kernel
theorem dX11_costBy_24 : decode cX11_costBy 24 = .ok (.getfield 20, 3) := by decide +kernel
theorem dX11_costBy_27 : decode cX11_costBy 27 = .ok (.iconst 0, 1) := by decide +kernel
theorem dX11_costBy_28 : decode cX11_costBy 28 = .ok (.iaload, 1) := by decide +kernel
theorem dX11_costBy_29 : decode cX11_costBy 29 = .ok (.iload_n 2, 1) := by decide +kernel
theorem dX11_costBy_30 : decode cX11_costBy 30 = .ok (.iadd, 1) := by decide +kernel
theorem dX11_costBy_31 : decode cX11_costBy 31 = .ok (.iconst 1, 1) := by decide +kernel
theorem dX11_costBy_32 : decode cX11_costBy 32 = .ok (.iadd, 1) := by decide +kernel
theorem dX11_costBy_33 : decode cX11_costBy 33 = .ok (.invokevirtual 148, 3) := by decide +kernel
theorem dX11_costBy_36 : decode cX11_costBy 36 = .ok (.iaload, 1) := by decide +kernel
theorem dX11_costBy_37 : decode cX11_costBy 37 = .ok (.istore 5, 2) := by decide +kernel
theorem dX11_costBy_39 : decode cX11_costBy 39 = .ok (.iload 5, 2) := by decide +kernel
theorem dX11_costBy_41 : decode cX11_costBy 41 = .ok (.ldc 109, 2) := by decide +kernel
theorem dX11_costBy_43 : decode cX11_costBy 43 = .ok (.if_icmp .lt 8, 3) := by decide +kernel
theorem dX11_costBy_46 : decode cX11_costBy 46 = .ok (.ldc 109, 2) := by decide +kernel
theorem dX11_costBy_48 : decode cX11_costBy 48 = .ok (.goto 23, 3) := by decide +kernel
theorem dX11_costBy_51 : decode cX11_costBy 51 = .ok (.iload 5, 2) := by decide +kernel
theorem dX11_costBy_53 : decode cX11_costBy 53 = .ok (.iload_n 3, 1) := by decide +kernel
theorem dX11_costBy_54 : decode cX11_costBy 54 = .ok (.ifCond .ge 7, 3) := by decide +kernel
theorem dX11_costBy_57 : decode cX11_costBy 57 = .ok (.iconst 0, 1) := by decide +kernel
theorem dX11_costBy_58 : decode cX11_costBy 58 = .ok (.goto 12, 3) := by decide +kernel
theorem dX11_costBy_61 : decode cX11_costBy 61 = .ok (.aload_n 0, 1) := by decide +kernel
theorem dX11_costBy_62 : decode cX11_costBy 62 = .ok (.getfield 7, 3) := by decide +kernel
theorem dX11_costBy_65 : decode cX11_costBy 65 = .ok (.bipush 12, 2) := by decide +kernel
theorem dX11_costBy_67 : decode cX11_costBy 67 = .ok (.iload_n 3, 1) := by decide +kernel
theorem dX11_costBy_68 : decode cX11_costBy 68 = .ok (.iadd, 1) := by decide +kernel
theorem dX11_costBy_69 : decode cX11_costBy 69 = .ok (.iaload, 1) := by decide +kernel
theorem dX11_costBy_70 : decode cX11_costBy 70 = .ok (.iadd, 1) := by decide +kernel
theorem dX11_costBy_71 : decode cX11_costBy 71 = .ok (.ireturn, 1) := by decide +kernel
theorem dX11_leastOf_0 : decode cX11_leastOf 0 = .ok (.aload_n 0, 1) := by decide +kernel
theorem dX11_leastOf_1 : decode cX11_leastOf 1 = .ok (.iload_n 1, 1) := by decide +kernel
theorem dX11_leastOf_2 : decode cX11_leastOf 2 = .ok (.iload_n 2, 1) := by decide +kernel
theorem dX11_leastOf_3 : decode cX11_leastOf 3 = .ok (.iconst (-1), 1) := by decide +kernel
theorem dX11_leastOf_4 : decode cX11_leastOf 4 = .ok (.invokevirtual 159, 3) := by decide +kernel
theorem dX11_leastOf_7 : decode cX11_leastOf 7 = .ok (.istore_n 3, 1) := by decide +kernel
theorem dX11_leastOf_8 : decode cX11_leastOf 8 = .ok (.iconst 0, 1) := by decide +kernel
theorem dX11_leastOf_9 : decode cX11_leastOf 9 = .ok (.istore 4, 2) := by decide +kernel
theorem dX11_leastOf_11 : decode cX11_leastOf 11 = .ok (.iload 4, 2) := by decide +kernel
theorem dX11_leastOf_13 : decode cX11_leastOf 13 = .ok (.aload_n 0, 1) := by decide +kernel
theorem dX11_leastOf_14 : decode cX11_leastOf 14 = .ok (.getfield 7, 3) := by decide +kernel
theorem dX11_leastOf_17 : decode cX11_leastOf 17 = .ok (.iconst 1, 1) := by decide +kernel
theorem dX11_leastOf_18 : decode cX11_leastOf 18 = .ok (.iaload, 1) := by decide +kernel
theorem dX11_leastOf_19 : decode cX11_leastOf 19 = .ok (.if_icmp .ge 55, 3) := by decide +kernel
theorem dX11_leastOf_22 : decode cX11_leastOf 22 = .ok (.aload_n 0, 1) := by decide +kernel
theorem dX11_leastOf_23 : decode cX11_leastOf 23 = .ok (.iload_n 1, 1) := by decide +kernel
theorem dX11_leastOf_24 : decode cX11_leastOf 24 = .ok (.iload 4, 2) := by decide +kernel
theorem dX11_leastOf_26 : decode cX11_leastOf 26 = .ok (.aload_n 0, 1) := by decide +kernel
theorem dX11_leastOf_27 : decode cX11_leastOf 27 = .ok (.getfield 20, 3) := by decide +kernel
theorem dX11_leastOf_30 : decode cX11_leastOf 30 = .ok (.iconst 0, 1) := by decide +kernel
theorem dX11_leastOf_31 : decode cX11_leastOf 31 = .ok (.iaload, 1) := by decide +kernel
theorem dX11_leastOf_32 : decode cX11_leastOf 32 = .ok (.iload_n 2, 1) := by decide +kernel
theorem dX11_leastOf_33 : decode cX11_leastOf 33 = .ok (.iadd, 1) := by decide +kernel
theorem dX11_leastOf_34 : decode cX11_leastOf 34 = .ok (.invokevirtual 139, 3) := by decide +kernel
theorem dX11_leastOf_37 : decode cX11_leastOf 37 = .ok (.ifCond .eq 14, 3) := by decide +kernel
theorem dX11_leastOf_40 : decode cX11_leastOf 40 = .ok (.aload_n 0, 1) := by decide +kernel
theorem dX11_leastOf_41 : decode cX11_leastOf 41 = .ok (.iload_n 1, 1) := by decide +kernel
theorem dX11_leastOf_42 : decode cX11_leastOf 42 = .ok (.iload_n 2, 1) := by decide +kernel
theorem dX11_leastOf_43 : decode cX11_leastOf 43 = .ok (.iload 4, 2) := by decide +kernel
theorem dX11_leastOf_45 : decode cX11_leastOf 45 = .ok (.invokevirtual 159, 3) := by decide +kernel
theorem dX11_leastOf_48 : decode cX11_leastOf 48 = .ok (.goto 5, 3) := by decide +kernel
theorem dX11_leastOf_51 : decode cX11_leastOf 51 = .ok (.ldc 109, 2) := by decide +kernel
theorem dX11_leastOf_53 : decode cX11_leastOf 53 = .ok (.istore 5, 2) := by decide +kernel
theorem dX11_leastOf_55 : decode cX11_leastOf 55 = .ok (.iload 5, 2) := by decide +kernel
theorem dX11_leastOf_57 : decode cX11_leastOf 57 = .ok (.iload_n 3, 1) := by decide +kernel
theorem dX11_leastOf_58 : decode cX11_leastOf 58 = .ok (.if_icmp .ge 8, 3) := by decide +kernel
theorem dX11_leastOf_61 : decode cX11_leastOf 61 = .ok (.iload 5, 2) := by decide +kernel
theorem dX11_leastOf_63 : decode cX11_leastOf 63 = .ok (.goto 4, 3) := by decide +kernel
theorem dX11_leastOf_66 : decode cX11_leastOf 66 = .ok (.iload_n 3, 1) := by decide +kernel
theorem dX11_leastOf_67 : decode cX11_leastOf 67 = .ok (.istore_n 3, 1) := by decide +kernel
theorem dX11_leastOf_68 : decode cX11_leastOf 68 = .ok (.iinc 4 1, 3) := by decide +kernel
theorem dX11_leastOf_71 : decode cX11_leastOf 71 = .ok (.goto (-60), 3) := by decide +kernel
theorem dX11_leastOf_74 : decode cX11_leastOf 74 = .ok (.iload_n 3, 1) := by decide +kernel
theorem dX11_leastOf_75 : decode cX11_leastOf 75 = .ok (.ireturn, 1) := by decide +kernel
theorem dX11_isState_0 : decode cX11_isState 0 = .ok (.iload_n 1, 1) := by decide +kernel
theorem dX11_isState_1 : decode cX11_isState 1 = .ok (.bipush 48, 2) := by decide +kernel
theorem dX11_isState_3 : decode cX11_isState 3 = .ok (.idiv, 1) := by decide +kernel
theorem dX11_isState_4 : decode cX11_isState 4 = .ok (.istore_n 2, 1) := by decide +kernel
theorem dX11_isState_5 : decode cX11_isState 5 = .ok (.iload_n 1, 1) := by decide +kernel
theorem dX11_isState_6 : decode cX11_isState 6 = .ok (.invokestatic 136, 3) := by decide +kernel
theorem dX11_isState_9 : decode cX11_isState 9 = .ok (.ifCond .lt 12, 3) := by decide +kernel
theorem dX11_isState_12 : decode cX11_isState 12 = .ok (.aload_n 0, 1) := by decide +kernel
theorem dX11_isState_13 : decode cX11_isState 13 = .ok (.getfield 7, 3) := by decide +kernel
theorem dX11_isState_16 : decode cX11_isState 16 = .ok (.iconst 2, 1) := by decide +kernel
theorem dX11_isState_17 : decode cX11_isState 17 = .ok (.iaload, 1) := by decide +kernel
theorem dX11_isState_18 : decode cX11_isState 18 = .ok (.ifCond .ne 15, 3) := by decide +kernel
theorem dX11_isState_21 : decode cX11_isState 21 = .ok (.iload_n 2, 1) := by decide +kernel
theorem dX11_isState_22 : decode cX11_isState 22 = .ok (.ifCond .ne 7, 3) := by decide +kernel
theorem dX11_isState_25 : decode cX11_isState 25 = .ok (.iconst 1, 1) := by decide +kernel
theorem dX11_isState_26 : decode cX11_isState 26 = .ok (.goto 18, 3) := by decide +kernel
theorem dX11_isState_29 : decode cX11_isState 29 = .ok (.iconst 0, 1) := by decide +kernel
theorem dX11_isState_30 : decode cX11_isState 30 = .ok (.goto 14, 3) := by decide +kernel
theorem dX11_isState_33 : decode cX11_isState 33 = .ok (.iload_n 2, 1) := by decide +kernel
theorem dX11_isState_34 : decode cX11_isState 34 = .ok (.iconst 1, 1) := by decide +kernel
theorem dX11_isState_35 : decode cX11_isState 35 = .ok (.aload_n 0, 1) := by decide +kernel
theorem dX11_isState_36 : decode cX11_isState 36 = .ok (.getfield 7, 3) := by decide +kernel
theorem dX11_isState_39 : decode cX11_isState 39 = .ok (.iconst 2, 1) := by decide +kernel
theorem dX11_isState_40 : decode cX11_isState 40 = .ok (.iaload, 1) := by decide +kernel
theorem dX11_isState_41 : decode cX11_isState 41 = .ok (.invokestatic 68, 3) := by decide +kernel
theorem dX11_isState_44 : decode cX11_isState 44 = .ok (.istore_n 3, 1) := by decide +kernel
theorem dX11_isState_45 : decode cX11_isState 45 = .ok (.iload_n 1, 1) := by decide +kernel
theorem dX11_isState_46 : decode cX11_isState 46 = .ok (.invokestatic 132, 3) := by decide +kernel
theorem dX11_isState_49 : decode cX11_isState 49 = .ok (.aload_n 0, 1) := by decide +kernel
theorem dX11_isState_50 : decode cX11_isState 50 = .ok (.getfield 7, 3) := by decide +kernel
theorem dX11_isState_53 : decode cX11_isState 53 = .ok (.iconst 0, 1) := by decide +kernel
theorem dX11_isState_54 : decode cX11_isState 54 = .ok (.iaload, 1) := by decide +kernel
theorem dX11_isState_55 : decode cX11_isState 55 = .ok (.if_icmp .ge 24, 3) := by decide +kernel
theorem dX11_isState_58 : decode cX11_isState 58 = .ok (.iload_n 1, 1) := by decide +kernel
theorem dX11_isState_59 : decode cX11_isState 59 = .ok (.invokestatic 136, 3) := by decide +kernel
theorem dX11_isState_62 : decode cX11_isState 62 = .ok (.aload_n 0, 1) := by decide +kernel
theorem dX11_isState_63 : decode cX11_isState 63 = .ok (.getfield 7, 3) := by decide +kernel
theorem dX11_isState_66 : decode cX11_isState 66 = .ok (.iconst 1, 1) := by decide +kernel
theorem dX11_isState_67 : decode cX11_isState 67 = .ok (.iaload, 1) := by decide +kernel
theorem dX11_isState_68 : decode cX11_isState 68 = .ok (.if_icmp .ge 11, 3) := by decide +kernel
theorem dX11_isState_71 : decode cX11_isState 71 = .ok (.iload_n 3, 1) := by decide +kernel
theorem dX11_isState_72 : decode cX11_isState 72 = .ok (.ifCond .eq 7, 3) := by decide +kernel
theorem dX11_isState_75 : decode cX11_isState 75 = .ok (.iconst 1, 1) := by decide +kernel
theorem dX11_isState_76 : decode cX11_isState 76 = .ok (.goto 4, 3) := by decide +kernel
theorem dX11_isState_79 : decode cX11_isState 79 = .ok (.iconst 0, 1) := by decide +kernel
theorem dX11_isState_80 : decode cX11_isState 80 = .ok (.ireturn, 1) := by decide +kernel
theorem dX11_priceTo_0 : decode cX11_priceTo 0 = .ok (.iload_n 1, 1) := by decide +kernel
theorem dX11_priceTo_1 : decode cX11_priceTo 1 = .ok (.ifCond .ge 5, 3) := by decide +kernel
theorem dX11_priceTo_4 : decode cX11_priceTo 4 = .ok (.iconst 0, 1) := by decide +kernel
theorem dX11_priceTo_5 : decode cX11_priceTo 5 = .ok (.ireturn, 1) := by decide +kernel
theorem dX11_priceTo_6 : decode cX11_priceTo 6 = .ok (.aload_n 0, 1) := by decide +kernel
theorem dX11_priceTo_7 : decode cX11_priceTo 7 = .ok (.getfield 32, 3) := by decide +kernel
theorem dX11_priceTo_10 : decode cX11_priceTo 10 = .ok (.iload_n 1, 1) := by decide +kernel
theorem dX11_priceTo_11 : decode cX11_priceTo 11 = .ok (.iaload, 1) := by decide +kernel
theorem dX11_priceTo_12 : decode cX11_priceTo 12 = .ok (.istore_n 2, 1) := by decide +kernel
theorem dX11_priceTo_13 : decode cX11_priceTo 13 = .ok (.iconst 0, 1) := by decide +kernel
theorem dX11_priceTo_14 : decode cX11_priceTo 14 = .ok (.istore_n 3, 1) := by decide +kernel
theorem dX11_priceTo_15 : decode cX11_priceTo 15 = .ok (.iload_n 3, 1) := by decide +kernel
theorem dX11_priceTo_16 : decode cX11_priceTo 16 = .ok (.sipush 1008, 3) := by decide +kernel
theorem dX11_priceTo_19 : decode cX11_priceTo 19 = .ok (.if_icmp .ge 16, 3) := by decide +kernel
theorem dX11_priceTo_22 : decode cX11_priceTo 22 = .ok (.aload_n 0, 1) := by decide +kernel
theorem dX11_priceTo_23 : decode cX11_priceTo 23 = .ok (.getfield 35, 3) := by decide +kernel
theorem dX11_priceTo_26 : decode cX11_priceTo 26 = .ok (.iload_n 3, 1) := by decide +kernel
theorem dX11_priceTo_27 : decode cX11_priceTo 27 = .ok (.iconst 0, 1) := by decide +kernel
theorem dX11_priceTo_28 : decode cX11_priceTo 28 = .ok (.iastore, 1) := by decide +kernel
theorem dX11_priceTo_29 : decode cX11_priceTo 29 = .ok (.iinc 3 1, 3) := by decide +kernel
theorem dX11_priceTo_32 : decode cX11_priceTo 32 = .ok (.goto (-17), 3) := by decide +kernel
theorem dX11_priceTo_35 : decode cX11_priceTo 35 = .ok (.iload_n 2, 1) := by decide +kernel
theorem dX11_priceTo_36 : decode cX11_priceTo 36 = .ok (.istore_n 3, 1) := by decide +kernel
theorem dX11_priceTo_37 : decode cX11_priceTo 37 = .ok (.iload_n 3, 1) := by decide +kernel
theorem dX11_priceTo_38 : decode cX11_priceTo 38 = .ok (.ifCond .le 105, 3) := by decide +kernel
theorem dX11_priceTo_41 : decode cX11_priceTo 41 = .ok (.iconst 0, 1) := by decide +kernel
theorem dX11_priceTo_42 : decode cX11_priceTo 42 = .ok (.istore 4, 2) := by decide +kernel
theorem dX11_priceTo_44 : decode cX11_priceTo 44 = .ok (.iload 4, 2) := by decide +kernel
theorem dX11_priceTo_46 : decode cX11_priceTo 46 = .ok (.sipush 1008, 3) := by decide +kernel
theorem dX11_priceTo_49 : decode cX11_priceTo 49 = .ok (.if_icmp .ge 57, 3) := by decide +kernel
theorem dX11_priceTo_52 : decode cX11_priceTo 52 = .ok (.aload_n 0, 1) := by decide +kernel
theorem dX11_priceTo_53 : decode cX11_priceTo 53 = .ok (.getfield 38, 3) := by decide +kernel
theorem dX11_priceTo_56 : decode cX11_priceTo 56 = .ok (.iload 4, 2) := by decide +kernel
theorem dX11_priceTo_58 : decode cX11_priceTo 58 = .ok (.aload_n 0, 1) := by decide +kernel
theorem dX11_priceTo_59 : decode cX11_priceTo 59 = .ok (.iload 4, 2) := by decide +kernel
theorem dX11_priceTo_61 : decode cX11_priceTo 61 = .ok (.invokevirtual 162, 3) := by decide +kernel
theorem dX11_priceTo_64 : decode cX11_priceTo 64 = .ok (.ifCond .eq 33, 3) := by decide +kernel
theorem dX11_priceTo_67 : decode cX11_priceTo 67 = .ok (.aload_n 0, 1) := by decide +kernel
theorem dX11_priceTo_68 : decode cX11_priceTo 68 = .ok (.iload 4, 2) := by decide +kernel
theorem dX11_priceTo_70 : decode cX11_priceTo 70 = .ok (.iload_n 3, 1) := by decide +kernel
theorem dX11_priceTo_71 : decode cX11_priceTo 71 = .ok (.iload_n 1, 1) := by decide +kernel
theorem dX11_priceTo_72 : decode cX11_priceTo 72 = .ok (.invokevirtual 165, 3) := by decide +kernel
theorem dX11_priceTo_75 : decode cX11_priceTo 75 = .ok (.ifCond .eq 22, 3) := by decide +kernel
theorem dX11_priceTo_78 : decode cX11_priceTo 78 = .ok (.iload_n 3, 1) := by decide +kernel
theorem dX11_priceTo_79 : decode cX11_priceTo 79 = .ok (.iload_n 2, 1) := by decide +kernel
theorem dX11_priceTo_80 : decode cX11_priceTo 80 = .ok (.if_icmp .ne 7, 3) := by decide +kernel
theorem dX11_priceTo_83 : decode cX11_priceTo 83 = .ok (.iconst 0, 1) := by decide +kernel
theorem dX11_priceTo_84 : decode cX11_priceTo 84 = .ok (.goto 15, 3) := by decide +kernel
theorem dX11_priceTo_87 : decode cX11_priceTo 87 = .ok (.aload_n 0, 1) := by decide +kernel
theorem dX11_priceTo_88 : decode cX11_priceTo 88 = .ok (.iload 4, 2) := by decide +kernel
theorem dX11_priceTo_90 : decode cX11_priceTo 90 = .ok (.iload_n 3, 1) := by decide +kernel
theorem dX11_priceTo_91 : decode cX11_priceTo 91 = .ok (.invokevirtual 168, 3) := by decide +kernel
theorem dX11_priceTo_94 : decode cX11_priceTo 94 = .ok (.goto 5, 3) := by decide +kernel
theorem dX11_priceTo_97 : decode cX11_priceTo 97 = .ok (.ldc 109, 2) := by decide +kernel
theorem dX11_priceTo_99 : decode cX11_priceTo 99 = .ok (.iastore, 1) := by decide +kernel
theorem dX11_priceTo_100 : decode cX11_priceTo 100 = .ok (.iinc 4 1, 3) := by decide +kernel
theorem dX11_priceTo_103 : decode cX11_priceTo 103 = .ok (.goto (-59), 3) := by decide +kernel
theorem dX11_priceTo_106 : decode cX11_priceTo 106 = .ok (.iconst 0, 1) := by decide +kernel
theorem dX11_priceTo_107 : decode cX11_priceTo 107 = .ok (.istore 4, 2) := by decide +kernel
theorem dX11_priceTo_109 : decode cX11_priceTo 109 = .ok (.iload 4, 2) := by decide +kernel
end
section
theorem dX11_priceTo_111 : decode cX11_priceTo 111 = .ok (.sipush 1008, 3) := by decide +kernel
theorem dX11_priceTo_114 : decode cX11_priceTo 114 = .ok (.if_icmp .ge 23, 3) := by decide +kernel
theorem dX11_priceTo_117 : decode cX11_priceTo 117 = .ok (.aload_n 0, 1) := by decide +kernel
theorem dX11_priceTo_118 : decode cX11_priceTo 118 = .ok (.getfield 35, 3) := by decide +kernel
theorem dX11_priceTo_121 : decode cX11_priceTo 121 = .ok (.iload 4, 2) := by decide +kernel
theorem dX11_priceTo_123 : decode cX11_priceTo 123 = .ok (.aload_n 0, 1) := by decide +kernel
theorem dX11_priceTo_124 : decode cX11_priceTo 124 = .ok (.getfield 38, 3) := by decide +kernel
theorem dX11_priceTo_127 : decode cX11_priceTo 127 = .ok (.iload 4, 2) := by decide +kernel
theorem dX11_priceTo_129 : decode cX11_priceTo 129 = .ok (.iaload, 1) := by decide +kernel
theorem dX11_priceTo_130 : decode cX11_priceTo 130 = .ok (.iastore, 1) := by decide +kernel
theorem dX11_priceTo_131 : decode cX11_priceTo 131 = .ok (.iinc 4 1, 3) := by decide +kernel
theorem dX11_priceTo_134 : decode cX11_priceTo 134 = .ok (.goto (-25), 3) := by decide +kernel
theorem dX11_priceTo_137 : decode cX11_priceTo 137 = .ok (.iinc 3 (-1), 3) := by decide +kernel
theorem dX11_priceTo_140 : decode cX11_priceTo 140 = .ok (.goto (-103), 3) := by decide +kernel
theorem dX11_priceTo_143 : decode cX11_priceTo 143 = .ok (.aload_n 0, 1) := by decide +kernel
theorem dX11_priceTo_144 : decode cX11_priceTo 144 = .ok (.aload_n 0, 1) := by decide +kernel
theorem dX11_priceTo_145 : decode cX11_priceTo 145 = .ok (.getfield 20, 3) := by decide +kernel
theorem dX11_priceTo_148 : decode cX11_priceTo 148 = .ok (.iconst 1, 1) := by decide +kernel
theorem dX11_priceTo_149 : decode cX11_priceTo 149 = .ok (.iaload, 1) := by decide +kernel
theorem dX11_priceTo_150 : decode cX11_priceTo 150 = .ok (.iconst 0, 1) := by decide +kernel
theorem dX11_priceTo_151 : decode cX11_priceTo 151 = .ok (.iload_n 1, 1) := by decide +kernel
theorem dX11_priceTo_152 : decode cX11_priceTo 152 = .ok (.invokevirtual 165, 3) := by decide +kernel
theorem dX11_priceTo_155 : decode cX11_priceTo 155 = .ok (.ifCond .ne 8, 3) := by decide +kernel
theorem dX11_priceTo_158 : decode cX11_priceTo 158 = .ok (.ldc 109, 2) := by decide +kernel
theorem dX11_priceTo_160 : decode cX11_priceTo 160 = .ok (.goto 22, 3) := by decide +kernel
theorem dX11_priceTo_163 : decode cX11_priceTo 163 = .ok (.iload_n 2, 1) := by decide +kernel
theorem dX11_priceTo_164 : decode cX11_priceTo 164 = .ok (.ifCond .ne 7, 3) := by decide +kernel
theorem dX11_priceTo_167 : decode cX11_priceTo 167 = .ok (.iconst 0, 1) := by decide +kernel
theorem dX11_priceTo_168 : decode cX11_priceTo 168 = .ok (.goto 14, 3) := by decide +kernel
theorem dX11_priceTo_171 : decode cX11_priceTo 171 = .ok (.aload_n 0, 1) := by decide +kernel
theorem dX11_priceTo_172 : decode cX11_priceTo 172 = .ok (.aload_n 0, 1) := by decide +kernel
theorem dX11_priceTo_173 : decode cX11_priceTo 173 = .ok (.getfield 20, 3) := by decide +kernel
theorem dX11_priceTo_176 : decode cX11_priceTo 176 = .ok (.iconst 1, 1) := by decide +kernel
theorem dX11_priceTo_177 : decode cX11_priceTo 177 = .ok (.iaload, 1) := by decide +kernel
theorem dX11_priceTo_178 : decode cX11_priceTo 178 = .ok (.iconst 0, 1) := by decide +kernel
theorem dX11_priceTo_179 : decode cX11_priceTo 179 = .ok (.invokevirtual 168, 3) := by decide +kernel
theorem dX11_priceTo_182 : decode cX11_priceTo 182 = .ok (.ireturn, 1) := by decide +kernel
theorem dX11_lastGoal_0 : decode cX11_lastGoal 0 = .ok (.iconst (-1), 1) := by decide +kernel
theorem dX11_lastGoal_1 : decode cX11_lastGoal 1 = .ok (.istore_n 1, 1) := by decide +kernel
theorem dX11_lastGoal_2 : decode cX11_lastGoal 2 = .ok (.iconst 0, 1) := by decide +kernel
theorem dX11_lastGoal_3 : decode cX11_lastGoal 3 = .ok (.istore_n 2, 1) := by decide +kernel
theorem dX11_lastGoal_4 : decode cX11_lastGoal 4 = .ok (.iload_n 2, 1) := by decide +kernel
theorem dX11_lastGoal_5 : decode cX11_lastGoal 5 = .ok (.aload_n 0, 1) := by decide +kernel
theorem dX11_lastGoal_6 : decode cX11_lastGoal 6 = .ok (.getfield 116, 3) := by decide +kernel
theorem dX11_lastGoal_9 : decode cX11_lastGoal 9 = .ok (.if_icmp .ge 28, 3) := by decide +kernel
theorem dX11_lastGoal_12 : decode cX11_lastGoal 12 = .ok (.iload_n 1, 1) := by decide +kernel
theorem dX11_lastGoal_13 : decode cX11_lastGoal 13 = .ok (.ifCond .lt 12, 3) := by decide +kernel
theorem dX11_lastGoal_16 : decode cX11_lastGoal 16 = .ok (.aload_n 0, 1) := by decide +kernel
theorem dX11_lastGoal_17 : decode cX11_lastGoal 17 = .ok (.iload_n 1, 1) := by decide +kernel
theorem dX11_lastGoal_18 : decode cX11_lastGoal 18 = .ok (.iload_n 2, 1) := by decide +kernel
theorem dX11_lastGoal_19 : decode cX11_lastGoal 19 = .ok (.invokevirtual 155, 3) := by decide +kernel
theorem dX11_lastGoal_22 : decode cX11_lastGoal 22 = .ok (.ifCond .eq 7, 3) := by decide +kernel
theorem dX11_lastGoal_25 : decode cX11_lastGoal 25 = .ok (.iload_n 2, 1) := by decide +kernel
theorem dX11_lastGoal_26 : decode cX11_lastGoal 26 = .ok (.goto 4, 3) := by decide +kernel
theorem dX11_lastGoal_29 : decode cX11_lastGoal 29 = .ok (.iload_n 1, 1) := by decide +kernel
theorem dX11_lastGoal_30 : decode cX11_lastGoal 30 = .ok (.istore_n 1, 1) := by decide +kernel
theorem dX11_lastGoal_31 : decode cX11_lastGoal 31 = .ok (.iinc 2 1, 3) := by decide +kernel
theorem dX11_lastGoal_34 : decode cX11_lastGoal 34 = .ok (.goto (-30), 3) := by decide +kernel
theorem dX11_lastGoal_37 : decode cX11_lastGoal 37 = .ok (.iload_n 1, 1) := by decide +kernel
theorem dX11_lastGoal_38 : decode cX11_lastGoal 38 = .ok (.ireturn, 1) := by decide +kernel
theorem dX11_price_0 : decode cX11_price 0 = .ok (.aload_n 0, 1) := by decide +kernel
theorem dX11_price_1 : decode cX11_price 1 = .ok (.aload_n 0, 1) := by decide +kernel
theorem dX11_price_2 : decode cX11_price 2 = .ok (.invokevirtual 171, 3) := by decide +kernel
theorem dX11_price_5 : decode cX11_price 5 = .ok (.invokevirtual 174, 3) := by decide +kernel
theorem dX11_price_8 : decode cX11_price 8 = .ok (.istore_n 1, 1) := by decide +kernel
theorem dX11_price_9 : decode cX11_price 9 = .ok (.iload_n 1, 1) := by decide +kernel
theorem dX11_price_10 : decode cX11_price 10 = .ok (.ldc 109, 2) := by decide +kernel
theorem dX11_price_12 : decode cX11_price 12 = .ok (.if_icmp .lt 8, 3) := by decide +kernel
theorem dX11_price_15 : decode cX11_price 15 = .ok (.bipush (-4), 2) := by decide +kernel
theorem dX11_price_17 : decode cX11_price 17 = .ok (.goto 4, 3) := by decide +kernel
theorem dX11_price_20 : decode cX11_price 20 = .ok (.iload_n 1, 1) := by decide +kernel
theorem dX11_price_21 : decode cX11_price 21 = .ok (.ireturn, 1) := by decide +kernel
theorem dX11_first_0 : decode cX11_first 0 = .ok (.aload_n 0, 1) := by decide +kernel
theorem dX11_first_1 : decode cX11_first 1 = .ok (.invokevirtual 171, 3) := by decide +kernel
theorem dX11_first_4 : decode cX11_first 4 = .ok (.istore_n 1, 1) := by decide +kernel
theorem dX11_first_5 : decode cX11_first 5 = .ok (.aload_n 0, 1) := by decide +kernel
theorem dX11_first_6 : decode cX11_first 6 = .ok (.iload_n 1, 1) := by decide +kernel
theorem dX11_first_7 : decode cX11_first 7 = .ok (.invokevirtual 174, 3) := by decide +kernel
theorem dX11_first_10 : decode cX11_first 10 = .ok (.istore_n 2, 1) := by decide +kernel
theorem dX11_first_11 : decode cX11_first 11 = .ok (.iload_n 2, 1) := by decide +kernel
theorem dX11_first_12 : decode cX11_first 12 = .ok (.ldc 109, 2) := by decide +kernel
theorem dX11_first_14 : decode cX11_first 14 = .ok (.if_icmp .ge 32, 3) := by decide +kernel
theorem dX11_first_17 : decode cX11_first 17 = .ok (.iload_n 1, 1) := by decide +kernel
theorem dX11_first_18 : decode cX11_first 18 = .ok (.ifCond .lt 28, 3) := by decide +kernel
theorem dX11_first_21 : decode cX11_first 21 = .ok (.aload_n 0, 1) := by decide +kernel
theorem dX11_first_22 : decode cX11_first 22 = .ok (.getfield 32, 3) := by decide +kernel
theorem dX11_first_25 : decode cX11_first 25 = .ok (.iload_n 1, 1) := by decide +kernel
theorem dX11_first_26 : decode cX11_first 26 = .ok (.iaload, 1) := by decide +kernel
theorem dX11_first_27 : decode cX11_first 27 = .ok (.ifCond .eq 19, 3) := by decide +kernel
theorem dX11_first_30 : decode cX11_first 30 = .ok (.aload_n 0, 1) := by decide +kernel
theorem dX11_first_31 : decode cX11_first 31 = .ok (.aload_n 0, 1) := by decide +kernel
theorem dX11_first_32 : decode cX11_first 32 = .ok (.getfield 20, 3) := by decide +kernel
theorem dX11_first_35 : decode cX11_first 35 = .ok (.iconst 1, 1) := by decide +kernel
theorem dX11_first_36 : decode cX11_first 36 = .ok (.iaload, 1) := by decide +kernel
theorem dX11_first_37 : decode cX11_first 37 = .ok (.iconst 0, 1) := by decide +kernel
theorem dX11_first_38 : decode cX11_first 38 = .ok (.iconst (-1), 1) := by decide +kernel
theorem dX11_first_39 : decode cX11_first 39 = .ok (.invokevirtual 159, 3) := by decide +kernel
theorem dX11_first_42 : decode cX11_first 42 = .ok (.iload_n 2, 1) := by decide +kernel
theorem dX11_first_43 : decode cX11_first 43 = .ok (.if_icmp .ne 6, 3) := by decide +kernel
theorem dX11_first_46 : decode cX11_first 46 = .ok (.bipush (-4), 2) := by decide +kernel
theorem dX11_first_48 : decode cX11_first 48 = .ok (.ireturn, 1) := by decide +kernel
theorem dX11_first_49 : decode cX11_first 49 = .ok (.iconst 0, 1) := by decide +kernel
theorem dX11_first_50 : decode cX11_first 50 = .ok (.istore_n 3, 1) := by decide +kernel
theorem dX11_first_51 : decode cX11_first 51 = .ok (.aload_n 0, 1) := by decide +kernel
theorem dX11_first_52 : decode cX11_first 52 = .ok (.aload_n 0, 1) := by decide +kernel
theorem dX11_first_53 : decode cX11_first 53 = .ok (.getfield 20, 3) := by decide +kernel
theorem dX11_first_56 : decode cX11_first 56 = .ok (.iconst 1, 1) := by decide +kernel
theorem dX11_first_57 : decode cX11_first 57 = .ok (.iaload, 1) := by decide +kernel
theorem dX11_first_58 : decode cX11_first 58 = .ok (.iload_n 3, 1) := by decide +kernel
theorem dX11_first_59 : decode cX11_first 59 = .ok (.aload_n 0, 1) := by decide +kernel
theorem dX11_first_60 : decode cX11_first 60 = .ok (.getfield 20, 3) := by decide +kernel
theorem dX11_first_63 : decode cX11_first 63 = .ok (.iconst 0, 1) := by decide +kernel
theorem dX11_first_64 : decode cX11_first 64 = .ok (.iaload, 1) := by decide +kernel
theorem dX11_first_65 : decode cX11_first 65 = .ok (.invokevirtual 139, 3) := by decide +kernel
theorem dX11_first_68 : decode cX11_first 68 = .ok (.ifCond .eq 19, 3) := by decide +kernel
theorem dX11_first_71 : decode cX11_first 71 = .ok (.aload_n 0, 1) := by decide +kernel
theorem dX11_first_72 : decode cX11_first 72 = .ok (.aload_n 0, 1) := by decide +kernel
theorem dX11_first_73 : decode cX11_first 73 = .ok (.getfield 20, 3) := by decide +kernel
theorem dX11_first_76 : decode cX11_first 76 = .ok (.iconst 1, 1) := by decide +kernel
theorem dX11_first_77 : decode cX11_first 77 = .ok (.iaload, 1) := by decide +kernel
theorem dX11_first_78 : decode cX11_first 78 = .ok (.iconst 0, 1) := by decide +kernel
theorem dX11_first_79 : decode cX11_first 79 = .ok (.iload_n 3, 1) := by decide +kernel
theorem dX11_first_80 : decode cX11_first 80 = .ok (.invokevirtual 159, 3) := by decide +kernel
theorem dX11_first_83 : decode cX11_first 83 = .ok (.iload_n 2, 1) := by decide +kernel
theorem dX11_first_84 : decode cX11_first 84 = .ok (.if_icmp .eq 9, 3) := by decide +kernel
theorem dX11_first_87 : decode cX11_first 87 = .ok (.iinc 3 1, 3) := by decide +kernel
theorem dX11_first_90 : decode cX11_first 90 = .ok (.goto (-39), 3) := by decide +kernel
theorem dX11_first_93 : decode cX11_first 93 = .ok (.iload_n 3, 1) := by decide +kernel
theorem dX11_first_94 : decode cX11_first 94 = .ok (.ireturn, 1) := by decide +kernel
theorem dX11_bars_0 : decode cX11_bars 0 = .ok (.bipush (-4), 2) := by decide +kernel
theorem dX11_bars_2 : decode cX11_bars 2 = .ok (.istore_n 1, 1) := by decide +kernel
theorem dX11_bars_3 : decode cX11_bars 3 = .ok (.iconst 0, 1) := by decide +kernel
theorem dX11_bars_4 : decode cX11_bars 4 = .ok (.istore_n 2, 1) := by decide +kernel
theorem dX11_bars_5 : decode cX11_bars 5 = .ok (.iload_n 2, 1) := by decide +kernel
theorem dX11_bars_6 : decode cX11_bars 6 = .ok (.aload_n 0, 1) := by decide +kernel
theorem dX11_bars_7 : decode cX11_bars 7 = .ok (.getfield 116, 3) := by decide +kernel
theorem dX11_bars_10 : decode cX11_bars 10 = .ok (.if_icmp .ge 36, 3) := by decide +kernel
theorem dX11_bars_13 : decode cX11_bars 13 = .ok (.aload_n 0, 1) := by decide +kernel
theorem dX11_bars_14 : decode cX11_bars 14 = .ok (.iload_n 2, 1) := by decide +kernel
theorem dX11_bars_15 : decode cX11_bars 15 = .ok (.invokevirtual 174, 3) := by decide +kernel
theorem dX11_bars_18 : decode cX11_bars 18 = .ok (.ldc 109, 2) := by decide +kernel
theorem dX11_bars_20 : decode cX11_bars 20 = .ok (.if_icmp .lt 20, 3) := by decide +kernel
theorem dX11_bars_23 : decode cX11_bars 23 = .ok (.iload_n 1, 1) := by decide +kernel
theorem dX11_bars_24 : decode cX11_bars 24 = .ok (.bipush (-4), 2) := by decide +kernel
theorem dX11_bars_26 : decode cX11_bars 26 = .ok (.if_icmp .eq 12, 3) := by decide +kernel
theorem dX11_bars_29 : decode cX11_bars 29 = .ok (.aload_n 0, 1) := by decide +kernel
theorem dX11_bars_30 : decode cX11_bars 30 = .ok (.iload_n 2, 1) := by decide +kernel
theorem dX11_bars_31 : decode cX11_bars 31 = .ok (.iload_n 1, 1) := by decide +kernel
theorem dX11_bars_32 : decode cX11_bars 32 = .ok (.invokevirtual 155, 3) := by decide +kernel
theorem dX11_bars_35 : decode cX11_bars 35 = .ok (.ifCond .eq 5, 3) := by decide +kernel
theorem dX11_bars_38 : decode cX11_bars 38 = .ok (.iload_n 2, 1) := by decide +kernel
theorem dX11_bars_39 : decode cX11_bars 39 = .ok (.istore_n 1, 1) := by decide +kernel
theorem dX11_bars_40 : decode cX11_bars 40 = .ok (.iinc 2 1, 3) := by decide +kernel
theorem dX11_bars_43 : decode cX11_bars 43 = .ok (.goto (-38), 3) := by decide +kernel
theorem dX11_bars_46 : decode cX11_bars 46 = .ok (.iload_n 1, 1) := by decide +kernel
theorem dX11_bars_47 : decode cX11_bars 47 = .ok (.ireturn, 1) := by decide +kernel
theorem dX11_isWonBy_0 : decode cX11_isWonBy 0 = .ok (.aload_n 0, 1) := by decide +kernel
theorem dX11_isWonBy_1 : decode cX11_isWonBy 1 = .ok (.getfield 41, 3) := by decide +kernel
theorem dX11_isWonBy_4 : decode cX11_isWonBy 4 = .ok (.aload_n 0, 1) := by decide +kernel
theorem dX11_isWonBy_5 : decode cX11_isWonBy 5 = .ok (.iload_n 3, 1) := by decide +kernel
theorem dX11_isWonBy_6 : decode cX11_isWonBy 6 = .ok (.ifCond .ge 7, 3) := by decide +kernel
theorem dX11_isWonBy_9 : decode cX11_isWonBy 9 = .ok (.iload_n 1, 1) := by decide +kernel
theorem dX11_isWonBy_10 : decode cX11_isWonBy 10 = .ok (.goto 9, 3) := by decide +kernel
theorem dX11_isWonBy_13 : decode cX11_isWonBy 13 = .ok (.aload_n 0, 1) := by decide +kernel
theorem dX11_isWonBy_14 : decode cX11_isWonBy 14 = .ok (.iload_n 1, 1) := by decide +kernel
theorem dX11_isWonBy_15 : decode cX11_isWonBy 15 = .ok (.iload_n 3, 1) := by decide +kernel
theorem dX11_isWonBy_16 : decode cX11_isWonBy 16 = .ok (.invokevirtual 145, 3) := by decide +kernel
theorem dX11_isWonBy_19 : decode cX11_isWonBy 19 = .ok (.aload_n 0, 1) := by decide +kernel
theorem dX11_isWonBy_20 : decode cX11_isWonBy 20 = .ok (.getfield 20, 3) := by decide +kernel
theorem dX11_isWonBy_23 : decode cX11_isWonBy 23 = .ok (.iconst 0, 1) := by decide +kernel
theorem dX11_isWonBy_24 : decode cX11_isWonBy 24 = .ok (.iaload, 1) := by decide +kernel
theorem dX11_isWonBy_25 : decode cX11_isWonBy 25 = .ok (.iload_n 2, 1) := by decide +kernel
theorem dX11_isWonBy_26 : decode cX11_isWonBy 26 = .ok (.iadd, 1) := by decide +kernel
theorem dX11_isWonBy_27 : decode cX11_isWonBy 27 = .ok (.iconst 1, 1) := by decide +kernel
theorem dX11_isWonBy_28 : decode cX11_isWonBy 28 = .ok (.iadd, 1) := by decide +kernel
theorem dX11_isWonBy_29 : decode cX11_isWonBy 29 = .ok (.invokevirtual 148, 3) := by decide +kernel
theorem dX11_isWonBy_32 : decode cX11_isWonBy 32 = .ok (.baload, 1) := by decide +kernel
theorem dX11_isWonBy_33 : decode cX11_isWonBy 33 = .ok (.ireturn, 1) := by decide +kernel
theorem dX11_canWin_0 : decode cX11_canWin 0 = .ok (.iload_n 2, 1) := by decide +kernel
theorem dX11_canWin_1 : decode cX11_canWin 1 = .ok (.iconst 2, 1) := by decide +kernel
theorem dX11_canWin_2 : decode cX11_canWin 2 = .ok (.irem, 1) := by decide +kernel
theorem dX11_canWin_3 : decode cX11_canWin 3 = .ok (.ifCond .ne 7, 3) := by decide +kernel
theorem dX11_canWin_6 : decode cX11_canWin 6 = .ok (.iconst 1, 1) := by decide +kernel
theorem dX11_canWin_7 : decode cX11_canWin 7 = .ok (.goto 4, 3) := by decide +kernel
theorem dX11_canWin_10 : decode cX11_canWin 10 = .ok (.iconst 0, 1) := by decide +kernel
theorem dX11_canWin_11 : decode cX11_canWin 11 = .ok (.istore 4, 2) := by decide +kernel
theorem dX11_canWin_13 : decode cX11_canWin 13 = .ok (.aload_n 0, 1) := by decide +kernel
theorem dX11_canWin_14 : decode cX11_canWin 14 = .ok (.iload_n 1, 1) := by decide +kernel
theorem dX11_canWin_15 : decode cX11_canWin 15 = .ok (.iload_n 2, 1) := by decide +kernel
theorem dX11_canWin_16 : decode cX11_canWin 16 = .ok (.iconst (-1), 1) := by decide +kernel
theorem dX11_canWin_17 : decode cX11_canWin 17 = .ok (.invokevirtual 177, 3) := by decide +kernel
theorem dX11_canWin_20 : decode cX11_canWin 20 = .ok (.istore 5, 2) := by decide +kernel
theorem dX11_canWin_22 : decode cX11_canWin 22 = .ok (.iconst 0, 1) := by decide +kernel
theorem dX11_canWin_23 : decode cX11_canWin 23 = .ok (.istore 6, 2) := by decide +kernel
theorem dX11_canWin_25 : decode cX11_canWin 25 = .ok (.iload 6, 2) := by decide +kernel
theorem dX11_canWin_27 : decode cX11_canWin 27 = .ok (.aload_n 0, 1) := by decide +kernel
theorem dX11_canWin_28 : decode cX11_canWin 28 = .ok (.getfield 7, 3) := by decide +kernel
theorem dX11_canWin_31 : decode cX11_canWin 31 = .ok (.iconst 1, 1) := by decide +kernel
theorem dX11_canWin_32 : decode cX11_canWin 32 = .ok (.iaload, 1) := by decide +kernel
theorem dX11_canWin_33 : decode cX11_canWin 33 = .ok (.if_icmp .ge 98, 3) := by decide +kernel
theorem dX11_canWin_36 : decode cX11_canWin 36 = .ok (.iload_n 3, 1) := by decide +kernel
theorem dX11_canWin_37 : decode cX11_canWin 37 = .ok (.iload 6, 2) := by decide +kernel
theorem dX11_canWin_39 : decode cX11_canWin 39 = .ok (.ishr, 1) := by decide +kernel
theorem dX11_canWin_40 : decode cX11_canWin 40 = .ok (.iconst 1, 1) := by decide +kernel
theorem dX11_canWin_41 : decode cX11_canWin 41 = .ok (.iand, 1) := by decide +kernel
theorem dX11_canWin_42 : decode cX11_canWin 42 = .ok (.iload 4, 2) := by decide +kernel
theorem dX11_canWin_44 : decode cX11_canWin 44 = .ok (.ifCond .eq 7, 3) := by decide +kernel
theorem dX11_canWin_47 : decode cX11_canWin 47 = .ok (.iconst 1, 1) := by decide +kernel
theorem dX11_canWin_48 : decode cX11_canWin 48 = .ok (.goto 4, 3) := by decide +kernel
theorem dX11_canWin_51 : decode cX11_canWin 51 = .ok (.iconst 0, 1) := by decide +kernel
theorem dX11_canWin_52 : decode cX11_canWin 52 = .ok (.if_icmp .ne 73, 3) := by decide +kernel
theorem dX11_canWin_55 : decode cX11_canWin 55 = .ok (.aload_n 0, 1) := by decide +kernel
theorem dX11_canWin_56 : decode cX11_canWin 56 = .ok (.iload_n 1, 1) := by decide +kernel
theorem dX11_canWin_57 : decode cX11_canWin 57 = .ok (.iload 6, 2) := by decide +kernel
theorem dX11_canWin_59 : decode cX11_canWin 59 = .ok (.aload_n 0, 1) := by decide +kernel
theorem dX11_canWin_60 : decode cX11_canWin 60 = .ok (.getfield 20, 3) := by decide +kernel
theorem dX11_canWin_63 : decode cX11_canWin 63 = .ok (.iconst 0, 1) := by decide +kernel
theorem dX11_canWin_64 : decode cX11_canWin 64 = .ok (.iaload, 1) := by decide +kernel
theorem dX11_canWin_65 : decode cX11_canWin 65 = .ok (.iload_n 2, 1) := by decide +kernel
theorem dX11_canWin_66 : decode cX11_canWin 66 = .ok (.iadd, 1) := by decide +kernel
theorem dX11_canWin_67 : decode cX11_canWin 67 = .ok (.invokevirtual 139, 3) := by decide +kernel
theorem dX11_canWin_70 : decode cX11_canWin 70 = .ok (.ifCond .eq 55, 3) := by decide +kernel
theorem dX11_canWin_73 : decode cX11_canWin 73 = .ok (.iload 4, 2) := by decide +kernel
theorem dX11_canWin_75 : decode cX11_canWin 75 = .ok (.ifCond .eq 27, 3) := by decide +kernel
theorem dX11_canWin_78 : decode cX11_canWin 78 = .ok (.iload 5, 2) := by decide +kernel
theorem dX11_canWin_80 : decode cX11_canWin 80 = .ok (.ifCond .ne 14, 3) := by decide +kernel
theorem dX11_canWin_83 : decode cX11_canWin 83 = .ok (.aload_n 0, 1) := by decide +kernel
theorem dX11_canWin_84 : decode cX11_canWin 84 = .ok (.iload_n 1, 1) := by decide +kernel
theorem dX11_canWin_85 : decode cX11_canWin 85 = .ok (.iload_n 2, 1) := by decide +kernel
theorem dX11_canWin_86 : decode cX11_canWin 86 = .ok (.iload 6, 2) := by decide +kernel
theorem dX11_canWin_88 : decode cX11_canWin 88 = .ok (.invokevirtual 177, 3) := by decide +kernel
theorem dX11_canWin_91 : decode cX11_canWin 91 = .ok (.ifCond .eq 7, 3) := by decide +kernel
theorem dX11_canWin_94 : decode cX11_canWin 94 = .ok (.iconst 1, 1) := by decide +kernel
theorem dX11_canWin_95 : decode cX11_canWin 95 = .ok (.goto 28, 3) := by decide +kernel
theorem dX11_canWin_98 : decode cX11_canWin 98 = .ok (.iconst 0, 1) := by decide +kernel
theorem dX11_canWin_99 : decode cX11_canWin 99 = .ok (.goto 24, 3) := by decide +kernel
theorem dX11_canWin_102 : decode cX11_canWin 102 = .ok (.iload 5, 2) := by decide +kernel
theorem dX11_canWin_104 : decode cX11_canWin 104 = .ok (.ifCond .eq 18, 3) := by decide +kernel
theorem dX11_canWin_107 : decode cX11_canWin 107 = .ok (.aload_n 0, 1) := by decide +kernel
theorem dX11_canWin_108 : decode cX11_canWin 108 = .ok (.iload_n 1, 1) := by decide +kernel
theorem dX11_canWin_109 : decode cX11_canWin 109 = .ok (.iload_n 2, 1) := by decide +kernel
theorem dX11_canWin_110 : decode cX11_canWin 110 = .ok (.iload 6, 2) := by decide +kernel
theorem dX11_canWin_112 : decode cX11_canWin 112 = .ok (.invokevirtual 177, 3) := by decide +kernel
theorem dX11_canWin_115 : decode cX11_canWin 115 = .ok (.ifCond .eq 7, 3) := by decide +kernel
theorem dX11_canWin_118 : decode cX11_canWin 118 = .ok (.iconst 1, 1) := by decide +kernel
theorem dX11_canWin_119 : decode cX11_canWin 119 = .ok (.goto 4, 3) := by decide +kernel
theorem dX11_canWin_122 : decode cX11_canWin 122 = .ok (.iconst 0, 1) := by decide +kernel
theorem dX11_canWin_123 : decode cX11_canWin 123 = .ok (.istore 5, 2) := by decide +kernel
theorem dX11_canWin_125 : decode cX11_canWin 125 = .ok (.iinc 6 1, 3) := by decide +kernel
theorem dX11_canWin_128 : decode cX11_canWin 128 = .ok (.goto (-103), 3) := by decide +kernel
theorem dX11_canWin_131 : decode cX11_canWin 131 = .ok (.iload 5, 2) := by decide +kernel
theorem dX11_canWin_133 : decode cX11_canWin 133 = .ok (.ireturn, 1) := by decide +kernel
theorem dX11_game_0 : decode cX11_game 0 = .ok (.iload_n 1, 1) := by decide +kernel
theorem dX11_game_1 : decode cX11_game 1 = .ok (.iconst 1, 1) := by decide +kernel
theorem dX11_game_2 : decode cX11_game 2 = .ok (.bipush 12, 2) := by decide +kernel
theorem dX11_game_4 : decode cX11_game 4 = .ok (.invokestatic 68, 3) := by decide +kernel
theorem dX11_game_7 : decode cX11_game 7 = .ok (.ifCond .eq 39, 3) := by decide +kernel
theorem dX11_game_10 : decode cX11_game 10 = .ok (.aload_n 0, 1) := by decide +kernel
theorem dX11_game_11 : decode cX11_game 11 = .ok (.iload_n 2, 1) := by decide +kernel
theorem dX11_game_12 : decode cX11_game 12 = .ok (.invokevirtual 122, 3) := by decide +kernel
theorem dX11_game_15 : decode cX11_game 15 = .ok (.ifCond .eq 31, 3) := by decide +kernel
theorem dX11_game_18 : decode cX11_game 18 = .ok (.iload_n 3, 1) := by decide +kernel
theorem dX11_game_19 : decode cX11_game 19 = .ok (.iconst 0, 1) := by decide +kernel
theorem dX11_game_20 : decode cX11_game 20 = .ok (.iconst 1, 1) := by decide +kernel
theorem dX11_game_21 : decode cX11_game 21 = .ok (.aload_n 0, 1) := by decide +kernel
theorem dX11_game_22 : decode cX11_game 22 = .ok (.getfield 7, 3) := by decide +kernel
theorem dX11_game_25 : decode cX11_game 25 = .ok (.iconst 1, 1) := by decide +kernel
theorem dX11_game_26 : decode cX11_game 26 = .ok (.iaload, 1) := by decide +kernel
theorem dX11_game_27 : decode cX11_game 27 = .ok (.ishl, 1) := by decide +kernel
theorem dX11_game_28 : decode cX11_game 28 = .ok (.iconst 1, 1) := by decide +kernel
theorem dX11_game_29 : decode cX11_game 29 = .ok (.isub, 1) := by decide +kernel
theorem dX11_game_30 : decode cX11_game 30 = .ok (.invokestatic 68, 3) := by decide +kernel
theorem dX11_game_33 : decode cX11_game 33 = .ok (.ifCond .eq 13, 3) := by decide +kernel
theorem dX11_game_36 : decode cX11_game 36 = .ok (.iload 4, 2) := by decide +kernel
theorem dX11_game_38 : decode cX11_game 38 = .ok (.iconst 0, 1) := by decide +kernel
theorem dX11_game_39 : decode cX11_game 39 = .ok (.iconst 1, 1) := by decide +kernel
theorem dX11_game_40 : decode cX11_game 40 = .ok (.invokestatic 68, 3) := by decide +kernel
theorem dX11_game_43 : decode cX11_game 43 = .ok (.ifCond .ne 5, 3) := by decide +kernel
theorem dX11_game_46 : decode cX11_game 46 = .ok (.iconst (-1), 1) := by decide +kernel
theorem dX11_game_47 : decode cX11_game 47 = .ok (.ireturn, 1) := by decide +kernel
theorem dX11_game_48 : decode cX11_game 48 = .ok (.iconst 0, 1) := by decide +kernel
theorem dX11_game_49 : decode cX11_game 49 = .ok (.istore 5, 2) := by decide +kernel
theorem dX11_game_51 : decode cX11_game 51 = .ok (.iload 5, 2) := by decide +kernel
theorem dX11_game_53 : decode cX11_game 53 = .ok (.sipush 1008, 3) := by decide +kernel
theorem dX11_game_56 : decode cX11_game 56 = .ok (.if_icmp .ge 30, 3) := by decide +kernel
theorem dX11_game_59 : decode cX11_game 59 = .ok (.aload_n 0, 1) := by decide +kernel
theorem dX11_game_60 : decode cX11_game 60 = .ok (.getfield 41, 3) := by decide +kernel
theorem dX11_game_63 : decode cX11_game 63 = .ok (.iload 5, 2) := by decide +kernel
theorem dX11_game_65 : decode cX11_game 65 = .ok (.iload 5, 2) := by decide +kernel
theorem dX11_game_67 : decode cX11_game 67 = .ok (.invokestatic 132, 3) := by decide +kernel
theorem dX11_game_70 : decode cX11_game 70 = .ok (.iload_n 2, 1) := by decide +kernel
theorem dX11_game_71 : decode cX11_game 71 = .ok (.if_icmp .ne 7, 3) := by decide +kernel
theorem dX11_game_74 : decode cX11_game 74 = .ok (.iconst 1, 1) := by decide +kernel
theorem dX11_game_75 : decode cX11_game 75 = .ok (.goto 4, 3) := by decide +kernel
theorem dX11_game_78 : decode cX11_game 78 = .ok (.iconst 0, 1) := by decide +kernel
theorem dX11_game_79 : decode cX11_game 79 = .ok (.bastore, 1) := by decide +kernel
theorem dX11_game_80 : decode cX11_game 80 = .ok (.iinc 5 1, 3) := by decide +kernel
theorem dX11_game_83 : decode cX11_game 83 = .ok (.goto (-32), 3) := by decide +kernel
theorem dX11_game_86 : decode cX11_game 86 = .ok (.iload_n 1, 1) := by decide +kernel
theorem dX11_game_87 : decode cX11_game 87 = .ok (.iconst 1, 1) := by decide +kernel
theorem dX11_game_88 : decode cX11_game 88 = .ok (.isub, 1) := by decide +kernel
theorem dX11_game_89 : decode cX11_game 89 = .ok (.istore 5, 2) := by decide +kernel
theorem dX11_game_91 : decode cX11_game 91 = .ok (.iload 5, 2) := by decide +kernel
theorem dX11_game_93 : decode cX11_game 93 = .ok (.ifCond .le 90, 3) := by decide +kernel
theorem dX11_game_96 : decode cX11_game 96 = .ok (.iconst 0, 1) := by decide +kernel
theorem dX11_game_97 : decode cX11_game 97 = .ok (.istore 6, 2) := by decide +kernel
theorem dX11_game_99 : decode cX11_game 99 = .ok (.iload 6, 2) := by decide +kernel
theorem dX11_game_101 : decode cX11_game 101 = .ok (.sipush 1008, 3) := by decide +kernel
theorem dX11_game_104 : decode cX11_game 104 = .ok (.if_icmp .ge 42, 3) := by decide +kernel
theorem dX11_game_107 : decode cX11_game 107 = .ok (.aload_n 0, 1) := by decide +kernel
theorem dX11_game_108 : decode cX11_game 108 = .ok (.getfield 45, 3) := by decide +kernel
theorem dX11_game_111 : decode cX11_game 111 = .ok (.iload 6, 2) := by decide +kernel
theorem dX11_game_113 : decode cX11_game 113 = .ok (.aload_n 0, 1) := by decide +kernel
theorem dX11_game_114 : decode cX11_game 114 = .ok (.iload 6, 2) := by decide +kernel
theorem dX11_game_116 : decode cX11_game 116 = .ok (.invokevirtual 162, 3) := by decide +kernel
theorem dX11_game_119 : decode cX11_game 119 = .ok (.ifCond .eq 19, 3) := by decide +kernel
theorem dX11_game_122 : decode cX11_game 122 = .ok (.aload_n 0, 1) := by decide +kernel
theorem dX11_game_123 : decode cX11_game 123 = .ok (.iload 6, 2) := by decide +kernel
theorem dX11_game_125 : decode cX11_game 125 = .ok (.iload 5, 2) := by decide +kernel
theorem dX11_game_127 : decode cX11_game 127 = .ok (.iload_n 3, 1) := by decide +kernel
theorem dX11_game_128 : decode cX11_game 128 = .ok (.invokevirtual 180, 3) := by decide +kernel
theorem dX11_game_131 : decode cX11_game 131 = .ok (.ifCond .eq 7, 3) := by decide +kernel
theorem dX11_game_134 : decode cX11_game 134 = .ok (.iconst 1, 1) := by decide +kernel
theorem dX11_game_135 : decode cX11_game 135 = .ok (.goto 4, 3) := by decide +kernel
theorem dX11_game_138 : decode cX11_game 138 = .ok (.iconst 0, 1) := by decide +kernel
theorem dX11_game_139 : decode cX11_game 139 = .ok (.bastore, 1) := by decide +kernel
theorem dX11_game_140 : decode cX11_game 140 = .ok (.iinc 6 1, 3) := by decide +kernel
theorem dX11_game_143 : decode cX11_game 143 = .ok (.goto (-44), 3) := by decide +kernel
theorem dX11_game_146 : decode cX11_game 146 = .ok (.iconst 0, 1) := by decide +kernel
theorem dX11_game_147 : decode cX11_game 147 = .ok (.istore 6, 2) := by decide +kernel
theorem dX11_game_149 : decode cX11_game 149 = .ok (.iload 6, 2) := by decide +kernel
theorem dX11_game_151 : decode cX11_game 151 = .ok (.sipush 1008, 3) := by decide +kernel
theorem dX11_game_154 : decode cX11_game 154 = .ok (.if_icmp .ge 23, 3) := by decide +kernel
theorem dX11_game_157 : decode cX11_game 157 = .ok (.aload_n 0, 1) := by decide +kernel
theorem dX11_game_158 : decode cX11_game 158 = .ok (.getfield 41, 3) := by decide +kernel
theorem dX11_game_161 : decode cX11_game 161 = .ok (.iload 6, 2) := by decide +kernel
theorem dX11_game_163 : decode cX11_game 163 = .ok (.aload_n 0, 1) := by decide +kernel
theorem dX11_game_164 : decode cX11_game 164 = .ok (.getfield 45, 3) := by decide +kernel
theorem dX11_game_167 : decode cX11_game 167 = .ok (.iload 6, 2) := by decide +kernel
theorem dX11_game_169 : decode cX11_game 169 = .ok (.baload, 1) := by decide +kernel
theorem dX11_game_170 : decode cX11_game 170 = .ok (.bastore, 1) := by decide +kernel
theorem dX11_game_171 : decode cX11_game 171 = .ok (.iinc 6 1, 3) := by decide +kernel
theorem dX11_game_174 : decode cX11_game 174 = .ok (.goto (-25), 3) := by decide +kernel
theorem dX11_game_177 : decode cX11_game 177 = .ok (.iinc 5 (-1), 3) := by decide +kernel
theorem dX11_game_180 : decode cX11_game 180 = .ok (.goto (-89), 3) := by decide +kernel
theorem dX11_game_183 : decode cX11_game 183 = .ok (.aload_n 0, 1) := by decide +kernel
theorem dX11_game_184 : decode cX11_game 184 = .ok (.aload_n 0, 1) := by decide +kernel
theorem dX11_game_185 : decode cX11_game 185 = .ok (.getfield 20, 3) := by decide +kernel
theorem dX11_game_188 : decode cX11_game 188 = .ok (.iconst 1, 1) := by decide +kernel
theorem dX11_game_189 : decode cX11_game 189 = .ok (.iaload, 1) := by decide +kernel
theorem dX11_game_190 : decode cX11_game 190 = .ok (.iconst 0, 1) := by decide +kernel
theorem dX11_game_191 : decode cX11_game 191 = .ok (.iload_n 3, 1) := by decide +kernel
theorem dX11_game_192 : decode cX11_game 192 = .ok (.invokevirtual 180, 3) := by decide +kernel
theorem dX11_game_195 : decode cX11_game 195 = .ok (.istore 5, 2) := by decide +kernel
theorem dX11_game_197 : decode cX11_game 197 = .ok (.iload 4, 2) := by decide +kernel
theorem dX11_game_199 : decode cX11_game 199 = .ok (.ifCond .ne 14, 3) := by decide +kernel
theorem dX11_game_202 : decode cX11_game 202 = .ok (.iload 5, 2) := by decide +kernel
theorem dX11_game_204 : decode cX11_game 204 = .ok (.ifCond .eq 7, 3) := by decide +kernel
theorem dX11_game_207 : decode cX11_game 207 = .ok (.iconst 1, 1) := by decide +kernel
theorem dX11_game_208 : decode cX11_game 208 = .ok (.goto 4, 3) := by decide +kernel
theorem dX11_game_211 : decode cX11_game 211 = .ok (.iconst 0, 1) := by decide +kernel
theorem dX11_game_212 : decode cX11_game 212 = .ok (.ireturn, 1) := by decide +kernel
theorem dX11_game_213 : decode cX11_game 213 = .ok (.iload 5, 2) := by decide +kernel
theorem dX11_game_215 : decode cX11_game 215 = .ok (.ifCond .eq 18, 3) := by decide +kernel
theorem dX11_game_218 : decode cX11_game 218 = .ok (.aload_n 0, 1) := by decide +kernel
theorem dX11_game_219 : decode cX11_game 219 = .ok (.aload_n 0, 1) := by decide +kernel
theorem dX11_game_220 : decode cX11_game 220 = .ok (.getfield 20, 3) := by decide +kernel
theorem dX11_game_223 : decode cX11_game 223 = .ok (.iconst 1, 1) := by decide +kernel
theorem dX11_game_224 : decode cX11_game 224 = .ok (.iaload, 1) := by decide +kernel
theorem dX11_game_225 : decode cX11_game 225 = .ok (.iconst 0, 1) := by decide +kernel
theorem dX11_game_226 : decode cX11_game 226 = .ok (.iconst (-1), 1) := by decide +kernel
theorem dX11_game_227 : decode cX11_game 227 = .ok (.invokevirtual 177, 3) := by decide +kernel
theorem dX11_game_230 : decode cX11_game 230 = .ok (.ifCond .eq 6, 3) := by decide +kernel
theorem dX11_game_233 : decode cX11_game 233 = .ok (.bipush (-4), 2) := by decide +kernel
theorem dX11_game_235 : decode cX11_game 235 = .ok (.ireturn, 1) := by decide +kernel
theorem dX11_game_236 : decode cX11_game 236 = .ok (.iconst 0, 1) := by decide +kernel
theorem dX11_game_237 : decode cX11_game 237 = .ok (.istore 6, 2) := by decide +kernel
theorem dX11_game_239 : decode cX11_game 239 = .ok (.iload_n 3, 1) := by decide +kernel
theorem dX11_game_240 : decode cX11_game 240 = .ok (.iload 6, 2) := by decide +kernel
theorem dX11_game_242 : decode cX11_game 242 = .ok (.ishr, 1) := by decide +kernel
theorem dX11_game_243 : decode cX11_game 243 = .ok (.iconst 1, 1) := by decide +kernel
theorem dX11_game_244 : decode cX11_game 244 = .ok (.iand, 1) := by decide +kernel
theorem dX11_game_245 : decode cX11_game 245 = .ok (.ifCond .eq 40, 3) := by decide +kernel
theorem dX11_game_248 : decode cX11_game 248 = .ok (.aload_n 0, 1) := by decide +kernel
theorem dX11_game_249 : decode cX11_game 249 = .ok (.aload_n 0, 1) := by decide +kernel
theorem dX11_game_250 : decode cX11_game 250 = .ok (.getfield 20, 3) := by decide +kernel
theorem dX11_game_253 : decode cX11_game 253 = .ok (.iconst 1, 1) := by decide +kernel
theorem dX11_game_254 : decode cX11_game 254 = .ok (.iaload, 1) := by decide +kernel
theorem dX11_game_255 : decode cX11_game 255 = .ok (.iload 6, 2) := by decide +kernel
theorem dX11_game_257 : decode cX11_game 257 = .ok (.aload_n 0, 1) := by decide +kernel
theorem dX11_game_258 : decode cX11_game 258 = .ok (.getfield 20, 3) := by decide +kernel
theorem dX11_game_261 : decode cX11_game 261 = .ok (.iconst 0, 1) := by decide +kernel
theorem dX11_game_262 : decode cX11_game 262 = .ok (.iaload, 1) := by decide +kernel
theorem dX11_game_263 : decode cX11_game 263 = .ok (.invokevirtual 139, 3) := by decide +kernel
theorem dX11_game_266 : decode cX11_game 266 = .ok (.ifCond .eq 19, 3) := by decide +kernel
theorem dX11_game_269 : decode cX11_game 269 = .ok (.aload_n 0, 1) := by decide +kernel
theorem dX11_game_270 : decode cX11_game 270 = .ok (.aload_n 0, 1) := by decide +kernel
theorem dX11_game_271 : decode cX11_game 271 = .ok (.getfield 20, 3) := by decide +kernel
theorem dX11_game_274 : decode cX11_game 274 = .ok (.iconst 1, 1) := by decide +kernel
theorem dX11_game_275 : decode cX11_game 275 = .ok (.iaload, 1) := by decide +kernel
theorem dX11_game_276 : decode cX11_game 276 = .ok (.iconst 0, 1) := by decide +kernel
theorem dX11_game_277 : decode cX11_game 277 = .ok (.iload 6, 2) := by decide +kernel
theorem dX11_game_279 : decode cX11_game 279 = .ok (.invokevirtual 177, 3) := by decide +kernel
theorem dX11_game_282 : decode cX11_game 282 = .ok (.ifCond .ne 9, 3) := by decide +kernel
theorem dX11_game_285 : decode cX11_game 285 = .ok (.iinc 6 1, 3) := by decide +kernel
theorem dX11_game_288 : decode cX11_game 288 = .ok (.goto (-49), 3) := by decide +kernel
theorem dX11_game_291 : decode cX11_game 291 = .ok (.iload 6, 2) := by decide +kernel
theorem dX11_game_293 : decode cX11_game 293 = .ok (.ireturn, 1) := by decide +kernel
theorem dX11_seen_0 : decode cX11_seen 0 = .ok (.aload_n 0, 1) := by decide +kernel
theorem dX11_seen_1 : decode cX11_seen 1 = .ok (.iload_n 1, 1) := by decide +kernel
theorem dX11_seen_2 : decode cX11_seen 2 = .ok (.invokevirtual 122, 3) := by decide +kernel
theorem dX11_seen_5 : decode cX11_seen 5 = .ok (.ifCond .eq 13, 3) := by decide +kernel
theorem dX11_seen_8 : decode cX11_seen 8 = .ok (.iload_n 2, 1) := by decide +kernel
theorem dX11_seen_9 : decode cX11_seen 9 = .ok (.iconst 0, 1) := by decide +kernel
theorem dX11_seen_10 : decode cX11_seen 10 = .ok (.bipush 20, 2) := by decide +kernel
theorem dX11_seen_12 : decode cX11_seen 12 = .ok (.invokestatic 68, 3) := by decide +kernel
theorem dX11_seen_15 : decode cX11_seen 15 = .ok (.ifCond .ne 5, 3) := by decide +kernel
theorem dX11_seen_18 : decode cX11_seen 18 = .ok (.iconst (-1), 1) := by decide +kernel
theorem dX11_seen_19 : decode cX11_seen 19 = .ok (.ireturn, 1) := by decide +kernel
theorem dX11_seen_20 : decode cX11_seen 20 = .ok (.aload_n 0, 1) := by decide +kernel
theorem dX11_seen_21 : decode cX11_seen 21 = .ok (.getfield 119, 3) := by decide +kernel
theorem dX11_seen_24 : decode cX11_seen 24 = .ok (.bipush 6, 2) := by decide +kernel
theorem dX11_seen_26 : decode cX11_seen 26 = .ok (.if_icmp .ne 6, 3) := by decide +kernel
theorem dX11_seen_29 : decode cX11_seen 29 = .ok (.bipush (-3), 2) := by decide +kernel
theorem dX11_seen_31 : decode cX11_seen 31 = .ok (.ireturn, 1) := by decide +kernel
theorem dX11_seen_32 : decode cX11_seen 32 = .ok (.aload_n 0, 1) := by decide +kernel
theorem dX11_seen_33 : decode cX11_seen 33 = .ok (.getfield 48, 3) := by decide +kernel
theorem dX11_seen_36 : decode cX11_seen 36 = .ok (.aload_n 0, 1) := by decide +kernel
theorem dX11_seen_37 : decode cX11_seen 37 = .ok (.getfield 119, 3) := by decide +kernel
theorem dX11_seen_40 : decode cX11_seen 40 = .ok (.iload_n 1, 1) := by decide +kernel
theorem dX11_seen_41 : decode cX11_seen 41 = .ok (.iastore, 1) := by decide +kernel
theorem dX11_seen_42 : decode cX11_seen 42 = .ok (.aload_n 0, 1) := by decide +kernel
theorem dX11_seen_43 : decode cX11_seen 43 = .ok (.getfield 51, 3) := by decide +kernel
theorem dX11_seen_46 : decode cX11_seen 46 = .ok (.aload_n 0, 1) := by decide +kernel
theorem dX11_seen_47 : decode cX11_seen 47 = .ok (.getfield 119, 3) := by decide +kernel
theorem dX11_seen_50 : decode cX11_seen 50 = .ok (.iload_n 2, 1) := by decide +kernel
theorem dX11_seen_51 : decode cX11_seen 51 = .ok (.iastore, 1) := by decide +kernel
theorem dX11_seen_52 : decode cX11_seen 52 = .ok (.aload_n 0, 1) := by decide +kernel
theorem dX11_seen_53 : decode cX11_seen 53 = .ok (.dup, 1) := by decide +kernel
theorem dX11_seen_54 : decode cX11_seen 54 = .ok (.getfield 119, 3) := by decide +kernel
theorem dX11_seen_57 : decode cX11_seen 57 = .ok (.iconst 1, 1) := by decide +kernel
theorem dX11_seen_58 : decode cX11_seen 58 = .ok (.iadd, 1) := by decide +kernel
theorem dX11_seen_59 : decode cX11_seen 59 = .ok (.putfield 119, 3) := by decide +kernel
theorem dX11_seen_62 : decode cX11_seen 62 = .ok (.aload_n 0, 1) := by decide +kernel
theorem dX11_seen_63 : decode cX11_seen 63 = .ok (.getfield 119, 3) := by decide +kernel
theorem dX11_seen_66 : decode cX11_seen 66 = .ok (.ireturn, 1) := by decide +kernel
theorem dX11_forget_0 : decode cX11_forget 0 = .ok (.aload_n 0, 1) := by decide +kernel
theorem dX11_forget_1 : decode cX11_forget 1 = .ok (.getfield 119, 3) := by decide +kernel
theorem dX11_forget_4 : decode cX11_forget 4 = .ok (.istore_n 1, 1) := by decide +kernel
theorem dX11_forget_5 : decode cX11_forget 5 = .ok (.aload_n 0, 1) := by decide +kernel
theorem dX11_forget_6 : decode cX11_forget 6 = .ok (.iconst 0, 1) := by decide +kernel
theorem dX11_forget_7 : decode cX11_forget 7 = .ok (.putfield 119, 3) := by decide +kernel
theorem dX11_forget_10 : decode cX11_forget 10 = .ok (.iload_n 1, 1) := by decide +kernel
theorem dX11_forget_11 : decode cX11_forget 11 = .ok (.ireturn, 1) := by decide +kernel
theorem dX11_bar_0 : decode cX11_bar 0 = .ok (.iconst 0, 1) := by decide +kernel
theorem dX11_bar_1 : decode cX11_bar 1 = .ok (.istore_n 2, 1) := by decide +kernel
theorem dX11_bar_2 : decode cX11_bar 2 = .ok (.iload_n 2, 1) := by decide +kernel
theorem dX11_bar_3 : decode cX11_bar 3 = .ok (.aload_n 0, 1) := by decide +kernel
theorem dX11_bar_4 : decode cX11_bar 4 = .ok (.getfield 119, 3) := by decide +kernel
theorem dX11_bar_7 : decode cX11_bar 7 = .ok (.if_icmp .ge 63, 3) := by decide +kernel
theorem dX11_bar_10 : decode cX11_bar 10 = .ok (.iconst 0, 1) := by decide +kernel
theorem dX11_bar_11 : decode cX11_bar 11 = .ok (.istore_n 3, 1) := by decide +kernel
theorem dX11_bar_12 : decode cX11_bar 12 = .ok (.iload_n 3, 1) := by decide +kernel
theorem dX11_bar_13 : decode cX11_bar 13 = .ok (.sipush 1008, 3) := by decide +kernel
theorem dX11_bar_16 : decode cX11_bar 16 = .ok (.if_icmp .ge 48, 3) := by decide +kernel
theorem dX11_bar_19 : decode cX11_bar 19 = .ok (.aload_n 0, 1) := by decide +kernel
theorem dX11_bar_20 : decode cX11_bar 20 = .ok (.getfield 54, 3) := by decide +kernel
theorem dX11_bar_23 : decode cX11_bar 23 = .ok (.iload_n 3, 1) := by decide +kernel
theorem dX11_bar_24 : decode cX11_bar 24 = .ok (.aload_n 0, 1) := by decide +kernel
theorem dX11_bar_25 : decode cX11_bar 25 = .ok (.getfield 51, 3) := by decide +kernel
theorem dX11_bar_28 : decode cX11_bar 28 = .ok (.iload_n 2, 1) := by decide +kernel
theorem dX11_bar_29 : decode cX11_bar 29 = .ok (.iaload, 1) := by decide +kernel
theorem dX11_bar_30 : decode cX11_bar 30 = .ok (.iload_n 1, 1) := by decide +kernel
theorem dX11_bar_31 : decode cX11_bar 31 = .ok (.if_icmp .ne 20, 3) := by decide +kernel
theorem dX11_bar_34 : decode cX11_bar 34 = .ok (.iload_n 3, 1) := by decide +kernel
theorem dX11_bar_35 : decode cX11_bar 35 = .ok (.invokestatic 132, 3) := by decide +kernel
theorem dX11_bar_38 : decode cX11_bar 38 = .ok (.aload_n 0, 1) := by decide +kernel
theorem dX11_bar_39 : decode cX11_bar 39 = .ok (.getfield 48, 3) := by decide +kernel
theorem dX11_bar_42 : decode cX11_bar 42 = .ok (.iload_n 2, 1) := by decide +kernel
theorem dX11_bar_43 : decode cX11_bar 43 = .ok (.iaload, 1) := by decide +kernel
theorem dX11_bar_44 : decode cX11_bar 44 = .ok (.if_icmp .eq 7, 3) := by decide +kernel
theorem dX11_bar_47 : decode cX11_bar 47 = .ok (.lconst 0, 1) := by decide +kernel
theorem dX11_bar_48 : decode cX11_bar 48 = .ok (.goto 9, 3) := by decide +kernel
theorem dX11_bar_51 : decode cX11_bar 51 = .ok (.aload_n 0, 1) := by decide +kernel
theorem dX11_bar_52 : decode cX11_bar 52 = .ok (.getfield 54, 3) := by decide +kernel
theorem dX11_bar_55 : decode cX11_bar 55 = .ok (.iload_n 3, 1) := by decide +kernel
theorem dX11_bar_56 : decode cX11_bar 56 = .ok (.laload, 1) := by decide +kernel
theorem dX11_bar_57 : decode cX11_bar 57 = .ok (.lastore, 1) := by decide +kernel
theorem dX11_bar_58 : decode cX11_bar 58 = .ok (.iinc 3 1, 3) := by decide +kernel
theorem dX11_bar_61 : decode cX11_bar 61 = .ok (.goto (-49), 3) := by decide +kernel
theorem dX11_bar_64 : decode cX11_bar 64 = .ok (.iinc 2 1, 3) := by decide +kernel
theorem dX11_bar_67 : decode cX11_bar 67 = .ok (.goto (-65), 3) := by decide +kernel
theorem dX11_bar_70 : decode cX11_bar 70 = .ok (.return_, 1) := by decide +kernel
theorem dX11_goOn_0 : decode cX11_goOn 0 = .ok (.iconst 0, 1) := by decide +kernel
theorem dX11_goOn_1 : decode cX11_goOn 1 = .ok (.istore 4, 2) := by decide +kernel
theorem dX11_goOn_3 : decode cX11_goOn 3 = .ok (.iload 4, 2) := by decide +kernel
theorem dX11_goOn_5 : decode cX11_goOn 5 = .ok (.sipush 1008, 3) := by decide +kernel
theorem dX11_goOn_8 : decode cX11_goOn 8 = .ok (.if_icmp .ge 17, 3) := by decide +kernel
theorem dX11_goOn_11 : decode cX11_goOn 11 = .ok (.aload_n 0, 1) := by decide +kernel
theorem dX11_goOn_12 : decode cX11_goOn 12 = .ok (.getfield 58, 3) := by decide +kernel
theorem dX11_goOn_15 : decode cX11_goOn 15 = .ok (.iload 4, 2) := by decide +kernel
theorem dX11_goOn_17 : decode cX11_goOn 17 = .ok (.lconst 0, 1) := by decide +kernel
theorem dX11_goOn_18 : decode cX11_goOn 18 = .ok (.lastore, 1) := by decide +kernel
theorem dX11_goOn_19 : decode cX11_goOn 19 = .ok (.iinc 4 1, 3) := by decide +kernel
theorem dX11_goOn_22 : decode cX11_goOn 22 = .ok (.goto (-19), 3) := by decide +kernel
theorem dX11_goOn_25 : decode cX11_goOn 25 = .ok (.iconst 0, 1) := by decide +kernel
theorem dX11_goOn_26 : decode cX11_goOn 26 = .ok (.istore 4, 2) := by decide +kernel
theorem dX11_goOn_28 : decode cX11_goOn 28 = .ok (.iload 4, 2) := by decide +kernel
theorem dX11_goOn_30 : decode cX11_goOn 30 = .ok (.sipush 1008, 3) := by decide +kernel
theorem dX11_goOn_33 : decode cX11_goOn 33 = .ok (.if_icmp .ge 195, 3) := by decide +kernel
theorem dX11_goOn_36 : decode cX11_goOn 36 = .ok (.aload_n 0, 1) := by decide +kernel
theorem dX11_goOn_37 : decode cX11_goOn 37 = .ok (.getfield 54, 3) := by decide +kernel
theorem dX11_goOn_40 : decode cX11_goOn 40 = .ok (.iload 4, 2) := by decide +kernel
theorem dX11_goOn_42 : decode cX11_goOn 42 = .ok (.laload, 1) := by decide +kernel
theorem dX11_goOn_43 : decode cX11_goOn 43 = .ok (.lconst 0, 1) := by decide +kernel
theorem dX11_goOn_44 : decode cX11_goOn 44 = .ok (.lcmp, 1) := by decide +kernel
theorem dX11_goOn_45 : decode cX11_goOn 45 = .ok (.ifCond .le 177, 3) := by decide +kernel
theorem dX11_goOn_48 : decode cX11_goOn 48 = .ok (.iconst 0, 1) := by decide +kernel
theorem dX11_goOn_49 : decode cX11_goOn 49 = .ok (.istore 5, 2) := by decide +kernel
theorem dX11_goOn_51 : decode cX11_goOn 51 = .ok (.iconst 0, 1) := by decide +kernel
theorem dX11_goOn_52 : decode cX11_goOn 52 = .ok (.istore 6, 2) := by decide +kernel
theorem dX11_goOn_54 : decode cX11_goOn 54 = .ok (.iload 6, 2) := by decide +kernel
theorem dX11_goOn_56 : decode cX11_goOn 56 = .ok (.aload_n 0, 1) := by decide +kernel
theorem dX11_goOn_57 : decode cX11_goOn 57 = .ok (.getfield 7, 3) := by decide +kernel
theorem dX11_goOn_60 : decode cX11_goOn 60 = .ok (.iconst 1, 1) := by decide +kernel
theorem dX11_goOn_61 : decode cX11_goOn 61 = .ok (.iaload, 1) := by decide +kernel
theorem dX11_goOn_62 : decode cX11_goOn 62 = .ok (.if_icmp .ge 31, 3) := by decide +kernel
theorem dX11_goOn_65 : decode cX11_goOn 65 = .ok (.iload 5, 2) := by decide +kernel
theorem dX11_goOn_67 : decode cX11_goOn 67 = .ok (.aload_n 0, 1) := by decide +kernel
theorem dX11_goOn_68 : decode cX11_goOn 68 = .ok (.iload 4, 2) := by decide +kernel
theorem dX11_goOn_70 : decode cX11_goOn 70 = .ok (.iload 6, 2) := by decide +kernel
theorem dX11_goOn_72 : decode cX11_goOn 72 = .ok (.iload_n 1, 1) := by decide +kernel
theorem dX11_goOn_73 : decode cX11_goOn 73 = .ok (.invokevirtual 139, 3) := by decide +kernel
theorem dX11_goOn_76 : decode cX11_goOn 76 = .ok (.ifCond .eq 7, 3) := by decide +kernel
theorem dX11_goOn_79 : decode cX11_goOn 79 = .ok (.iconst 1, 1) := by decide +kernel
theorem dX11_goOn_80 : decode cX11_goOn 80 = .ok (.goto 4, 3) := by decide +kernel
theorem dX11_goOn_83 : decode cX11_goOn 83 = .ok (.iconst 0, 1) := by decide +kernel
theorem dX11_goOn_84 : decode cX11_goOn 84 = .ok (.iadd, 1) := by decide +kernel
theorem dX11_goOn_85 : decode cX11_goOn 85 = .ok (.istore 5, 2) := by decide +kernel
theorem dX11_goOn_87 : decode cX11_goOn 87 = .ok (.iinc 6 1, 3) := by decide +kernel
theorem dX11_goOn_90 : decode cX11_goOn 90 = .ok (.goto (-36), 3) := by decide +kernel
theorem dX11_goOn_93 : decode cX11_goOn 93 = .ok (.aload_n 0, 1) := by decide +kernel
theorem dX11_goOn_94 : decode cX11_goOn 94 = .ok (.getfield 58, 3) := by decide +kernel
theorem dX11_goOn_97 : decode cX11_goOn 97 = .ok (.aload_n 0, 1) := by decide +kernel
theorem dX11_goOn_98 : decode cX11_goOn 98 = .ok (.iload 4, 2) := by decide +kernel
theorem dX11_goOn_100 : decode cX11_goOn 100 = .ok (.iload_n 1, 1) := by decide +kernel
theorem dX11_goOn_101 : decode cX11_goOn 101 = .ok (.iconst 1, 1) := by decide +kernel
theorem dX11_goOn_102 : decode cX11_goOn 102 = .ok (.iadd, 1) := by decide +kernel
theorem dX11_goOn_103 : decode cX11_goOn 103 = .ok (.invokevirtual 148, 3) := by decide +kernel
theorem dX11_goOn_106 : decode cX11_goOn 106 = .ok (.dup2, 1) := by decide +kernel
theorem dX11_goOn_107 : decode cX11_goOn 107 = .ok (.laload, 1) := by decide +kernel
theorem dX11_goOn_108 : decode cX11_goOn 108 = .ok (.aload_n 0, 1) := by decide +kernel
theorem dX11_goOn_109 : decode cX11_goOn 109 = .ok (.getfield 54, 3) := by decide +kernel
theorem dX11_goOn_112 : decode cX11_goOn 112 = .ok (.iload 4, 2) := by decide +kernel
theorem dX11_goOn_114 : decode cX11_goOn 114 = .ok (.laload, 1) := by decide +kernel
theorem dX11_goOn_115 : decode cX11_goOn 115 = .ok (.iload_n 3, 1) := by decide +kernel
theorem dX11_goOn_116 : decode cX11_goOn 116 = .ok (.ifCond .ne 7, 3) := by decide +kernel
theorem dX11_goOn_119 : decode cX11_goOn 119 = .ok (.iconst 1, 1) := by decide +kernel
theorem dX11_goOn_120 : decode cX11_goOn 120 = .ok (.goto 15, 3) := by decide +kernel
theorem dX11_goOn_123 : decode cX11_goOn 123 = .ok (.iload 5, 2) := by decide +kernel
theorem dX11_goOn_125 : decode cX11_goOn 125 = .ok (.ifCond .ne 8, 3) := by decide +kernel
theorem dX11_goOn_128 : decode cX11_goOn 128 = .ok (.bipush 120, 2) := by decide +kernel
theorem dX11_goOn_130 : decode cX11_goOn 130 = .ok (.goto 5, 3) := by decide +kernel
theorem dX11_goOn_133 : decode cX11_goOn 133 = .ok (.bipush 60, 2) := by decide +kernel
theorem dX11_goOn_135 : decode cX11_goOn 135 = .ok (.i2l, 1) := by decide +kernel
theorem dX11_goOn_136 : decode cX11_goOn 136 = .ok (.lmul, 1) := by decide +kernel
theorem dX11_goOn_137 : decode cX11_goOn 137 = .ok (.ladd, 1) := by decide +kernel
theorem dX11_goOn_138 : decode cX11_goOn 138 = .ok (.lastore, 1) := by decide +kernel
theorem dX11_goOn_139 : decode cX11_goOn 139 = .ok (.iconst 0, 1) := by decide +kernel
theorem dX11_goOn_140 : decode cX11_goOn 140 = .ok (.istore 6, 2) := by decide +kernel
theorem dX11_goOn_142 : decode cX11_goOn 142 = .ok (.iload 6, 2) := by decide +kernel
theorem dX11_goOn_144 : decode cX11_goOn 144 = .ok (.aload_n 0, 1) := by decide +kernel
theorem dX11_goOn_145 : decode cX11_goOn 145 = .ok (.getfield 7, 3) := by decide +kernel
theorem dX11_goOn_148 : decode cX11_goOn 148 = .ok (.iconst 1, 1) := by decide +kernel
theorem dX11_goOn_149 : decode cX11_goOn 149 = .ok (.iaload, 1) := by decide +kernel
theorem dX11_goOn_150 : decode cX11_goOn 150 = .ok (.if_icmp .ge 72, 3) := by decide +kernel
theorem dX11_goOn_153 : decode cX11_goOn 153 = .ok (.iload 6, 2) := by decide +kernel
theorem dX11_goOn_155 : decode cX11_goOn 155 = .ok (.iload_n 2, 1) := by decide +kernel
theorem dX11_goOn_156 : decode cX11_goOn 156 = .ok (.if_icmp .eq 60, 3) := by decide +kernel
theorem dX11_goOn_159 : decode cX11_goOn 159 = .ok (.aload_n 0, 1) := by decide +kernel
theorem dX11_goOn_160 : decode cX11_goOn 160 = .ok (.iload 4, 2) := by decide +kernel
theorem dX11_goOn_162 : decode cX11_goOn 162 = .ok (.iload 6, 2) := by decide +kernel
theorem dX11_goOn_164 : decode cX11_goOn 164 = .ok (.iload_n 1, 1) := by decide +kernel
theorem dX11_goOn_165 : decode cX11_goOn 165 = .ok (.invokevirtual 139, 3) := by decide +kernel
theorem dX11_goOn_168 : decode cX11_goOn 168 = .ok (.ifCond .eq 48, 3) := by decide +kernel
theorem dX11_goOn_171 : decode cX11_goOn 171 = .ok (.aload_n 0, 1) := by decide +kernel
theorem dX11_goOn_172 : decode cX11_goOn 172 = .ok (.getfield 58, 3) := by decide +kernel
theorem dX11_goOn_175 : decode cX11_goOn 175 = .ok (.aload_n 0, 1) := by decide +kernel
theorem dX11_goOn_176 : decode cX11_goOn 176 = .ok (.aload_n 0, 1) := by decide +kernel
theorem dX11_goOn_177 : decode cX11_goOn 177 = .ok (.iload 4, 2) := by decide +kernel
theorem dX11_goOn_179 : decode cX11_goOn 179 = .ok (.iload 6, 2) := by decide +kernel
theorem dX11_goOn_181 : decode cX11_goOn 181 = .ok (.invokevirtual 145, 3) := by decide +kernel
theorem dX11_goOn_184 : decode cX11_goOn 184 = .ok (.iload_n 1, 1) := by decide +kernel
theorem dX11_goOn_185 : decode cX11_goOn 185 = .ok (.iconst 1, 1) := by decide +kernel
theorem dX11_goOn_186 : decode cX11_goOn 186 = .ok (.iadd, 1) := by decide +kernel
theorem dX11_goOn_187 : decode cX11_goOn 187 = .ok (.invokevirtual 148, 3) := by decide +kernel
theorem dX11_goOn_190 : decode cX11_goOn 190 = .ok (.dup2, 1) := by decide +kernel
theorem dX11_goOn_191 : decode cX11_goOn 191 = .ok (.laload, 1) := by decide +kernel
theorem dX11_goOn_192 : decode cX11_goOn 192 = .ok (.aload_n 0, 1) := by decide +kernel
theorem dX11_goOn_193 : decode cX11_goOn 193 = .ok (.getfield 54, 3) := by decide +kernel
theorem dX11_goOn_196 : decode cX11_goOn 196 = .ok (.iload 4, 2) := by decide +kernel
theorem dX11_goOn_198 : decode cX11_goOn 198 = .ok (.laload, 1) := by decide +kernel
theorem dX11_goOn_199 : decode cX11_goOn 199 = .ok (.iload_n 3, 1) := by decide +kernel
theorem dX11_goOn_200 : decode cX11_goOn 200 = .ok (.ifCond .eq 11, 3) := by decide +kernel
theorem dX11_goOn_203 : decode cX11_goOn 203 = .ok (.bipush 60, 2) := by decide +kernel
theorem dX11_goOn_205 : decode cX11_goOn 205 = .ok (.iload 5, 2) := by decide +kernel
theorem dX11_goOn_207 : decode cX11_goOn 207 = .ok (.idiv, 1) := by decide +kernel
theorem dX11_goOn_208 : decode cX11_goOn 208 = .ok (.goto 4, 3) := by decide +kernel
theorem dX11_goOn_211 : decode cX11_goOn 211 = .ok (.iconst 1, 1) := by decide +kernel
theorem dX11_goOn_212 : decode cX11_goOn 212 = .ok (.i2l, 1) := by decide +kernel
theorem dX11_goOn_213 : decode cX11_goOn 213 = .ok (.lmul, 1) := by decide +kernel
theorem dX11_goOn_214 : decode cX11_goOn 214 = .ok (.ladd, 1) := by decide +kernel
theorem dX11_goOn_215 : decode cX11_goOn 215 = .ok (.lastore, 1) := by decide +kernel
theorem dX11_goOn_216 : decode cX11_goOn 216 = .ok (.iinc 6 1, 3) := by decide +kernel
theorem dX11_goOn_219 : decode cX11_goOn 219 = .ok (.goto (-77), 3) := by decide +kernel
theorem dX11_goOn_222 : decode cX11_goOn 222 = .ok (.iinc 4 1, 3) := by decide +kernel
theorem dX11_goOn_225 : decode cX11_goOn 225 = .ok (.goto (-197), 3) := by decide +kernel
theorem dX11_goOn_228 : decode cX11_goOn 228 = .ok (.iconst 0, 1) := by decide +kernel
theorem dX11_goOn_229 : decode cX11_goOn 229 = .ok (.istore 4, 2) := by decide +kernel
theorem dX11_goOn_231 : decode cX11_goOn 231 = .ok (.iload 4, 2) := by decide +kernel
theorem dX11_goOn_233 : decode cX11_goOn 233 = .ok (.sipush 1008, 3) := by decide +kernel
theorem dX11_goOn_236 : decode cX11_goOn 236 = .ok (.if_icmp .ge 23, 3) := by decide +kernel
theorem dX11_goOn_239 : decode cX11_goOn 239 = .ok (.aload_n 0, 1) := by decide +kernel
theorem dX11_goOn_240 : decode cX11_goOn 240 = .ok (.getfield 54, 3) := by decide +kernel
theorem dX11_goOn_243 : decode cX11_goOn 243 = .ok (.iload 4, 2) := by decide +kernel
theorem dX11_goOn_245 : decode cX11_goOn 245 = .ok (.aload_n 0, 1) := by decide +kernel
theorem dX11_goOn_246 : decode cX11_goOn 246 = .ok (.getfield 58, 3) := by decide +kernel
theorem dX11_goOn_249 : decode cX11_goOn 249 = .ok (.iload 4, 2) := by decide +kernel
theorem dX11_goOn_251 : decode cX11_goOn 251 = .ok (.laload, 1) := by decide +kernel
theorem dX11_goOn_252 : decode cX11_goOn 252 = .ok (.lastore, 1) := by decide +kernel
theorem dX11_goOn_253 : decode cX11_goOn 253 = .ok (.iinc 4 1, 3) := by decide +kernel
theorem dX11_goOn_256 : decode cX11_goOn 256 = .ok (.goto (-25), 3) := by decide +kernel
theorem dX11_goOn_259 : decode cX11_goOn 259 = .ok (.return_, 1) := by decide +kernel
theorem dX11_startWays_0 : decode cX11_startWays 0 = .ok (.iconst 0, 1) := by decide +kernel
theorem dX11_startWays_1 : decode cX11_startWays 1 = .ok (.istore_n 2, 1) := by decide +kernel
theorem dX11_startWays_2 : decode cX11_startWays 2 = .ok (.iload_n 2, 1) := by decide +kernel
theorem dX11_startWays_3 : decode cX11_startWays 3 = .ok (.sipush 1008, 3) := by decide +kernel
theorem dX11_startWays_6 : decode cX11_startWays 6 = .ok (.if_icmp .ge 25, 3) := by decide +kernel
theorem dX11_startWays_9 : decode cX11_startWays 9 = .ok (.aload_n 0, 1) := by decide +kernel
theorem dX11_startWays_10 : decode cX11_startWays 10 = .ok (.getfield 54, 3) := by decide +kernel
theorem dX11_startWays_13 : decode cX11_startWays 13 = .ok (.iload_n 2, 1) := by decide +kernel
theorem dX11_startWays_14 : decode cX11_startWays 14 = .ok (.iload_n 2, 1) := by decide +kernel
theorem dX11_startWays_15 : decode cX11_startWays 15 = .ok (.iload_n 1, 1) := by decide +kernel
theorem dX11_startWays_16 : decode cX11_startWays 16 = .ok (.if_icmp .ne 7, 3) := by decide +kernel
theorem dX11_startWays_19 : decode cX11_startWays 19 = .ok (.lconst 1, 1) := by decide +kernel
theorem dX11_startWays_20 : decode cX11_startWays 20 = .ok (.goto 4, 3) := by decide +kernel
theorem dX11_startWays_23 : decode cX11_startWays 23 = .ok (.lconst 0, 1) := by decide +kernel
theorem dX11_startWays_24 : decode cX11_startWays 24 = .ok (.lastore, 1) := by decide +kernel
theorem dX11_startWays_25 : decode cX11_startWays 25 = .ok (.iinc 2 1, 3) := by decide +kernel
theorem dX11_startWays_28 : decode cX11_startWays 28 = .ok (.goto (-26), 3) := by decide +kernel
theorem dX11_startWays_31 : decode cX11_startWays 31 = .ok (.return_, 1) := by decide +kernel
theorem dX11_howBut_0 : decode cX11_howBut 0 = .ok (.iconst 0, 1) := by decide +kernel
theorem dX11_howBut_1 : decode cX11_howBut 1 = .ok (.istore_n 2, 1) := by decide +kernel
theorem dX11_howBut_2 : decode cX11_howBut 2 = .ok (.iconst 0, 1) := by decide +kernel
theorem dX11_howBut_3 : decode cX11_howBut 3 = .ok (.istore_n 3, 1) := by decide +kernel
theorem dX11_howBut_4 : decode cX11_howBut 4 = .ok (.iload_n 3, 1) := by decide +kernel
theorem dX11_howBut_5 : decode cX11_howBut 5 = .ok (.aload_n 0, 1) := by decide +kernel
theorem dX11_howBut_6 : decode cX11_howBut 6 = .ok (.getfield 119, 3) := by decide +kernel
theorem dX11_howBut_9 : decode cX11_howBut 9 = .ok (.if_icmp .ge 30, 3) := by decide +kernel
theorem dX11_howBut_12 : decode cX11_howBut 12 = .ok (.aload_n 0, 1) := by decide +kernel
theorem dX11_howBut_13 : decode cX11_howBut 13 = .ok (.getfield 51, 3) := by decide +kernel
theorem dX11_howBut_16 : decode cX11_howBut 16 = .ok (.iload_n 3, 1) := by decide +kernel
theorem dX11_howBut_17 : decode cX11_howBut 17 = .ok (.iaload, 1) := by decide +kernel
theorem dX11_howBut_18 : decode cX11_howBut 18 = .ok (.iload_n 2, 1) := by decide +kernel
theorem dX11_howBut_19 : decode cX11_howBut 19 = .ok (.if_icmp .le 12, 3) := by decide +kernel
theorem dX11_howBut_22 : decode cX11_howBut 22 = .ok (.aload_n 0, 1) := by decide +kernel
theorem dX11_howBut_23 : decode cX11_howBut 23 = .ok (.getfield 51, 3) := by decide +kernel
theorem dX11_howBut_26 : decode cX11_howBut 26 = .ok (.iload_n 3, 1) := by decide +kernel
theorem dX11_howBut_27 : decode cX11_howBut 27 = .ok (.iaload, 1) := by decide +kernel
theorem dX11_howBut_28 : decode cX11_howBut 28 = .ok (.goto 4, 3) := by decide +kernel
theorem dX11_howBut_31 : decode cX11_howBut 31 = .ok (.iload_n 2, 1) := by decide +kernel
theorem dX11_howBut_32 : decode cX11_howBut 32 = .ok (.istore_n 2, 1) := by decide +kernel
theorem dX11_howBut_33 : decode cX11_howBut 33 = .ok (.iinc 3 1, 3) := by decide +kernel
theorem dX11_howBut_36 : decode cX11_howBut 36 = .ok (.goto (-32), 3) := by decide +kernel
theorem dX11_howBut_39 : decode cX11_howBut 39 = .ok (.aload_n 0, 1) := by decide +kernel
theorem dX11_howBut_40 : decode cX11_howBut 40 = .ok (.aload_n 0, 1) := by decide +kernel
theorem dX11_howBut_41 : decode cX11_howBut 41 = .ok (.getfield 7, 3) := by decide +kernel
theorem dX11_howBut_44 : decode cX11_howBut 44 = .ok (.iconst 3, 1) := by decide +kernel
theorem dX11_howBut_45 : decode cX11_howBut 45 = .ok (.iaload, 1) := by decide +kernel
theorem dX11_howBut_46 : decode cX11_howBut 46 = .ok (.invokevirtual 183, 3) := by decide +kernel
theorem dX11_howBut_49 : decode cX11_howBut 49 = .ok (.iconst 0, 1) := by decide +kernel
theorem dX11_howBut_50 : decode cX11_howBut 50 = .ok (.istore_n 3, 1) := by decide +kernel
theorem dX11_howBut_51 : decode cX11_howBut 51 = .ok (.iload_n 3, 1) := by decide +kernel
theorem dX11_howBut_52 : decode cX11_howBut 52 = .ok (.iload_n 2, 1) := by decide +kernel
theorem dX11_howBut_53 : decode cX11_howBut 53 = .ok (.if_icmp .ge 21, 3) := by decide +kernel
theorem dX11_howBut_56 : decode cX11_howBut 56 = .ok (.aload_n 0, 1) := by decide +kernel
theorem dX11_howBut_57 : decode cX11_howBut 57 = .ok (.iload_n 3, 1) := by decide +kernel
theorem dX11_howBut_58 : decode cX11_howBut 58 = .ok (.invokevirtual 186, 3) := by decide +kernel
theorem dX11_howBut_61 : decode cX11_howBut 61 = .ok (.aload_n 0, 1) := by decide +kernel
theorem dX11_howBut_62 : decode cX11_howBut 62 = .ok (.iload_n 3, 1) := by decide +kernel
theorem dX11_howBut_63 : decode cX11_howBut 63 = .ok (.iload_n 1, 1) := by decide +kernel
theorem dX11_howBut_64 : decode cX11_howBut 64 = .ok (.iconst 0, 1) := by decide +kernel
theorem dX11_howBut_65 : decode cX11_howBut 65 = .ok (.invokevirtual 189, 3) := by decide +kernel
theorem dX11_howBut_68 : decode cX11_howBut 68 = .ok (.iinc 3 1, 3) := by decide +kernel
theorem dX11_howBut_71 : decode cX11_howBut 71 = .ok (.goto (-20), 3) := by decide +kernel
theorem dX11_howBut_74 : decode cX11_howBut 74 = .ok (.aload_n 0, 1) := by decide +kernel
theorem dX11_howBut_75 : decode cX11_howBut 75 = .ok (.iload_n 2, 1) := by decide +kernel
theorem dX11_howBut_76 : decode cX11_howBut 76 = .ok (.invokevirtual 186, 3) := by decide +kernel
theorem dX11_howBut_79 : decode cX11_howBut 79 = .ok (.lconst 0, 1) := by decide +kernel
theorem dX11_howBut_80 : decode cX11_howBut 80 = .ok (.lstore_n 3, 1) := by decide +kernel
theorem dX11_howBut_81 : decode cX11_howBut 81 = .ok (.iconst 0, 1) := by decide +kernel
theorem dX11_howBut_82 : decode cX11_howBut 82 = .ok (.istore 5, 2) := by decide +kernel
theorem dX11_howBut_84 : decode cX11_howBut 84 = .ok (.iload 5, 2) := by decide +kernel
theorem dX11_howBut_86 : decode cX11_howBut 86 = .ok (.sipush 1008, 3) := by decide +kernel
theorem dX11_howBut_89 : decode cX11_howBut 89 = .ok (.if_icmp .ge 19, 3) := by decide +kernel
theorem dX11_howBut_92 : decode cX11_howBut 92 = .ok (.lload_n 3, 1) := by decide +kernel
theorem dX11_howBut_93 : decode cX11_howBut 93 = .ok (.aload_n 0, 1) := by decide +kernel
theorem dX11_howBut_94 : decode cX11_howBut 94 = .ok (.getfield 54, 3) := by decide +kernel
theorem dX11_howBut_97 : decode cX11_howBut 97 = .ok (.iload 5, 2) := by decide +kernel
theorem dX11_howBut_99 : decode cX11_howBut 99 = .ok (.laload, 1) := by decide +kernel
theorem dX11_howBut_100 : decode cX11_howBut 100 = .ok (.ladd, 1) := by decide +kernel
theorem dX11_howBut_101 : decode cX11_howBut 101 = .ok (.lstore_n 3, 1) := by decide +kernel
theorem dX11_howBut_102 : decode cX11_howBut 102 = .ok (.iinc 5 1, 3) := by decide +kernel
theorem dX11_howBut_105 : decode cX11_howBut 105 = .ok (.goto (-21), 3) := by decide +kernel
theorem dX11_howBut_108 : decode cX11_howBut 108 = .ok (.lload_n 3, 1) := by decide +kernel
theorem dX11_howBut_109 : decode cX11_howBut 109 = .ok (.lreturn, 1) := by decide +kernel
theorem dX11_how_0 : decode cX11_how 0 = .ok (.aload_n 0, 1) := by decide +kernel
theorem dX11_how_1 : decode cX11_how 1 = .ok (.iconst (-1), 1) := by decide +kernel
theorem dX11_how_2 : decode cX11_how 2 = .ok (.invokevirtual 193, 3) := by decide +kernel
theorem dX11_how_5 : decode cX11_how 5 = .ok (.lreturn, 1) := by decide +kernel
theorem dX11_sure_0 : decode cX11_sure 0 = .ok (.aload_n 0, 1) := by decide +kernel
theorem dX11_sure_1 : decode cX11_sure 1 = .ok (.iload_n 1, 1) := by decide +kernel
theorem dX11_sure_2 : decode cX11_sure 2 = .ok (.invokevirtual 126, 3) := by decide +kernel
theorem dX11_sure_5 : decode cX11_sure 5 = .ok (.ifCond .ne 5, 3) := by decide +kernel
theorem dX11_sure_8 : decode cX11_sure 8 = .ok (.iconst (-1), 1) := by decide +kernel
theorem dX11_sure_9 : decode cX11_sure 9 = .ok (.ireturn, 1) := by decide +kernel
theorem dX11_sure_10 : decode cX11_sure 10 = .ok (.aload_n 0, 1) := by decide +kernel
theorem dX11_sure_11 : decode cX11_sure 11 = .ok (.iconst (-1), 1) := by decide +kernel
theorem dX11_sure_12 : decode cX11_sure 12 = .ok (.invokevirtual 193, 3) := by decide +kernel
theorem dX11_sure_15 : decode cX11_sure 15 = .ok (.lconst 0, 1) := by decide +kernel
theorem dX11_sure_16 : decode cX11_sure 16 = .ok (.lcmp, 1) := by decide +kernel
theorem dX11_sure_17 : decode cX11_sure 17 = .ok (.ifCond .le 17, 3) := by decide +kernel
theorem dX11_sure_20 : decode cX11_sure 20 = .ok (.aload_n 0, 1) := by decide +kernel
theorem dX11_sure_21 : decode cX11_sure 21 = .ok (.iload_n 1, 1) := by decide +kernel
theorem dX11_sure_22 : decode cX11_sure 22 = .ok (.invokevirtual 193, 3) := by decide +kernel
theorem dX11_sure_25 : decode cX11_sure 25 = .ok (.lconst 0, 1) := by decide +kernel
theorem dX11_sure_26 : decode cX11_sure 26 = .ok (.lcmp, 1) := by decide +kernel
theorem dX11_sure_27 : decode cX11_sure 27 = .ok (.ifCond .ne 7, 3) := by decide +kernel
theorem dX11_sure_30 : decode cX11_sure 30 = .ok (.iconst 1, 1) := by decide +kernel
theorem dX11_sure_31 : decode cX11_sure 31 = .ok (.goto 4, 3) := by decide +kernel
theorem dX11_sure_34 : decode cX11_sure 34 = .ok (.iconst 0, 1) := by decide +kernel
theorem dX11_sure_35 : decode cX11_sure 35 = .ok (.ireturn, 1) := by decide +kernel
theorem dX11_chance_0 : decode cX11_chance 0 = .ok (.aload_n 0, 1) := by decide +kernel
theorem dX11_chance_1 : decode cX11_chance 1 = .ok (.iload_n 1, 1) := by decide +kernel
theorem dX11_chance_2 : decode cX11_chance 2 = .ok (.invokevirtual 122, 3) := by decide +kernel
theorem dX11_chance_5 : decode cX11_chance 5 = .ok (.ifCond .eq 22, 3) := by decide +kernel
theorem dX11_chance_8 : decode cX11_chance 8 = .ok (.iload_n 2, 1) := by decide +kernel
theorem dX11_chance_9 : decode cX11_chance 9 = .ok (.iconst 0, 1) := by decide +kernel
theorem dX11_chance_10 : decode cX11_chance 10 = .ok (.bipush 6, 2) := by decide +kernel
theorem dX11_chance_12 : decode cX11_chance 12 = .ok (.invokestatic 68, 3) := by decide +kernel
theorem dX11_chance_15 : decode cX11_chance 15 = .ok (.ifCond .eq 12, 3) := by decide +kernel
theorem dX11_chance_18 : decode cX11_chance 18 = .ok (.iload_n 3, 1) := by decide +kernel
theorem dX11_chance_19 : decode cX11_chance 19 = .ok (.iconst 0, 1) := by decide +kernel
theorem dX11_chance_20 : decode cX11_chance 20 = .ok (.iconst 1, 1) := by decide +kernel
theorem dX11_chance_21 : decode cX11_chance 21 = .ok (.invokestatic 68, 3) := by decide +kernel
theorem dX11_chance_24 : decode cX11_chance 24 = .ok (.ifCond .ne 7, 3) := by decide +kernel
theorem dX11_chance_27 : decode cX11_chance 27 = .ok (.ldc2_w 197, 3) := by decide +kernel
theorem dX11_chance_30 : decode cX11_chance 30 = .ok (.lreturn, 1) := by decide +kernel
theorem dX11_chance_31 : decode cX11_chance 31 = .ok (.aload_n 0, 1) := by decide +kernel
theorem dX11_chance_32 : decode cX11_chance 32 = .ok (.aload_n 0, 1) := by decide +kernel
theorem dX11_chance_33 : decode cX11_chance 33 = .ok (.getfield 20, 3) := by decide +kernel
theorem dX11_chance_36 : decode cX11_chance 36 = .ok (.iconst 1, 1) := by decide +kernel
theorem dX11_chance_37 : decode cX11_chance 37 = .ok (.iaload, 1) := by decide +kernel
theorem dX11_chance_38 : decode cX11_chance 38 = .ok (.invokevirtual 183, 3) := by decide +kernel
theorem dX11_chance_41 : decode cX11_chance 41 = .ok (.lconst 1, 1) := by decide +kernel
theorem dX11_chance_42 : decode cX11_chance 42 = .ok (.lstore 4, 2) := by decide +kernel
theorem dX11_chance_44 : decode cX11_chance 44 = .ok (.iconst 0, 1) := by decide +kernel
theorem dX11_chance_45 : decode cX11_chance 45 = .ok (.istore 6, 2) := by decide +kernel
theorem dX11_chance_47 : decode cX11_chance 47 = .ok (.iload 6, 2) := by decide +kernel
theorem dX11_chance_49 : decode cX11_chance 49 = .ok (.iload_n 2, 1) := by decide +kernel
theorem dX11_chance_50 : decode cX11_chance 50 = .ok (.if_icmp .ge 32, 3) := by decide +kernel
theorem dX11_chance_53 : decode cX11_chance 53 = .ok (.aload_n 0, 1) := by decide +kernel
theorem dX11_chance_54 : decode cX11_chance 54 = .ok (.aload_n 0, 1) := by decide +kernel
theorem dX11_chance_55 : decode cX11_chance 55 = .ok (.getfield 20, 3) := by decide +kernel
theorem dX11_chance_58 : decode cX11_chance 58 = .ok (.iconst 0, 1) := by decide +kernel
theorem dX11_chance_59 : decode cX11_chance 59 = .ok (.iaload, 1) := by decide +kernel
theorem dX11_chance_60 : decode cX11_chance 60 = .ok (.iload 6, 2) := by decide +kernel
theorem dX11_chance_62 : decode cX11_chance 62 = .ok (.iadd, 1) := by decide +kernel
theorem dX11_chance_63 : decode cX11_chance 63 = .ok (.iconst (-1), 1) := by decide +kernel
theorem dX11_chance_64 : decode cX11_chance 64 = .ok (.iconst 1, 1) := by decide +kernel
theorem dX11_chance_65 : decode cX11_chance 65 = .ok (.invokevirtual 189, 3) := by decide +kernel
theorem dX11_chance_68 : decode cX11_chance 68 = .ok (.lload 4, 2) := by decide +kernel
theorem dX11_chance_70 : decode cX11_chance 70 = .ok (.ldc2_w 199, 3) := by decide +kernel
theorem dX11_chance_73 : decode cX11_chance 73 = .ok (.lmul, 1) := by decide +kernel
theorem dX11_chance_74 : decode cX11_chance 74 = .ok (.lstore 4, 2) := by decide +kernel
theorem dX11_chance_76 : decode cX11_chance 76 = .ok (.iinc 6 1, 3) := by decide +kernel
theorem dX11_chance_79 : decode cX11_chance 79 = .ok (.goto (-32), 3) := by decide +kernel
theorem dX11_chance_82 : decode cX11_chance 82 = .ok (.lconst 0, 1) := by decide +kernel
theorem dX11_chance_83 : decode cX11_chance 83 = .ok (.lstore 6, 2) := by decide +kernel
theorem dX11_chance_85 : decode cX11_chance 85 = .ok (.iconst 0, 1) := by decide +kernel
theorem dX11_chance_86 : decode cX11_chance 86 = .ok (.istore 8, 2) := by decide +kernel
theorem dX11_chance_88 : decode cX11_chance 88 = .ok (.iload 8, 2) := by decide +kernel
theorem dX11_chance_90 : decode cX11_chance 90 = .ok (.sipush 1008, 3) := by decide +kernel
theorem dX11_chance_93 : decode cX11_chance 93 = .ok (.if_icmp .ge 34, 3) := by decide +kernel
theorem dX11_chance_96 : decode cX11_chance 96 = .ok (.lload 6, 2) := by decide +kernel
theorem dX11_chance_98 : decode cX11_chance 98 = .ok (.iload 8, 2) := by decide +kernel
theorem dX11_chance_100 : decode cX11_chance 100 = .ok (.invokestatic 132, 3) := by decide +kernel
theorem dX11_chance_103 : decode cX11_chance 103 = .ok (.iload_n 1, 1) := by decide +kernel
theorem dX11_chance_104 : decode cX11_chance 104 = .ok (.if_icmp .ne 13, 3) := by decide +kernel
theorem dX11_chance_107 : decode cX11_chance 107 = .ok (.aload_n 0, 1) := by decide +kernel
theorem dX11_chance_108 : decode cX11_chance 108 = .ok (.getfield 54, 3) := by decide +kernel
theorem dX11_chance_111 : decode cX11_chance 111 = .ok (.iload 8, 2) := by decide +kernel
theorem dX11_chance_113 : decode cX11_chance 113 = .ok (.laload, 1) := by decide +kernel
theorem dX11_chance_114 : decode cX11_chance 114 = .ok (.goto 4, 3) := by decide +kernel
theorem dX11_chance_117 : decode cX11_chance 117 = .ok (.lconst 0, 1) := by decide +kernel
theorem dX11_chance_118 : decode cX11_chance 118 = .ok (.ladd, 1) := by decide +kernel
theorem dX11_chance_119 : decode cX11_chance 119 = .ok (.lstore 6, 2) := by decide +kernel
theorem dX11_chance_121 : decode cX11_chance 121 = .ok (.iinc 8 1, 3) := by decide +kernel
theorem dX11_chance_124 : decode cX11_chance 124 = .ok (.goto (-36), 3) := by decide +kernel
theorem dX11_chance_127 : decode cX11_chance 127 = .ok (.lload 6, 2) := by decide +kernel
theorem dX11_chance_129 : decode cX11_chance 129 = .ok (.lstore 8, 2) := by decide +kernel
theorem dX11_chance_131 : decode cX11_chance 131 = .ok (.lload 4, 2) := by decide +kernel
theorem dX11_chance_133 : decode cX11_chance 133 = .ok (.lstore 10, 2) := by decide +kernel
theorem dX11_chance_135 : decode cX11_chance 135 = .ok (.lload 10, 2) := by decide +kernel
theorem dX11_chance_137 : decode cX11_chance 137 = .ok (.lconst 0, 1) := by decide +kernel
theorem dX11_chance_138 : decode cX11_chance 138 = .ok (.lcmp, 1) := by decide +kernel
theorem dX11_chance_139 : decode cX11_chance 139 = .ok (.ifCond .eq 21, 3) := by decide +kernel
theorem dX11_chance_142 : decode cX11_chance 142 = .ok (.lload 8, 2) := by decide +kernel
theorem dX11_chance_144 : decode cX11_chance 144 = .ok (.lload 10, 2) := by decide +kernel
theorem dX11_chance_146 : decode cX11_chance 146 = .ok (.lrem, 1) := by decide +kernel
theorem dX11_chance_147 : decode cX11_chance 147 = .ok (.lstore 12, 2) := by decide +kernel
theorem dX11_chance_149 : decode cX11_chance 149 = .ok (.lload 10, 2) := by decide +kernel
theorem dX11_chance_151 : decode cX11_chance 151 = .ok (.lstore 8, 2) := by decide +kernel
theorem dX11_chance_153 : decode cX11_chance 153 = .ok (.lload 12, 2) := by decide +kernel
theorem dX11_chance_155 : decode cX11_chance 155 = .ok (.lstore 10, 2) := by decide +kernel
theorem dX11_chance_157 : decode cX11_chance 157 = .ok (.goto (-22), 3) := by decide +kernel
theorem dX11_chance_160 : decode cX11_chance 160 = .ok (.iload_n 3, 1) := by decide +kernel
theorem dX11_chance_161 : decode cX11_chance 161 = .ok (.ifCond .ne 11, 3) := by decide +kernel
theorem dX11_chance_164 : decode cX11_chance 164 = .ok (.lload 6, 2) := by decide +kernel
theorem dX11_chance_166 : decode cX11_chance 166 = .ok (.lload 8, 2) := by decide +kernel
theorem dX11_chance_168 : decode cX11_chance 168 = .ok (.ldiv, 1) := by decide +kernel
theorem dX11_chance_169 : decode cX11_chance 169 = .ok (.goto 8, 3) := by decide +kernel
theorem dX11_chance_172 : decode cX11_chance 172 = .ok (.lload 4, 2) := by decide +kernel
theorem dX11_chance_174 : decode cX11_chance 174 = .ok (.lload 8, 2) := by decide +kernel
theorem dX11_chance_176 : decode cX11_chance 176 = .ok (.ldiv, 1) := by decide +kernel
theorem dX11_chance_177 : decode cX11_chance 177 = .ok (.lreturn, 1) := by decide +kernel
theorem dX11_year_0 : decode cX11_year 0 = .ok (.iload_n 1, 1) := by decide +kernel
theorem dX11_year_1 : decode cX11_year 1 = .ok (.iconst 0, 1) := by decide +kernel
theorem dX11_year_2 : decode cX11_year 2 = .ok (.sipush 9999, 3) := by decide +kernel
theorem dX11_year_5 : decode cX11_year 5 = .ok (.invokestatic 68, 3) := by decide +kernel
theorem dX11_year_8 : decode cX11_year 8 = .ok (.ifCond .eq 23, 3) := by decide +kernel
theorem dX11_year_11 : decode cX11_year 11 = .ok (.iload_n 2, 1) := by decide +kernel
theorem dX11_year_12 : decode cX11_year 12 = .ok (.iconst 1, 1) := by decide +kernel
theorem dX11_year_13 : decode cX11_year 13 = .ok (.sipush 400, 3) := by decide +kernel
theorem dX11_year_16 : decode cX11_year 16 = .ok (.invokestatic 68, 3) := by decide +kernel
theorem dX11_year_19 : decode cX11_year 19 = .ok (.ifCond .eq 12, 3) := by decide +kernel
theorem dX11_year_22 : decode cX11_year 22 = .ok (.iload_n 3, 1) := by decide +kernel
theorem dX11_year_23 : decode cX11_year 23 = .ok (.iconst 0, 1) := by decide +kernel
theorem dX11_year_24 : decode cX11_year 24 = .ok (.iconst 1, 1) := by decide +kernel
theorem dX11_year_25 : decode cX11_year 25 = .ok (.invokestatic 68, 3) := by decide +kernel
theorem dX11_year_28 : decode cX11_year 28 = .ok (.ifCond .ne 5, 3) := by decide +kernel
theorem dX11_year_31 : decode cX11_year 31 = .ok (.iconst (-1), 1) := by decide +kernel
theorem dX11_year_32 : decode cX11_year 32 = .ok (.ireturn, 1) := by decide +kernel
theorem dX11_year_33 : decode cX11_year 33 = .ok (.aload_n 0, 1) := by decide +kernel
theorem dX11_year_34 : decode cX11_year 34 = .ok (.getfield 7, 3) := by decide +kernel
theorem dX11_year_37 : decode cX11_year 37 = .ok (.iconst 3, 1) := by decide +kernel
theorem dX11_year_38 : decode cX11_year 38 = .ok (.iaload, 1) := by decide +kernel
theorem dX11_year_39 : decode cX11_year 39 = .ok (.istore 4, 2) := by decide +kernel
theorem dX11_year_41 : decode cX11_year 41 = .ok (.iconst 0, 1) := by decide +kernel
theorem dX11_year_42 : decode cX11_year 42 = .ok (.istore 5, 2) := by decide +kernel
theorem dX11_year_44 : decode cX11_year 44 = .ok (.iconst 0, 1) := by decide +kernel
theorem dX11_year_45 : decode cX11_year 45 = .ok (.istore 6, 2) := by decide +kernel
theorem dX11_year_47 : decode cX11_year 47 = .ok (.iload 6, 2) := by decide +kernel
theorem dX11_year_49 : decode cX11_year 49 = .ok (.iload_n 2, 1) := by decide +kernel
theorem dX11_year_50 : decode cX11_year 50 = .ok (.if_icmp .ge 99, 3) := by decide +kernel
theorem dX11_year_53 : decode cX11_year 53 = .ok (.ldc2_w 201, 3) := by decide +kernel
theorem dX11_year_56 : decode cX11_year 56 = .ok (.iload_n 1, 1) := by decide +kernel
theorem dX11_year_57 : decode cX11_year 57 = .ok (.i2l, 1) := by decide +kernel
theorem dX11_year_58 : decode cX11_year 58 = .ok (.lmul, 1) := by decide +kernel
theorem dX11_year_59 : decode cX11_year 59 = .ok (.ldc2_w 203, 3) := by decide +kernel
theorem dX11_year_62 : decode cX11_year 62 = .ok (.iload 6, 2) := by decide +kernel
theorem dX11_year_64 : decode cX11_year 64 = .ok (.i2l, 1) := by decide +kernel
theorem dX11_year_65 : decode cX11_year 65 = .ok (.lmul, 1) := by decide +kernel
theorem dX11_year_66 : decode cX11_year 66 = .ok (.ladd, 1) := by decide +kernel
theorem dX11_year_67 : decode cX11_year 67 = .ok (.lconst 1, 1) := by decide +kernel
theorem dX11_year_68 : decode cX11_year 68 = .ok (.ladd, 1) := by decide +kernel
theorem dX11_year_69 : decode cX11_year 69 = .ok (.lstore 7, 2) := by decide +kernel
theorem dX11_year_71 : decode cX11_year 71 = .ok (.lload 7, 2) := by decide +kernel
theorem dX11_year_73 : decode cX11_year 73 = .ok (.lload 7, 2) := by decide +kernel
theorem dX11_year_75 : decode cX11_year 75 = .ok (.lmul, 1) := by decide +kernel
theorem dX11_year_76 : decode cX11_year 76 = .ok (.ldc2_w 205, 3) := by decide +kernel
theorem dX11_year_79 : decode cX11_year 79 = .ok (.lrem, 1) := by decide +kernel
theorem dX11_year_80 : decode cX11_year 80 = .ok (.l2i, 1) := by decide +kernel
theorem dX11_year_81 : decode cX11_year 81 = .ok (.istore 9, 2) := by decide +kernel
theorem dX11_year_83 : decode cX11_year 83 = .ok (.iload 9, 2) := by decide +kernel
theorem dX11_year_85 : decode cX11_year 85 = .ok (.aload_n 0, 1) := by decide +kernel
theorem dX11_year_86 : decode cX11_year 86 = .ok (.getfield 7, 3) := by decide +kernel
theorem dX11_year_89 : decode cX11_year 89 = .ok (.iconst 1, 1) := by decide +kernel
theorem dX11_year_90 : decode cX11_year 90 = .ok (.iaload, 1) := by decide +kernel
theorem dX11_year_91 : decode cX11_year 91 = .ok (.irem, 1) := by decide +kernel
theorem dX11_year_92 : decode cX11_year 92 = .ok (.istore 10, 2) := by decide +kernel
theorem dX11_year_94 : decode cX11_year 94 = .ok (.aload_n 0, 1) := by decide +kernel
theorem dX11_year_95 : decode cX11_year 95 = .ok (.iload 4, 2) := by decide +kernel
theorem dX11_year_97 : decode cX11_year 97 = .ok (.iload 10, 2) := by decide +kernel
theorem dX11_year_99 : decode cX11_year 99 = .ok (.iload 6, 2) := by decide +kernel
theorem dX11_year_101 : decode cX11_year 101 = .ok (.invokevirtual 139, 3) := by decide +kernel
theorem dX11_year_104 : decode cX11_year 104 = .ok (.ifCond .eq 27, 3) := by decide +kernel
theorem dX11_year_107 : decode cX11_year 107 = .ok (.iload 9, 2) := by decide +kernel
theorem dX11_year_109 : decode cX11_year 109 = .ok (.bipush 8, 2) := by decide +kernel
theorem dX11_year_111 : decode cX11_year 111 = .ok (.idiv, 1) := by decide +kernel
theorem dX11_year_112 : decode cX11_year 112 = .ok (.iconst 2, 1) := by decide +kernel
theorem dX11_year_113 : decode cX11_year 113 = .ok (.irem, 1) := by decide +kernel
theorem dX11_year_114 : decode cX11_year 114 = .ok (.iconst 1, 1) := by decide +kernel
theorem dX11_year_115 : decode cX11_year 115 = .ok (.if_icmp .ne 16, 3) := by decide +kernel
theorem dX11_year_118 : decode cX11_year 118 = .ok (.aload_n 0, 1) := by decide +kernel
theorem dX11_year_119 : decode cX11_year 119 = .ok (.iload 4, 2) := by decide +kernel
theorem dX11_year_121 : decode cX11_year 121 = .ok (.iload 10, 2) := by decide +kernel
theorem dX11_year_123 : decode cX11_year 123 = .ok (.invokevirtual 145, 3) := by decide +kernel
theorem dX11_year_126 : decode cX11_year 126 = .ok (.istore 4, 2) := by decide +kernel
theorem dX11_year_128 : decode cX11_year 128 = .ok (.iinc 5 1, 3) := by decide +kernel
theorem dX11_year_131 : decode cX11_year 131 = .ok (.aload_n 0, 1) := by decide +kernel
theorem dX11_year_132 : decode cX11_year 132 = .ok (.iload 4, 2) := by decide +kernel
theorem dX11_year_134 : decode cX11_year 134 = .ok (.iload 6, 2) := by decide +kernel
theorem dX11_year_136 : decode cX11_year 136 = .ok (.iconst 1, 1) := by decide +kernel
theorem dX11_year_137 : decode cX11_year 137 = .ok (.iadd, 1) := by decide +kernel
theorem dX11_year_138 : decode cX11_year 138 = .ok (.invokevirtual 148, 3) := by decide +kernel
theorem dX11_year_141 : decode cX11_year 141 = .ok (.istore 4, 2) := by decide +kernel
theorem dX11_year_143 : decode cX11_year 143 = .ok (.iinc 6 1, 3) := by decide +kernel
theorem dX11_year_146 : decode cX11_year 146 = .ok (.goto (-99), 3) := by decide +kernel
theorem dX11_year_149 : decode cX11_year 149 = .ok (.iload_n 3, 1) := by decide +kernel
theorem dX11_year_150 : decode cX11_year 150 = .ok (.ifCond .ne 8, 3) := by decide +kernel
theorem dX11_year_153 : decode cX11_year 153 = .ok (.iload 5, 2) := by decide +kernel
theorem dX11_year_155 : decode cX11_year 155 = .ok (.goto 8, 3) := by decide +kernel
theorem dX11_year_158 : decode cX11_year 158 = .ok (.iload 4, 2) := by decide +kernel
theorem dX11_year_160 : decode cX11_year 160 = .ok (.invokestatic 132, 3) := by decide +kernel
theorem dX11_year_163 : decode cX11_year 163 = .ok (.ireturn, 1) := by decide +kernel
theorem dX11_keep_0 : decode cX11_keep 0 = .ok (.aload_n 0, 1) := by decide +kernel
theorem dX11_keep_1 : decode cX11_keep 1 = .ok (.getfield 113, 3) := by decide +kernel
theorem dX11_keep_4 : decode cX11_keep 4 = .ok (.iconst 2, 1) := by decide +kernel
theorem dX11_keep_5 : decode cX11_keep 5 = .ok (.if_icmp .ne 6, 3) := by decide +kernel
theorem dX11_keep_8 : decode cX11_keep 8 = .ok (.bipush (-3), 2) := by decide +kernel
theorem dX11_keep_10 : decode cX11_keep 10 = .ok (.ireturn, 1) := by decide +kernel
theorem dX11_keep_11 : decode cX11_keep 11 = .ok (.iconst 0, 1) := by decide +kernel
theorem dX11_keep_12 : decode cX11_keep 12 = .ok (.istore_n 1, 1) := by decide +kernel
theorem dX11_keep_13 : decode cX11_keep 13 = .ok (.iload_n 1, 1) := by decide +kernel
theorem dX11_keep_14 : decode cX11_keep 14 = .ok (.iconst 3, 1) := by decide +kernel
theorem dX11_keep_15 : decode cX11_keep 15 = .ok (.if_icmp .ge 28, 3) := by decide +kernel
theorem dX11_keep_18 : decode cX11_keep 18 = .ok (.aload_n 0, 1) := by decide +kernel
theorem dX11_keep_19 : decode cX11_keep 19 = .ok (.getfield 26, 3) := by decide +kernel
theorem dX11_keep_22 : decode cX11_keep 22 = .ok (.iconst 3, 1) := by decide +kernel
theorem dX11_keep_23 : decode cX11_keep 23 = .ok (.aload_n 0, 1) := by decide +kernel
theorem dX11_keep_24 : decode cX11_keep 24 = .ok (.getfield 113, 3) := by decide +kernel
theorem dX11_keep_27 : decode cX11_keep 27 = .ok (.imul, 1) := by decide +kernel
theorem dX11_keep_28 : decode cX11_keep 28 = .ok (.iload_n 1, 1) := by decide +kernel
theorem dX11_keep_29 : decode cX11_keep 29 = .ok (.iadd, 1) := by decide +kernel
theorem dX11_keep_30 : decode cX11_keep 30 = .ok (.aload_n 0, 1) := by decide +kernel
theorem dX11_keep_31 : decode cX11_keep 31 = .ok (.getfield 20, 3) := by decide +kernel
theorem dX11_keep_34 : decode cX11_keep 34 = .ok (.iload_n 1, 1) := by decide +kernel
theorem dX11_keep_35 : decode cX11_keep 35 = .ok (.iaload, 1) := by decide +kernel
theorem dX11_keep_36 : decode cX11_keep 36 = .ok (.iastore, 1) := by decide +kernel
theorem dX11_keep_37 : decode cX11_keep 37 = .ok (.iinc 1 1, 3) := by decide +kernel
theorem dX11_keep_40 : decode cX11_keep 40 = .ok (.goto (-27), 3) := by decide +kernel
theorem dX11_keep_43 : decode cX11_keep 43 = .ok (.aload_n 0, 1) := by decide +kernel
theorem dX11_keep_44 : decode cX11_keep 44 = .ok (.dup, 1) := by decide +kernel
theorem dX11_keep_45 : decode cX11_keep 45 = .ok (.getfield 113, 3) := by decide +kernel
theorem dX11_keep_48 : decode cX11_keep 48 = .ok (.iconst 1, 1) := by decide +kernel
theorem dX11_keep_49 : decode cX11_keep 49 = .ok (.iadd, 1) := by decide +kernel
theorem dX11_keep_50 : decode cX11_keep 50 = .ok (.putfield 113, 3) := by decide +kernel
theorem dX11_keep_53 : decode cX11_keep 53 = .ok (.aload_n 0, 1) := by decide +kernel
theorem dX11_keep_54 : decode cX11_keep 54 = .ok (.getfield 113, 3) := by decide +kernel
theorem dX11_keep_57 : decode cX11_keep 57 = .ok (.ireturn, 1) := by decide +kernel
theorem dX11_back_0 : decode cX11_back 0 = .ok (.aload_n 0, 1) := by decide +kernel
theorem dX11_back_1 : decode cX11_back 1 = .ok (.getfield 113, 3) := by decide +kernel
theorem dX11_back_4 : decode cX11_back 4 = .ok (.ifCond .ne 6, 3) := by decide +kernel
theorem dX11_back_7 : decode cX11_back 7 = .ok (.bipush (-2), 2) := by decide +kernel
theorem dX11_back_9 : decode cX11_back 9 = .ok (.ireturn, 1) := by decide +kernel
theorem dX11_back_10 : decode cX11_back 10 = .ok (.aload_n 0, 1) := by decide +kernel
theorem dX11_back_11 : decode cX11_back 11 = .ok (.dup, 1) := by decide +kernel
theorem dX11_back_12 : decode cX11_back 12 = .ok (.getfield 113, 3) := by decide +kernel
theorem dX11_back_15 : decode cX11_back 15 = .ok (.iconst 1, 1) := by decide +kernel
theorem dX11_back_16 : decode cX11_back 16 = .ok (.isub, 1) := by decide +kernel
theorem dX11_back_17 : decode cX11_back 17 = .ok (.putfield 113, 3) := by decide +kernel
theorem dX11_back_20 : decode cX11_back 20 = .ok (.iconst 0, 1) := by decide +kernel
theorem dX11_back_21 : decode cX11_back 21 = .ok (.istore_n 1, 1) := by decide +kernel
theorem dX11_back_22 : decode cX11_back 22 = .ok (.iload_n 1, 1) := by decide +kernel
theorem dX11_back_23 : decode cX11_back 23 = .ok (.iconst 3, 1) := by decide +kernel
theorem dX11_back_24 : decode cX11_back 24 = .ok (.if_icmp .ge 28, 3) := by decide +kernel
theorem dX11_back_27 : decode cX11_back 27 = .ok (.aload_n 0, 1) := by decide +kernel
theorem dX11_back_28 : decode cX11_back 28 = .ok (.getfield 20, 3) := by decide +kernel
theorem dX11_back_31 : decode cX11_back 31 = .ok (.iload_n 1, 1) := by decide +kernel
theorem dX11_back_32 : decode cX11_back 32 = .ok (.aload_n 0, 1) := by decide +kernel
theorem dX11_back_33 : decode cX11_back 33 = .ok (.getfield 26, 3) := by decide +kernel
theorem dX11_back_36 : decode cX11_back 36 = .ok (.iconst 3, 1) := by decide +kernel
theorem dX11_back_37 : decode cX11_back 37 = .ok (.aload_n 0, 1) := by decide +kernel
theorem dX11_back_38 : decode cX11_back 38 = .ok (.getfield 113, 3) := by decide +kernel
theorem dX11_back_41 : decode cX11_back 41 = .ok (.imul, 1) := by decide +kernel
theorem dX11_back_42 : decode cX11_back 42 = .ok (.iload_n 1, 1) := by decide +kernel
theorem dX11_back_43 : decode cX11_back 43 = .ok (.iadd, 1) := by decide +kernel
theorem dX11_back_44 : decode cX11_back 44 = .ok (.iaload, 1) := by decide +kernel
theorem dX11_back_45 : decode cX11_back 45 = .ok (.iastore, 1) := by decide +kernel
theorem dX11_back_46 : decode cX11_back 46 = .ok (.iinc 1 1, 3) := by decide +kernel
theorem dX11_back_49 : decode cX11_back 49 = .ok (.goto (-27), 3) := by decide +kernel
theorem dX11_back_52 : decode cX11_back 52 = .ok (.aload_n 0, 1) := by decide +kernel
theorem dX11_back_53 : decode cX11_back 53 = .ok (.iconst 0, 1) := by decide +kernel
theorem dX11_back_54 : decode cX11_back 54 = .ok (.putfield 110, 3) := by decide +kernel
theorem dX11_back_57 : decode cX11_back 57 = .ok (.aload_n 0, 1) := by decide +kernel
theorem dX11_back_58 : decode cX11_back 58 = .ok (.getfield 113, 3) := by decide +kernel
theorem dX11_back_61 : decode cX11_back 61 = .ok (.ireturn, 1) := by decide +kernel
theorem dX11_count_0 : decode cX11_count 0 = .ok (.iload_n 1, 1) := by decide +kernel
theorem dX11_count_1 : decode cX11_count 1 = .ok (.tableswitch 93 0 7 #[47, 54, 61, 68, 73, 78, 83, 88], 47) := by decide +kernel
theorem dX11_count_48 : decode cX11_count 48 = .ok (.aload_n 0, 1) := by decide +kernel
theorem dX11_count_49 : decode cX11_count 49 = .ok (.getfield 7, 3) := by decide +kernel
theorem dX11_count_52 : decode cX11_count 52 = .ok (.iconst 0, 1) := by decide +kernel
theorem dX11_count_53 : decode cX11_count 53 = .ok (.iaload, 1) := by decide +kernel
theorem dX11_count_54 : decode cX11_count 54 = .ok (.ireturn, 1) := by decide +kernel
theorem dX11_count_55 : decode cX11_count 55 = .ok (.aload_n 0, 1) := by decide +kernel
theorem dX11_count_56 : decode cX11_count 56 = .ok (.getfield 7, 3) := by decide +kernel
theorem dX11_count_59 : decode cX11_count 59 = .ok (.iconst 1, 1) := by decide +kernel
theorem dX11_count_60 : decode cX11_count 60 = .ok (.iaload, 1) := by decide +kernel
theorem dX11_count_61 : decode cX11_count 61 = .ok (.ireturn, 1) := by decide +kernel
theorem dX11_count_62 : decode cX11_count 62 = .ok (.aload_n 0, 1) := by decide +kernel
theorem dX11_count_63 : decode cX11_count 63 = .ok (.getfield 20, 3) := by decide +kernel
theorem dX11_count_66 : decode cX11_count 66 = .ok (.iconst 0, 1) := by decide +kernel
theorem dX11_count_67 : decode cX11_count 67 = .ok (.iaload, 1) := by decide +kernel
theorem dX11_count_68 : decode cX11_count 68 = .ok (.ireturn, 1) := by decide +kernel
theorem dX11_count_69 : decode cX11_count 69 = .ok (.aload_n 0, 1) := by decide +kernel
theorem dX11_count_70 : decode cX11_count 70 = .ok (.getfield 116, 3) := by decide +kernel
theorem dX11_count_73 : decode cX11_count 73 = .ok (.ireturn, 1) := by decide +kernel
theorem dX11_count_74 : decode cX11_count 74 = .ok (.aload_n 0, 1) := by decide +kernel
theorem dX11_count_75 : decode cX11_count 75 = .ok (.getfield 119, 3) := by decide +kernel
theorem dX11_count_78 : decode cX11_count 78 = .ok (.ireturn, 1) := by decide +kernel
theorem dX11_count_79 : decode cX11_count 79 = .ok (.aload_n 0, 1) := by decide +kernel
theorem dX11_count_80 : decode cX11_count 80 = .ok (.getfield 110, 3) := by decide +kernel
theorem dX11_count_83 : decode cX11_count 83 = .ok (.ireturn, 1) := by decide +kernel
theorem dX11_count_84 : decode cX11_count 84 = .ok (.aload_n 0, 1) := by decide +kernel
theorem dX11_count_85 : decode cX11_count 85 = .ok (.getfield 113, 3) := by decide +kernel
theorem dX11_count_88 : decode cX11_count 88 = .ok (.ireturn, 1) := by decide +kernel
theorem dX11_count_89 : decode cX11_count 89 = .ok (.aload_n 0, 1) := by decide +kernel
theorem dX11_count_90 : decode cX11_count 90 = .ok (.getfield 72, 3) := by decide +kernel
theorem dX11_count_93 : decode cX11_count 93 = .ok (.ireturn, 1) := by decide +kernel
theorem dX11_count_94 : decode cX11_count 94 = .ok (.iconst (-1), 1) := by decide +kernel
theorem dX11_count_95 : decode cX11_count 95 = .ok (.ireturn, 1) := by decide +kernel
theorem dJ9_max_7cf53_0 : decode cJ9_max_7cf53 0 = .ok (.iload_n 0, 1) := by decide +kernel
theorem dJ9_max_7cf53_1 : decode cJ9_max_7cf53 1 = .ok (.iload_n 1, 1) := by decide +kernel
theorem dJ9_max_7cf53_2 : decode cJ9_max_7cf53 2 = .ok (.if_icmp .lt 7, 3) := by decide +kernel
theorem dJ9_max_7cf53_5 : decode cJ9_max_7cf53 5 = .ok (.iload_n 0, 1) := by decide +kernel
theorem dJ9_max_7cf53_6 : decode cJ9_max_7cf53 6 = .ok (.goto 4, 3) := by decide +kernel
theorem dJ9_max_7cf53_9 : decode cJ9_max_7cf53 9 = .ok (.iload_n 1, 1) := by decide +kernel
theorem dJ9_max_7cf53_10 : decode cJ9_max_7cf53 10 = .ok (.ireturn, 1) := by decide +kernel
theorem dJ9_min_f86c9_0 : decode cJ9_min_f86c9 0 = .ok (.lload_n 0, 1) := by decide +kernel
theorem dJ9_min_f86c9_1 : decode cJ9_min_f86c9 1 = .ok (.lload_n 2, 1) := by decide +kernel
theorem dJ9_min_f86c9_2 : decode cJ9_min_f86c9 2 = .ok (.lcmp, 1) := by decide +kernel
theorem dJ9_min_f86c9_3 : decode cJ9_min_f86c9 3 = .ok (.ifCond .gt 7, 3) := by decide +kernel
theorem dJ9_min_f86c9_6 : decode cJ9_min_f86c9 6 = .ok (.lload_n 0, 1) := by decide +kernel
theorem dJ9_min_f86c9_7 : decode cJ9_min_f86c9 7 = .ok (.goto 4, 3) := by decide +kernel
theorem dJ9_min_f86c9_10 : decode cJ9_min_f86c9 10 = .ok (.lload_n 2, 1) := by decide +kernel
theorem dJ9_min_f86c9_11 : decode cJ9_min_f86c9 11 = .ok (.lreturn, 1) := by decide +kernel
theorem dJ0_length_8abf5_0 : decode cJ0_length_8abf5 0 = .ok (.aload_n 0, 1) := by decide +kernel
theorem dJ0_length_8abf5_1 : decode cJ0_length_8abf5 1 = .ok (.getfield 9, 3) := by decide +kernel
theorem dJ0_length_8abf5_4 : decode cJ0_length_8abf5 4 = .ok (.arraylength, 1) := by decide +kernel
theorem dJ0_length_8abf5_5 : decode cJ0_length_8abf5 5 = .ok (.aload_n 0, 1) := by decide +kernel
theorem dJ0_length_8abf5_6 : decode cJ0_length_8abf5 6 = .ok (.invokevirtual 335, 3) := by decide +kernel
theorem dJ0_length_8abf5_9 : decode cJ0_length_8abf5 9 = .ok (.ishr, 1) := by decide +kernel
theorem dJ0_length_8abf5_10 : decode cJ0_length_8abf5 10 = .ok (.ireturn, 1) := by decide +kernel
theorem dJ0_charAt_5068e_0 : decode cJ0_charAt_5068e 0 = .ok (.aload_n 0, 1) := by decide +kernel
theorem dJ0_charAt_5068e_1 : decode cJ0_charAt_5068e 1 = .ok (.invokevirtual 492, 3) := by decide +kernel
theorem dJ0_charAt_5068e_4 : decode cJ0_charAt_5068e 4 = .ok (.ifCond .eq 12, 3) := by decide +kernel
theorem dJ0_charAt_5068e_7 : decode cJ0_charAt_5068e 7 = .ok (.aload_n 0, 1) := by decide +kernel
theorem dJ0_charAt_5068e_8 : decode cJ0_charAt_5068e 8 = .ok (.getfield 9, 3) := by decide +kernel
theorem dJ0_charAt_5068e_11 : decode cJ0_charAt_5068e 11 = .ok (.iload_n 1, 1) := by decide +kernel
theorem dJ0_charAt_5068e_12 : decode cJ0_charAt_5068e 12 = .ok (.invokestatic 495, 3) := by decide +kernel
theorem dJ0_charAt_5068e_15 : decode cJ0_charAt_5068e 15 = .ok (.ireturn, 1) := by decide +kernel
theorem dJ0_charAt_5068e_16 : decode cJ0_charAt_5068e 16 = .ok (.aload_n 0, 1) := by decide +kernel
theorem dJ0_charAt_5068e_17 : decode cJ0_charAt_5068e 17 = .ok (.getfield 9, 3) := by decide +kernel
theorem dJ0_charAt_5068e_20 : decode cJ0_charAt_5068e 20 = .ok (.iload_n 1, 1) := by decide +kernel
theorem dJ0_charAt_5068e_21 : decode cJ0_charAt_5068e 21 = .ok (.invokestatic 498, 3) := by decide +kernel
theorem dJ0_charAt_5068e_24 : decode cJ0_charAt_5068e 24 = .ok (.ireturn, 1) := by decide +kernel
theorem dJ0_coder_7d493_0 : decode cJ0_coder_7d493 0 = .ok (.getstatic 38, 3) := by decide +kernel
theorem dJ0_coder_7d493_3 : decode cJ0_coder_7d493 3 = .ok (.ifCond .eq 10, 3) := by decide +kernel
theorem dJ0_coder_7d493_6 : decode cJ0_coder_7d493 6 = .ok (.aload_n 0, 1) := by decide +kernel
theorem dJ0_coder_7d493_7 : decode cJ0_coder_7d493 7 = .ok (.getfield 15, 3) := by decide +kernel
theorem dJ0_coder_7d493_10 : decode cJ0_coder_7d493 10 = .ok (.goto 4, 3) := by decide +kernel
theorem dJ0_coder_7d493_13 : decode cJ0_coder_7d493 13 = .ok (.iconst 1, 1) := by decide +kernel
theorem dJ0_coder_7d493_14 : decode cJ0_coder_7d493 14 = .ok (.ireturn, 1) := by decide +kernel
theorem dJ0_isLatin1_aae02_0 : decode cJ0_isLatin1_aae02 0 = .ok (.getstatic 38, 3) := by decide +kernel
theorem dJ0_isLatin1_aae02_3 : decode cJ0_isLatin1_aae02 3 = .ok (.ifCond .eq 14, 3) := by decide +kernel
theorem dJ0_isLatin1_aae02_6 : decode cJ0_isLatin1_aae02 6 = .ok (.aload_n 0, 1) := by decide +kernel
theorem dJ0_isLatin1_aae02_7 : decode cJ0_isLatin1_aae02 7 = .ok (.getfield 15, 3) := by decide +kernel
theorem dJ0_isLatin1_aae02_10 : decode cJ0_isLatin1_aae02 10 = .ok (.ifCond .ne 7, 3) := by decide +kernel
theorem dJ0_isLatin1_aae02_13 : decode cJ0_isLatin1_aae02 13 = .ok (.iconst 1, 1) := by decide +kernel
theorem dJ0_isLatin1_aae02_14 : decode cJ0_isLatin1_aae02 14 = .ok (.goto 4, 3) := by decide +kernel
theorem dJ0_isLatin1_aae02_17 : decode cJ0_isLatin1_aae02 17 = .ok (.iconst 0, 1) := by decide +kernel
theorem dJ0_isLatin1_aae02_18 : decode cJ0_isLatin1_aae02 18 = .ok (.ireturn, 1) := by decide +kernel
theorem dJ0_checkIndex_df160_0 : decode cJ0_checkIndex_df160 0 = .ok (.iload_n 0, 1) := by decide +kernel
theorem dJ0_checkIndex_df160_1 : decode cJ0_checkIndex_df160 1 = .ok (.iload_n 1, 1) := by decide +kernel
theorem dJ0_checkIndex_df160_2 : decode cJ0_checkIndex_df160 2 = .ok (.getstatic 1053, 3) := by decide +kernel
theorem dJ0_checkIndex_df160_5 : decode cJ0_checkIndex_df160 5 = .ok (.invokestatic 1059, 3) := by decide +kernel
theorem dJ0_checkIndex_df160_8 : decode cJ0_checkIndex_df160 8 = .ok (.pop, 1) := by decide +kernel
theorem dJ0_checkIndex_df160_9 : decode cJ0_checkIndex_df160 9 = .ok (.return_, 1) := by decide +kernel
theorem dJ1_charAt_3b067_0 : decode cJ1_charAt_3b067 0 = .ok (.iload_n 1, 1) := by decide +kernel
theorem dJ1_charAt_3b067_1 : decode cJ1_charAt_3b067 1 = .ok (.aload_n 0, 1) := by decide +kernel
theorem dJ1_charAt_3b067_2 : decode cJ1_charAt_3b067 2 = .ok (.arraylength, 1) := by decide +kernel
theorem dJ1_charAt_3b067_3 : decode cJ1_charAt_3b067 3 = .ok (.invokestatic 9, 3) := by decide +kernel
theorem dJ1_charAt_3b067_6 : decode cJ1_charAt_3b067 6 = .ok (.aload_n 0, 1) := by decide +kernel
theorem dJ1_charAt_3b067_7 : decode cJ1_charAt_3b067 7 = .ok (.iload_n 1, 1) := by decide +kernel
theorem dJ1_charAt_3b067_8 : decode cJ1_charAt_3b067 8 = .ok (.baload, 1) := by decide +kernel
theorem dJ1_charAt_3b067_9 : decode cJ1_charAt_3b067 9 = .ok (.sipush 255, 3) := by decide +kernel
theorem dJ1_charAt_3b067_12 : decode cJ1_charAt_3b067 12 = .ok (.iand, 1) := by decide +kernel
theorem dJ1_charAt_3b067_13 : decode cJ1_charAt_3b067 13 = .ok (.i2c, 1) := by decide +kernel
theorem dJ1_charAt_3b067_14 : decode cJ1_charAt_3b067 14 = .ok (.ireturn, 1) := by decide +kernel
theorem dJ2_getChar_3b067_0 : decode cJ2_getChar_3b067 0 = .ok (.getstatic 44, 3) := by decide +kernel
theorem dJ2_getChar_3b067_3 : decode cJ2_getChar_3b067 3 = .ok (.ifCond .ne 25, 3) := by decide +kernel
theorem dJ2_getChar_3b067_6 : decode cJ2_getChar_3b067 6 = .ok (.iload_n 1, 1) := by decide +kernel
theorem dJ2_getChar_3b067_7 : decode cJ2_getChar_3b067 7 = .ok (.ifCond .lt 11, 3) := by decide +kernel
theorem dJ2_getChar_3b067_10 : decode cJ2_getChar_3b067 10 = .ok (.iload_n 1, 1) := by decide +kernel
theorem dJ2_getChar_3b067_11 : decode cJ2_getChar_3b067 11 = .ok (.aload_n 0, 1) := by decide +kernel
theorem dJ2_getChar_3b067_12 : decode cJ2_getChar_3b067 12 = .ok (.invokestatic 48, 3) := by decide +kernel
theorem dJ2_getChar_3b067_15 : decode cJ2_getChar_3b067 15 = .ok (.if_icmp .lt 13, 3) := by decide +kernel
theorem dJ2_getChar_3b067_18 : decode cJ2_getChar_3b067 18 = .ok (.new 52, 3) := by decide +kernel
theorem dJ2_getChar_3b067_21 : decode cJ2_getChar_3b067 21 = .ok (.dup, 1) := by decide +kernel
theorem dJ2_getChar_3b067_22 : decode cJ2_getChar_3b067 22 = .ok (.ldc 54, 2) := by decide +kernel
theorem dJ2_getChar_3b067_24 : decode cJ2_getChar_3b067 24 = .ok (.invokespecial 56, 3) := by decide +kernel
theorem dJ2_getChar_3b067_27 : decode cJ2_getChar_3b067 27 = .ok (.athrow, 1) := by decide +kernel
theorem dJ2_getChar_3b067_28 : decode cJ2_getChar_3b067 28 = .ok (.iload_n 1, 1) := by decide +kernel
theorem dJ2_getChar_3b067_29 : decode cJ2_getChar_3b067 29 = .ok (.iconst 1, 1) := by decide +kernel
theorem dJ2_getChar_3b067_30 : decode cJ2_getChar_3b067 30 = .ok (.ishl, 1) := by decide +kernel
theorem dJ2_getChar_3b067_31 : decode cJ2_getChar_3b067 31 = .ok (.istore_n 1, 1) := by decide +kernel
theorem dJ2_getChar_3b067_32 : decode cJ2_getChar_3b067 32 = .ok (.aload_n 0, 1) := by decide +kernel
theorem dJ2_getChar_3b067_33 : decode cJ2_getChar_3b067 33 = .ok (.iload_n 1, 1) := by decide +kernel
theorem dJ2_getChar_3b067_34 : decode cJ2_getChar_3b067 34 = .ok (.iinc 1 1, 3) := by decide +kernel
theorem dJ2_getChar_3b067_37 : decode cJ2_getChar_3b067 37 = .ok (.baload, 1) := by decide +kernel
theorem dJ2_getChar_3b067_38 : decode cJ2_getChar_3b067 38 = .ok (.sipush 255, 3) := by decide +kernel
theorem dJ2_getChar_3b067_41 : decode cJ2_getChar_3b067 41 = .ok (.iand, 1) := by decide +kernel
theorem dJ2_getChar_3b067_42 : decode cJ2_getChar_3b067 42 = .ok (.getstatic 59, 3) := by decide +kernel
theorem dJ2_getChar_3b067_45 : decode cJ2_getChar_3b067 45 = .ok (.ishl, 1) := by decide +kernel
theorem dJ2_getChar_3b067_46 : decode cJ2_getChar_3b067 46 = .ok (.aload_n 0, 1) := by decide +kernel
theorem dJ2_getChar_3b067_47 : decode cJ2_getChar_3b067 47 = .ok (.iload_n 1, 1) := by decide +kernel
theorem dJ2_getChar_3b067_48 : decode cJ2_getChar_3b067 48 = .ok (.baload, 1) := by decide +kernel
theorem dJ2_getChar_3b067_49 : decode cJ2_getChar_3b067 49 = .ok (.sipush 255, 3) := by decide +kernel
theorem dJ2_getChar_3b067_52 : decode cJ2_getChar_3b067 52 = .ok (.iand, 1) := by decide +kernel
theorem dJ2_getChar_3b067_53 : decode cJ2_getChar_3b067 53 = .ok (.getstatic 63, 3) := by decide +kernel
theorem dJ2_getChar_3b067_56 : decode cJ2_getChar_3b067 56 = .ok (.ishl, 1) := by decide +kernel
theorem dJ2_getChar_3b067_57 : decode cJ2_getChar_3b067 57 = .ok (.ior, 1) := by decide +kernel
theorem dJ2_getChar_3b067_58 : decode cJ2_getChar_3b067 58 = .ok (.i2c, 1) := by decide +kernel
theorem dJ2_getChar_3b067_59 : decode cJ2_getChar_3b067 59 = .ok (.ireturn, 1) := by decide +kernel
theorem dJ2_length_9d52b_0 : decode cJ2_length_9d52b 0 = .ok (.aload_n 0, 1) := by decide +kernel
theorem dJ2_length_9d52b_1 : decode cJ2_length_9d52b 1 = .ok (.arraylength, 1) := by decide +kernel
theorem dJ2_length_9d52b_2 : decode cJ2_length_9d52b 2 = .ok (.iconst 1, 1) := by decide +kernel
theorem dJ2_length_9d52b_3 : decode cJ2_length_9d52b 3 = .ok (.ishr, 1) := by decide +kernel
theorem dJ2_length_9d52b_4 : decode cJ2_length_9d52b 4 = .ok (.ireturn, 1) := by decide +kernel
theorem dJ2_charAt_3b067_0 : decode cJ2_charAt_3b067 0 = .ok (.iload_n 1, 1) := by decide +kernel
theorem dJ2_charAt_3b067_1 : decode cJ2_charAt_3b067 1 = .ok (.aload_n 0, 1) := by decide +kernel
theorem dJ2_charAt_3b067_2 : decode cJ2_charAt_3b067 2 = .ok (.invokestatic 67, 3) := by decide +kernel
theorem dJ2_charAt_3b067_5 : decode cJ2_charAt_3b067 5 = .ok (.aload_n 0, 1) := by decide +kernel
theorem dJ2_charAt_3b067_6 : decode cJ2_charAt_3b067 6 = .ok (.iload_n 1, 1) := by decide +kernel
theorem dJ2_charAt_3b067_7 : decode cJ2_charAt_3b067 7 = .ok (.invokestatic 71, 3) := by decide +kernel
theorem dJ2_charAt_3b067_10 : decode cJ2_charAt_3b067 10 = .ok (.ireturn, 1) := by decide +kernel
theorem dJ2_checkIndex_2214a_0 : decode cJ2_checkIndex_2214a 0 = .ok (.iload_n 0, 1) := by decide +kernel
theorem dJ2_checkIndex_2214a_1 : decode cJ2_checkIndex_2214a 1 = .ok (.aload_n 1, 1) := by decide +kernel
theorem dJ2_checkIndex_2214a_2 : decode cJ2_checkIndex_2214a 2 = .ok (.invokestatic 48, 3) := by decide +kernel
theorem dJ2_checkIndex_2214a_5 : decode cJ2_checkIndex_2214a 5 = .ok (.invokestatic 414, 3) := by decide +kernel
theorem dJ2_checkIndex_2214a_8 : decode cJ2_checkIndex_2214a 8 = .ok (.return_, 1) := by decide +kernel
theorem dJ7_fill_d0a16_0 : decode cJ7_fill_d0a16 0 = .ok (.iconst 0, 1) := by decide +kernel
theorem dJ7_fill_d0a16_1 : decode cJ7_fill_d0a16 1 = .ok (.istore_n 3, 1) := by decide +kernel
theorem dJ7_fill_d0a16_2 : decode cJ7_fill_d0a16 2 = .ok (.aload_n 0, 1) := by decide +kernel
theorem dJ7_fill_d0a16_3 : decode cJ7_fill_d0a16 3 = .ok (.arraylength, 1) := by decide +kernel
theorem dJ7_fill_d0a16_4 : decode cJ7_fill_d0a16 4 = .ok (.istore 4, 2) := by decide +kernel
theorem dJ7_fill_d0a16_6 : decode cJ7_fill_d0a16 6 = .ok (.iload_n 3, 1) := by decide +kernel
theorem dJ7_fill_d0a16_7 : decode cJ7_fill_d0a16 7 = .ok (.iload 4, 2) := by decide +kernel
theorem dJ7_fill_d0a16_9 : decode cJ7_fill_d0a16 9 = .ok (.if_icmp .ge 13, 3) := by decide +kernel
theorem dJ7_fill_d0a16_12 : decode cJ7_fill_d0a16 12 = .ok (.aload_n 0, 1) := by decide +kernel
theorem dJ7_fill_d0a16_13 : decode cJ7_fill_d0a16 13 = .ok (.iload_n 3, 1) := by decide +kernel
theorem dJ7_fill_d0a16_14 : decode cJ7_fill_d0a16 14 = .ok (.lload_n 1, 1) := by decide +kernel
theorem dJ7_fill_d0a16_15 : decode cJ7_fill_d0a16 15 = .ok (.lastore, 1) := by decide +kernel
theorem dJ7_fill_d0a16_16 : decode cJ7_fill_d0a16 16 = .ok (.iinc 3 1, 3) := by decide +kernel
theorem dJ7_fill_d0a16_19 : decode cJ7_fill_d0a16 19 = .ok (.goto (-13), 3) := by decide +kernel
theorem dJ7_fill_d0a16_22 : decode cJ7_fill_d0a16 22 = .ok (.return_, 1) := by decide +kernel
theorem dJ7_fill_53178_0 : decode cJ7_fill_53178 0 = .ok (.iconst 0, 1) := by decide +kernel
theorem dJ7_fill_53178_1 : decode cJ7_fill_53178 1 = .ok (.istore_n 2, 1) := by decide +kernel
theorem dJ7_fill_53178_2 : decode cJ7_fill_53178 2 = .ok (.aload_n 0, 1) := by decide +kernel
theorem dJ7_fill_53178_3 : decode cJ7_fill_53178 3 = .ok (.arraylength, 1) := by decide +kernel
theorem dJ7_fill_53178_4 : decode cJ7_fill_53178 4 = .ok (.istore_n 3, 1) := by decide +kernel
theorem dJ7_fill_53178_5 : decode cJ7_fill_53178 5 = .ok (.iload_n 2, 1) := by decide +kernel
theorem dJ7_fill_53178_6 : decode cJ7_fill_53178 6 = .ok (.iload_n 3, 1) := by decide +kernel
theorem dJ7_fill_53178_7 : decode cJ7_fill_53178 7 = .ok (.if_icmp .ge 13, 3) := by decide +kernel
theorem dJ7_fill_53178_10 : decode cJ7_fill_53178 10 = .ok (.aload_n 0, 1) := by decide +kernel
theorem dJ7_fill_53178_11 : decode cJ7_fill_53178 11 = .ok (.iload_n 2, 1) := by decide +kernel
theorem dJ7_fill_53178_12 : decode cJ7_fill_53178 12 = .ok (.iload_n 1, 1) := by decide +kernel
theorem dJ7_fill_53178_13 : decode cJ7_fill_53178 13 = .ok (.iastore, 1) := by decide +kernel
theorem dJ7_fill_53178_14 : decode cJ7_fill_53178 14 = .ok (.iinc 2 1, 3) := by decide +kernel
theorem dJ7_fill_53178_17 : decode cJ7_fill_53178 17 = .ok (.goto (-12), 3) := by decide +kernel
theorem dJ7_fill_53178_20 : decode cJ7_fill_53178 20 = .ok (.return_, 1) := by decide +kernel
theorem dJ3_checkIndex_8e157_0 : decode cJ3_checkIndex_8e157 0 = .ok (.iload_n 0, 1) := by decide +kernel
theorem dJ3_checkIndex_8e157_1 : decode cJ3_checkIndex_8e157 1 = .ok (.ifCond .lt 8, 3) := by decide +kernel
theorem dJ3_checkIndex_8e157_4 : decode cJ3_checkIndex_8e157 4 = .ok (.iload_n 0, 1) := by decide +kernel
theorem dJ3_checkIndex_8e157_5 : decode cJ3_checkIndex_8e157 5 = .ok (.iload_n 1, 1) := by decide +kernel
theorem dJ3_checkIndex_8e157_6 : decode cJ3_checkIndex_8e157 6 = .ok (.if_icmp .lt 10, 3) := by decide +kernel
theorem dJ3_checkIndex_8e157_9 : decode cJ3_checkIndex_8e157 9 = .ok (.aload_n 2, 1) := by decide +kernel
theorem dJ3_checkIndex_8e157_10 : decode cJ3_checkIndex_8e157 10 = .ok (.iload_n 0, 1) := by decide +kernel
theorem dJ3_checkIndex_8e157_11 : decode cJ3_checkIndex_8e157 11 = .ok (.iload_n 1, 1) := by decide +kernel
theorem dJ3_checkIndex_8e157_12 : decode cJ3_checkIndex_8e157 12 = .ok (.invokestatic 95, 3) := by decide +kernel
theorem dJ3_checkIndex_8e157_15 : decode cJ3_checkIndex_8e157 15 = .ok (.athrow, 1) := by decide +kernel
theorem dJ3_checkIndex_8e157_16 : decode cJ3_checkIndex_8e157 16 = .ok (.iload_n 0, 1) := by decide +kernel
theorem dJ3_checkIndex_8e157_17 : decode cJ3_checkIndex_8e157 17 = .ok (.ireturn, 1) := by decide +kernel
theorem dL_law_0 : decode cL_law 0 = .ok (.new 7, 3) := by decide +kernel
theorem dL_law_3 : decode cL_law 3 = .ok (.dup, 1) := by decide +kernel
theorem dL_law_4 : decode cL_law 4 = .ok (.invokespecial 9, 3) := by decide +kernel
theorem dL_law_7 : decode cL_law 7 = .ok (.astore_n 1, 1) := by decide +kernel
theorem dL_law_8 : decode cL_law 8 = .ok (.new 10, 3) := by decide +kernel
theorem dL_law_11 : decode cL_law 11 = .ok (.dup, 1) := by decide +kernel
theorem dL_law_12 : decode cL_law 12 = .ok (.invokespecial 12, 3) := by decide +kernel
theorem dL_law_15 : decode cL_law 15 = .ok (.astore_n 2, 1) := by decide +kernel
theorem dL_law_16 : decode cL_law 16 = .ok (.iconst 0, 1) := by decide +kernel
theorem dL_law_17 : decode cL_law 17 = .ok (.istore_n 3, 1) := by decide +kernel
theorem dL_law_18 : decode cL_law 18 = .ok (.iload_n 3, 1) := by decide +kernel
theorem dL_law_19 : decode cL_law 19 = .ok (.aload_n 0, 1) := by decide +kernel
theorem dL_law_20 : decode cL_law 20 = .ok (.arraylength, 1) := by decide +kernel
theorem dL_law_21 : decode cL_law 21 = .ok (.iconst 5, 1) := by decide +kernel
theorem dL_law_22 : decode cL_law 22 = .ok (.isub, 1) := by decide +kernel
theorem dL_law_23 : decode cL_law 23 = .ok (.if_icmp .gt 748, 3) := by decide +kernel
theorem dL_law_26 : decode cL_law 26 = .ok (.aload_n 0, 1) := by decide +kernel
theorem dL_law_27 : decode cL_law 27 = .ok (.iload_n 3, 1) := by decide +kernel
theorem dL_law_28 : decode cL_law 28 = .ok (.iaload, 1) := by decide +kernel
theorem dL_law_29 : decode cL_law 29 = .ok (.bipush 31, 2) := by decide +kernel
theorem dL_law_31 : decode cL_law 31 = .ok (.iand, 1) := by decide +kernel
theorem dL_law_32 : decode cL_law 32 = .ok (.tableswitch 733 0 24 #[116, 179, 192, 205, 218, 251, 284, 307, 330, 343, 376, 409, 422, 435, 448, 461, 514, 547, 560, 574, 597, 641, 684, 697, 710], 116) := by decide +kernel
theorem dL_law_148 : decode cL_law 148 = .ok (.aload_n 1, 1) := by decide +kernel
theorem dL_law_149 : decode cL_law 149 = .ok (.aload_n 0, 1) := by decide +kernel
theorem dL_law_150 : decode cL_law 150 = .ok (.iload_n 3, 1) := by decide +kernel
theorem dL_law_151 : decode cL_law 151 = .ok (.iconst 1, 1) := by decide +kernel
theorem dL_law_152 : decode cL_law 152 = .ok (.iadd, 1) := by decide +kernel
theorem dL_law_153 : decode cL_law 153 = .ok (.iaload, 1) := by decide +kernel
theorem dL_law_154 : decode cL_law 154 = .ok (.aload_n 0, 1) := by decide +kernel
theorem dL_law_155 : decode cL_law 155 = .ok (.iload_n 3, 1) := by decide +kernel
theorem dL_law_156 : decode cL_law 156 = .ok (.iconst 2, 1) := by decide +kernel
theorem dL_law_157 : decode cL_law 157 = .ok (.iadd, 1) := by decide +kernel
theorem dL_law_158 : decode cL_law 158 = .ok (.iaload, 1) := by decide +kernel
theorem dL_law_159 : decode cL_law 159 = .ok (.i2l, 1) := by decide +kernel
theorem dL_law_160 : decode cL_law 160 = .ok (.bipush 32, 2) := by decide +kernel
theorem dL_law_162 : decode cL_law 162 = .ok (.lshl, 1) := by decide +kernel
theorem dL_law_163 : decode cL_law 163 = .ok (.aload_n 0, 1) := by decide +kernel
theorem dL_law_164 : decode cL_law 164 = .ok (.iload_n 3, 1) := by decide +kernel
theorem dL_law_165 : decode cL_law 165 = .ok (.iconst 3, 1) := by decide +kernel
theorem dL_law_166 : decode cL_law 166 = .ok (.iadd, 1) := by decide +kernel
theorem dL_law_167 : decode cL_law 167 = .ok (.iaload, 1) := by decide +kernel
theorem dL_law_168 : decode cL_law 168 = .ok (.i2l, 1) := by decide +kernel
theorem dL_law_169 : decode cL_law 169 = .ok (.ldc2_w 13, 3) := by decide +kernel
theorem dL_law_172 : decode cL_law 172 = .ok (.land, 1) := by decide +kernel
theorem dL_law_173 : decode cL_law 173 = .ok (.lor, 1) := by decide +kernel
theorem dL_law_174 : decode cL_law 174 = .ok (.invokevirtual 15, 3) := by decide +kernel
theorem dL_law_177 : decode cL_law 177 = .ok (.aload_n 2, 1) := by decide +kernel
theorem dL_law_178 : decode cL_law 178 = .ok (.aload_n 0, 1) := by decide +kernel
theorem dL_law_179 : decode cL_law 179 = .ok (.iload_n 3, 1) := by decide +kernel
theorem dL_law_180 : decode cL_law 180 = .ok (.iconst 1, 1) := by decide +kernel
theorem dL_law_181 : decode cL_law 181 = .ok (.iadd, 1) := by decide +kernel
theorem dL_law_182 : decode cL_law 182 = .ok (.iaload, 1) := by decide +kernel
theorem dL_law_183 : decode cL_law 183 = .ok (.aload_n 0, 1) := by decide +kernel
theorem dL_law_184 : decode cL_law 184 = .ok (.iload_n 3, 1) := by decide +kernel
theorem dL_law_185 : decode cL_law 185 = .ok (.iconst 2, 1) := by decide +kernel
theorem dL_law_186 : decode cL_law 186 = .ok (.iadd, 1) := by decide +kernel
theorem dL_law_187 : decode cL_law 187 = .ok (.iaload, 1) := by decide +kernel
theorem dL_law_188 : decode cL_law 188 = .ok (.i2l, 1) := by decide +kernel
theorem dL_law_189 : decode cL_law 189 = .ok (.bipush 32, 2) := by decide +kernel
theorem dL_law_191 : decode cL_law 191 = .ok (.lshl, 1) := by decide +kernel
theorem dL_law_192 : decode cL_law 192 = .ok (.aload_n 0, 1) := by decide +kernel
theorem dL_law_193 : decode cL_law 193 = .ok (.iload_n 3, 1) := by decide +kernel
theorem dL_law_194 : decode cL_law 194 = .ok (.iconst 3, 1) := by decide +kernel
theorem dL_law_195 : decode cL_law 195 = .ok (.iadd, 1) := by decide +kernel
theorem dL_law_196 : decode cL_law 196 = .ok (.iaload, 1) := by decide +kernel
theorem dL_law_197 : decode cL_law 197 = .ok (.i2l, 1) := by decide +kernel
theorem dL_law_198 : decode cL_law 198 = .ok (.ldc2_w 13, 3) := by decide +kernel
theorem dL_law_201 : decode cL_law 201 = .ok (.land, 1) := by decide +kernel
theorem dL_law_202 : decode cL_law 202 = .ok (.lor, 1) := by decide +kernel
theorem dL_law_203 : decode cL_law 203 = .ok (.invokevirtual 19, 3) := by decide +kernel
theorem dL_law_206 : decode cL_law 206 = .ok (.if_icmp .eq 559, 3) := by decide +kernel
theorem dL_law_209 : decode cL_law 209 = .ok (.iconst 0, 1) := by decide +kernel
theorem dL_law_210 : decode cL_law 210 = .ok (.ireturn, 1) := by decide +kernel
theorem dL_law_211 : decode cL_law 211 = .ok (.aload_n 1, 1) := by decide +kernel
theorem dL_law_212 : decode cL_law 212 = .ok (.invokevirtual 20, 3) := by decide +kernel
theorem dL_law_215 : decode cL_law 215 = .ok (.aload_n 2, 1) := by decide +kernel
theorem dL_law_216 : decode cL_law 216 = .ok (.invokevirtual 24, 3) := by decide +kernel
theorem dL_law_219 : decode cL_law 219 = .ok (.if_icmp .eq 546, 3) := by decide +kernel
theorem dL_law_222 : decode cL_law 222 = .ok (.iconst 0, 1) := by decide +kernel
theorem dL_law_223 : decode cL_law 223 = .ok (.ireturn, 1) := by decide +kernel
theorem dL_law_224 : decode cL_law 224 = .ok (.aload_n 1, 1) := by decide +kernel
theorem dL_law_225 : decode cL_law 225 = .ok (.invokevirtual 25, 3) := by decide +kernel
theorem dL_law_228 : decode cL_law 228 = .ok (.aload_n 2, 1) := by decide +kernel
theorem dL_law_229 : decode cL_law 229 = .ok (.invokevirtual 28, 3) := by decide +kernel
theorem dL_law_232 : decode cL_law 232 = .ok (.if_icmp .eq 533, 3) := by decide +kernel
theorem dL_law_235 : decode cL_law 235 = .ok (.iconst 0, 1) := by decide +kernel
theorem dL_law_236 : decode cL_law 236 = .ok (.ireturn, 1) := by decide +kernel
theorem dL_law_237 : decode cL_law 237 = .ok (.aload_n 1, 1) := by decide +kernel
theorem dL_law_238 : decode cL_law 238 = .ok (.invokevirtual 29, 3) := by decide +kernel
theorem dL_law_241 : decode cL_law 241 = .ok (.aload_n 2, 1) := by decide +kernel
theorem dL_law_242 : decode cL_law 242 = .ok (.invokevirtual 32, 3) := by decide +kernel
theorem dL_law_245 : decode cL_law 245 = .ok (.if_icmp .eq 520, 3) := by decide +kernel
theorem dL_law_248 : decode cL_law 248 = .ok (.iconst 0, 1) := by decide +kernel
theorem dL_law_249 : decode cL_law 249 = .ok (.ireturn, 1) := by decide +kernel
theorem dL_law_250 : decode cL_law 250 = .ok (.aload_n 1, 1) := by decide +kernel
theorem dL_law_251 : decode cL_law 251 = .ok (.aload_n 0, 1) := by decide +kernel
theorem dL_law_252 : decode cL_law 252 = .ok (.iload_n 3, 1) := by decide +kernel
theorem dL_law_253 : decode cL_law 253 = .ok (.iconst 1, 1) := by decide +kernel
theorem dL_law_254 : decode cL_law 254 = .ok (.iadd, 1) := by decide +kernel
theorem dL_law_255 : decode cL_law 255 = .ok (.iaload, 1) := by decide +kernel
theorem dL_law_256 : decode cL_law 256 = .ok (.aload_n 0, 1) := by decide +kernel
theorem dL_law_257 : decode cL_law 257 = .ok (.iload_n 3, 1) := by decide +kernel
theorem dL_law_258 : decode cL_law 258 = .ok (.iconst 2, 1) := by decide +kernel
theorem dL_law_259 : decode cL_law 259 = .ok (.iadd, 1) := by decide +kernel
theorem dL_law_260 : decode cL_law 260 = .ok (.iaload, 1) := by decide +kernel
theorem dL_law_261 : decode cL_law 261 = .ok (.invokevirtual 33, 3) := by decide +kernel
theorem dL_law_264 : decode cL_law 264 = .ok (.aload_n 2, 1) := by decide +kernel
theorem dL_law_265 : decode cL_law 265 = .ok (.aload_n 0, 1) := by decide +kernel
theorem dL_law_266 : decode cL_law 266 = .ok (.iload_n 3, 1) := by decide +kernel
theorem dL_law_267 : decode cL_law 267 = .ok (.iconst 1, 1) := by decide +kernel
theorem dL_law_268 : decode cL_law 268 = .ok (.iadd, 1) := by decide +kernel
theorem dL_law_269 : decode cL_law 269 = .ok (.iaload, 1) := by decide +kernel
theorem dL_law_270 : decode cL_law 270 = .ok (.aload_n 0, 1) := by decide +kernel
theorem dL_law_271 : decode cL_law 271 = .ok (.iload_n 3, 1) := by decide +kernel
theorem dL_law_272 : decode cL_law 272 = .ok (.iconst 2, 1) := by decide +kernel
theorem dL_law_273 : decode cL_law 273 = .ok (.iadd, 1) := by decide +kernel
theorem dL_law_274 : decode cL_law 274 = .ok (.iaload, 1) := by decide +kernel
theorem dL_law_275 : decode cL_law 275 = .ok (.invokevirtual 37, 3) := by decide +kernel
theorem dL_law_278 : decode cL_law 278 = .ok (.if_icmp .eq 487, 3) := by decide +kernel
theorem dL_law_281 : decode cL_law 281 = .ok (.iconst 0, 1) := by decide +kernel
theorem dL_law_282 : decode cL_law 282 = .ok (.ireturn, 1) := by decide +kernel
theorem dL_law_283 : decode cL_law 283 = .ok (.aload_n 1, 1) := by decide +kernel
theorem dL_law_284 : decode cL_law 284 = .ok (.aload_n 0, 1) := by decide +kernel
theorem dL_law_285 : decode cL_law 285 = .ok (.iload_n 3, 1) := by decide +kernel
theorem dL_law_286 : decode cL_law 286 = .ok (.iconst 1, 1) := by decide +kernel
theorem dL_law_287 : decode cL_law 287 = .ok (.iadd, 1) := by decide +kernel
theorem dL_law_288 : decode cL_law 288 = .ok (.iaload, 1) := by decide +kernel
theorem dL_law_289 : decode cL_law 289 = .ok (.aload_n 0, 1) := by decide +kernel
theorem dL_law_290 : decode cL_law 290 = .ok (.iload_n 3, 1) := by decide +kernel
theorem dL_law_291 : decode cL_law 291 = .ok (.iconst 2, 1) := by decide +kernel
theorem dL_law_292 : decode cL_law 292 = .ok (.iadd, 1) := by decide +kernel
theorem dL_law_293 : decode cL_law 293 = .ok (.iaload, 1) := by decide +kernel
theorem dL_law_294 : decode cL_law 294 = .ok (.invokevirtual 38, 3) := by decide +kernel
theorem dL_law_297 : decode cL_law 297 = .ok (.aload_n 2, 1) := by decide +kernel
theorem dL_law_298 : decode cL_law 298 = .ok (.aload_n 0, 1) := by decide +kernel
theorem dL_law_299 : decode cL_law 299 = .ok (.iload_n 3, 1) := by decide +kernel
theorem dL_law_300 : decode cL_law 300 = .ok (.iconst 1, 1) := by decide +kernel
theorem dL_law_301 : decode cL_law 301 = .ok (.iadd, 1) := by decide +kernel
theorem dL_law_302 : decode cL_law 302 = .ok (.iaload, 1) := by decide +kernel
theorem dL_law_303 : decode cL_law 303 = .ok (.aload_n 0, 1) := by decide +kernel
theorem dL_law_304 : decode cL_law 304 = .ok (.iload_n 3, 1) := by decide +kernel
theorem dL_law_305 : decode cL_law 305 = .ok (.iconst 2, 1) := by decide +kernel
theorem dL_law_306 : decode cL_law 306 = .ok (.iadd, 1) := by decide +kernel
theorem dL_law_307 : decode cL_law 307 = .ok (.iaload, 1) := by decide +kernel
theorem dL_law_308 : decode cL_law 308 = .ok (.invokevirtual 41, 3) := by decide +kernel
theorem dL_law_311 : decode cL_law 311 = .ok (.if_icmp .eq 454, 3) := by decide +kernel
theorem dL_law_314 : decode cL_law 314 = .ok (.iconst 0, 1) := by decide +kernel
theorem dL_law_315 : decode cL_law 315 = .ok (.ireturn, 1) := by decide +kernel
theorem dL_law_316 : decode cL_law 316 = .ok (.aload_n 1, 1) := by decide +kernel
theorem dL_law_317 : decode cL_law 317 = .ok (.aload_n 0, 1) := by decide +kernel
theorem dL_law_318 : decode cL_law 318 = .ok (.iload_n 3, 1) := by decide +kernel
theorem dL_law_319 : decode cL_law 319 = .ok (.iconst 1, 1) := by decide +kernel
theorem dL_law_320 : decode cL_law 320 = .ok (.iadd, 1) := by decide +kernel
theorem dL_law_321 : decode cL_law 321 = .ok (.iaload, 1) := by decide +kernel
theorem dL_law_322 : decode cL_law 322 = .ok (.invokevirtual 42, 3) := by decide +kernel
theorem dL_law_325 : decode cL_law 325 = .ok (.aload_n 2, 1) := by decide +kernel
theorem dL_law_326 : decode cL_law 326 = .ok (.aload_n 0, 1) := by decide +kernel
theorem dL_law_327 : decode cL_law 327 = .ok (.iload_n 3, 1) := by decide +kernel
theorem dL_law_328 : decode cL_law 328 = .ok (.iconst 1, 1) := by decide +kernel
theorem dL_law_329 : decode cL_law 329 = .ok (.iadd, 1) := by decide +kernel
theorem dL_law_330 : decode cL_law 330 = .ok (.iaload, 1) := by decide +kernel
theorem dL_law_331 : decode cL_law 331 = .ok (.invokevirtual 46, 3) := by decide +kernel
theorem dL_law_334 : decode cL_law 334 = .ok (.if_icmp .eq 431, 3) := by decide +kernel
theorem dL_law_337 : decode cL_law 337 = .ok (.iconst 0, 1) := by decide +kernel
theorem dL_law_338 : decode cL_law 338 = .ok (.ireturn, 1) := by decide +kernel
theorem dL_law_339 : decode cL_law 339 = .ok (.aload_n 1, 1) := by decide +kernel
theorem dL_law_340 : decode cL_law 340 = .ok (.aload_n 0, 1) := by decide +kernel
theorem dL_law_341 : decode cL_law 341 = .ok (.iload_n 3, 1) := by decide +kernel
theorem dL_law_342 : decode cL_law 342 = .ok (.iconst 1, 1) := by decide +kernel
theorem dL_law_343 : decode cL_law 343 = .ok (.iadd, 1) := by decide +kernel
theorem dL_law_344 : decode cL_law 344 = .ok (.iaload, 1) := by decide +kernel
theorem dL_law_345 : decode cL_law 345 = .ok (.invokevirtual 47, 3) := by decide +kernel
theorem dL_law_348 : decode cL_law 348 = .ok (.aload_n 2, 1) := by decide +kernel
theorem dL_law_349 : decode cL_law 349 = .ok (.aload_n 0, 1) := by decide +kernel
theorem dL_law_350 : decode cL_law 350 = .ok (.iload_n 3, 1) := by decide +kernel
theorem dL_law_351 : decode cL_law 351 = .ok (.iconst 1, 1) := by decide +kernel
theorem dL_law_352 : decode cL_law 352 = .ok (.iadd, 1) := by decide +kernel
theorem dL_law_353 : decode cL_law 353 = .ok (.iaload, 1) := by decide +kernel
theorem dL_law_354 : decode cL_law 354 = .ok (.invokevirtual 50, 3) := by decide +kernel
theorem dL_law_357 : decode cL_law 357 = .ok (.if_icmp .eq 408, 3) := by decide +kernel
theorem dL_law_360 : decode cL_law 360 = .ok (.iconst 0, 1) := by decide +kernel
theorem dL_law_361 : decode cL_law 361 = .ok (.ireturn, 1) := by decide +kernel
theorem dL_law_362 : decode cL_law 362 = .ok (.aload_n 1, 1) := by decide +kernel
theorem dL_law_363 : decode cL_law 363 = .ok (.invokevirtual 51, 3) := by decide +kernel
theorem dL_law_366 : decode cL_law 366 = .ok (.aload_n 2, 1) := by decide +kernel
theorem dL_law_367 : decode cL_law 367 = .ok (.invokevirtual 54, 3) := by decide +kernel
theorem dL_law_370 : decode cL_law 370 = .ok (.if_icmp .eq 395, 3) := by decide +kernel
theorem dL_law_373 : decode cL_law 373 = .ok (.iconst 0, 1) := by decide +kernel
theorem dL_law_374 : decode cL_law 374 = .ok (.ireturn, 1) := by decide +kernel
theorem dL_law_375 : decode cL_law 375 = .ok (.aload_n 1, 1) := by decide +kernel
theorem dL_law_376 : decode cL_law 376 = .ok (.aload_n 0, 1) := by decide +kernel
theorem dL_law_377 : decode cL_law 377 = .ok (.iload_n 3, 1) := by decide +kernel
theorem dL_law_378 : decode cL_law 378 = .ok (.iconst 1, 1) := by decide +kernel
theorem dL_law_379 : decode cL_law 379 = .ok (.iadd, 1) := by decide +kernel
theorem dL_law_380 : decode cL_law 380 = .ok (.iaload, 1) := by decide +kernel
theorem dL_law_381 : decode cL_law 381 = .ok (.aload_n 0, 1) := by decide +kernel
theorem dL_law_382 : decode cL_law 382 = .ok (.iload_n 3, 1) := by decide +kernel
theorem dL_law_383 : decode cL_law 383 = .ok (.iconst 2, 1) := by decide +kernel
theorem dL_law_384 : decode cL_law 384 = .ok (.iadd, 1) := by decide +kernel
theorem dL_law_385 : decode cL_law 385 = .ok (.iaload, 1) := by decide +kernel
theorem dL_law_386 : decode cL_law 386 = .ok (.invokevirtual 55, 3) := by decide +kernel
theorem dL_law_389 : decode cL_law 389 = .ok (.aload_n 2, 1) := by decide +kernel
theorem dL_law_390 : decode cL_law 390 = .ok (.aload_n 0, 1) := by decide +kernel
theorem dL_law_391 : decode cL_law 391 = .ok (.iload_n 3, 1) := by decide +kernel
theorem dL_law_392 : decode cL_law 392 = .ok (.iconst 1, 1) := by decide +kernel
theorem dL_law_393 : decode cL_law 393 = .ok (.iadd, 1) := by decide +kernel
theorem dL_law_394 : decode cL_law 394 = .ok (.iaload, 1) := by decide +kernel
theorem dL_law_395 : decode cL_law 395 = .ok (.aload_n 0, 1) := by decide +kernel
theorem dL_law_396 : decode cL_law 396 = .ok (.iload_n 3, 1) := by decide +kernel
theorem dL_law_397 : decode cL_law 397 = .ok (.iconst 2, 1) := by decide +kernel
theorem dL_law_398 : decode cL_law 398 = .ok (.iadd, 1) := by decide +kernel
theorem dL_law_399 : decode cL_law 399 = .ok (.iaload, 1) := by decide +kernel
theorem dL_law_400 : decode cL_law 400 = .ok (.invokevirtual 58, 3) := by decide +kernel
theorem dL_law_403 : decode cL_law 403 = .ok (.if_icmp .eq 362, 3) := by decide +kernel
theorem dL_law_406 : decode cL_law 406 = .ok (.iconst 0, 1) := by decide +kernel
theorem dL_law_407 : decode cL_law 407 = .ok (.ireturn, 1) := by decide +kernel
theorem dL_law_408 : decode cL_law 408 = .ok (.aload_n 1, 1) := by decide +kernel
theorem dL_law_409 : decode cL_law 409 = .ok (.aload_n 0, 1) := by decide +kernel
theorem dL_law_410 : decode cL_law 410 = .ok (.iload_n 3, 1) := by decide +kernel
theorem dL_law_411 : decode cL_law 411 = .ok (.iconst 1, 1) := by decide +kernel
theorem dL_law_412 : decode cL_law 412 = .ok (.iadd, 1) := by decide +kernel
theorem dL_law_413 : decode cL_law 413 = .ok (.iaload, 1) := by decide +kernel
theorem dL_law_414 : decode cL_law 414 = .ok (.aload_n 0, 1) := by decide +kernel
theorem dL_law_415 : decode cL_law 415 = .ok (.iload_n 3, 1) := by decide +kernel
theorem dL_law_416 : decode cL_law 416 = .ok (.iconst 2, 1) := by decide +kernel
theorem dL_law_417 : decode cL_law 417 = .ok (.iadd, 1) := by decide +kernel
theorem dL_law_418 : decode cL_law 418 = .ok (.iaload, 1) := by decide +kernel
theorem dL_law_419 : decode cL_law 419 = .ok (.invokevirtual 59, 3) := by decide +kernel
theorem dL_law_422 : decode cL_law 422 = .ok (.aload_n 2, 1) := by decide +kernel
theorem dL_law_423 : decode cL_law 423 = .ok (.aload_n 0, 1) := by decide +kernel
theorem dL_law_424 : decode cL_law 424 = .ok (.iload_n 3, 1) := by decide +kernel
theorem dL_law_425 : decode cL_law 425 = .ok (.iconst 1, 1) := by decide +kernel
theorem dL_law_426 : decode cL_law 426 = .ok (.iadd, 1) := by decide +kernel
theorem dL_law_427 : decode cL_law 427 = .ok (.iaload, 1) := by decide +kernel
theorem dL_law_428 : decode cL_law 428 = .ok (.aload_n 0, 1) := by decide +kernel
theorem dL_law_429 : decode cL_law 429 = .ok (.iload_n 3, 1) := by decide +kernel
theorem dL_law_430 : decode cL_law 430 = .ok (.iconst 2, 1) := by decide +kernel
theorem dL_law_431 : decode cL_law 431 = .ok (.iadd, 1) := by decide +kernel
theorem dL_law_432 : decode cL_law 432 = .ok (.iaload, 1) := by decide +kernel
theorem dL_law_433 : decode cL_law 433 = .ok (.invokevirtual 62, 3) := by decide +kernel
theorem dL_law_436 : decode cL_law 436 = .ok (.if_icmp .eq 329, 3) := by decide +kernel
theorem dL_law_439 : decode cL_law 439 = .ok (.iconst 0, 1) := by decide +kernel
theorem dL_law_440 : decode cL_law 440 = .ok (.ireturn, 1) := by decide +kernel
theorem dL_law_441 : decode cL_law 441 = .ok (.aload_n 1, 1) := by decide +kernel
theorem dL_law_442 : decode cL_law 442 = .ok (.invokevirtual 63, 3) := by decide +kernel
theorem dL_law_445 : decode cL_law 445 = .ok (.aload_n 2, 1) := by decide +kernel
theorem dL_law_446 : decode cL_law 446 = .ok (.invokevirtual 66, 3) := by decide +kernel
theorem dL_law_449 : decode cL_law 449 = .ok (.if_icmp .eq 316, 3) := by decide +kernel
theorem dL_law_452 : decode cL_law 452 = .ok (.iconst 0, 1) := by decide +kernel
theorem dL_law_453 : decode cL_law 453 = .ok (.ireturn, 1) := by decide +kernel
theorem dL_law_454 : decode cL_law 454 = .ok (.aload_n 1, 1) := by decide +kernel
theorem dL_law_455 : decode cL_law 455 = .ok (.invokevirtual 67, 3) := by decide +kernel
theorem dL_law_458 : decode cL_law 458 = .ok (.aload_n 2, 1) := by decide +kernel
theorem dL_law_459 : decode cL_law 459 = .ok (.invokevirtual 70, 3) := by decide +kernel
theorem dL_law_462 : decode cL_law 462 = .ok (.if_icmp .eq 303, 3) := by decide +kernel
theorem dL_law_465 : decode cL_law 465 = .ok (.iconst 0, 1) := by decide +kernel
theorem dL_law_466 : decode cL_law 466 = .ok (.ireturn, 1) := by decide +kernel
theorem dL_law_467 : decode cL_law 467 = .ok (.aload_n 1, 1) := by decide +kernel
theorem dL_law_468 : decode cL_law 468 = .ok (.invokevirtual 71, 3) := by decide +kernel
theorem dL_law_471 : decode cL_law 471 = .ok (.aload_n 2, 1) := by decide +kernel
theorem dL_law_472 : decode cL_law 472 = .ok (.invokevirtual 74, 3) := by decide +kernel
theorem dL_law_475 : decode cL_law 475 = .ok (.if_icmp .eq 290, 3) := by decide +kernel
theorem dL_law_478 : decode cL_law 478 = .ok (.iconst 0, 1) := by decide +kernel
theorem dL_law_479 : decode cL_law 479 = .ok (.ireturn, 1) := by decide +kernel
theorem dL_law_480 : decode cL_law 480 = .ok (.aload_n 1, 1) := by decide +kernel
theorem dL_law_481 : decode cL_law 481 = .ok (.invokevirtual 75, 3) := by decide +kernel
theorem dL_law_484 : decode cL_law 484 = .ok (.aload_n 2, 1) := by decide +kernel
theorem dL_law_485 : decode cL_law 485 = .ok (.invokevirtual 78, 3) := by decide +kernel
theorem dL_law_488 : decode cL_law 488 = .ok (.if_icmp .eq 277, 3) := by decide +kernel
theorem dL_law_491 : decode cL_law 491 = .ok (.iconst 0, 1) := by decide +kernel
theorem dL_law_492 : decode cL_law 492 = .ok (.ireturn, 1) := by decide +kernel
theorem dL_law_493 : decode cL_law 493 = .ok (.aload_n 1, 1) := by decide +kernel
theorem dL_law_494 : decode cL_law 494 = .ok (.aload_n 0, 1) := by decide +kernel
theorem dL_law_495 : decode cL_law 495 = .ok (.iload_n 3, 1) := by decide +kernel
theorem dL_law_496 : decode cL_law 496 = .ok (.iconst 1, 1) := by decide +kernel
theorem dL_law_497 : decode cL_law 497 = .ok (.iadd, 1) := by decide +kernel
theorem dL_law_498 : decode cL_law 498 = .ok (.iaload, 1) := by decide +kernel
theorem dL_law_499 : decode cL_law 499 = .ok (.aload_n 0, 1) := by decide +kernel
theorem dL_law_500 : decode cL_law 500 = .ok (.iload_n 3, 1) := by decide +kernel
theorem dL_law_501 : decode cL_law 501 = .ok (.iconst 2, 1) := by decide +kernel
theorem dL_law_502 : decode cL_law 502 = .ok (.iadd, 1) := by decide +kernel
theorem dL_law_503 : decode cL_law 503 = .ok (.iaload, 1) := by decide +kernel
theorem dL_law_504 : decode cL_law 504 = .ok (.aload_n 0, 1) := by decide +kernel
theorem dL_law_505 : decode cL_law 505 = .ok (.iload_n 3, 1) := by decide +kernel
theorem dL_law_506 : decode cL_law 506 = .ok (.iconst 3, 1) := by decide +kernel
theorem dL_law_507 : decode cL_law 507 = .ok (.iadd, 1) := by decide +kernel
theorem dL_law_508 : decode cL_law 508 = .ok (.iaload, 1) := by decide +kernel
theorem dL_law_509 : decode cL_law 509 = .ok (.aload_n 0, 1) := by decide +kernel
theorem dL_law_510 : decode cL_law 510 = .ok (.iload_n 3, 1) := by decide +kernel
theorem dL_law_511 : decode cL_law 511 = .ok (.iconst 4, 1) := by decide +kernel
theorem dL_law_512 : decode cL_law 512 = .ok (.iadd, 1) := by decide +kernel
theorem dL_law_513 : decode cL_law 513 = .ok (.iaload, 1) := by decide +kernel
theorem dL_law_514 : decode cL_law 514 = .ok (.invokevirtual 79, 3) := by decide +kernel
theorem dL_law_517 : decode cL_law 517 = .ok (.aload_n 2, 1) := by decide +kernel
theorem dL_law_518 : decode cL_law 518 = .ok (.aload_n 0, 1) := by decide +kernel
theorem dL_law_519 : decode cL_law 519 = .ok (.iload_n 3, 1) := by decide +kernel
theorem dL_law_520 : decode cL_law 520 = .ok (.iconst 1, 1) := by decide +kernel
theorem dL_law_521 : decode cL_law 521 = .ok (.iadd, 1) := by decide +kernel
theorem dL_law_522 : decode cL_law 522 = .ok (.iaload, 1) := by decide +kernel
theorem dL_law_523 : decode cL_law 523 = .ok (.aload_n 0, 1) := by decide +kernel
theorem dL_law_524 : decode cL_law 524 = .ok (.iload_n 3, 1) := by decide +kernel
theorem dL_law_525 : decode cL_law 525 = .ok (.iconst 2, 1) := by decide +kernel
theorem dL_law_526 : decode cL_law 526 = .ok (.iadd, 1) := by decide +kernel
theorem dL_law_527 : decode cL_law 527 = .ok (.iaload, 1) := by decide +kernel
theorem dL_law_528 : decode cL_law 528 = .ok (.aload_n 0, 1) := by decide +kernel
theorem dL_law_529 : decode cL_law 529 = .ok (.iload_n 3, 1) := by decide +kernel
end
section
theorem dL_law_530 : decode cL_law 530 = .ok (.iconst 3, 1) := by decide +kernel
theorem dL_law_531 : decode cL_law 531 = .ok (.iadd, 1) := by decide +kernel
theorem dL_law_532 : decode cL_law 532 = .ok (.iaload, 1) := by decide +kernel
theorem dL_law_533 : decode cL_law 533 = .ok (.aload_n 0, 1) := by decide +kernel
theorem dL_law_534 : decode cL_law 534 = .ok (.iload_n 3, 1) := by decide +kernel
theorem dL_law_535 : decode cL_law 535 = .ok (.iconst 4, 1) := by decide +kernel
theorem dL_law_536 : decode cL_law 536 = .ok (.iadd, 1) := by decide +kernel
theorem dL_law_537 : decode cL_law 537 = .ok (.iaload, 1) := by decide +kernel
theorem dL_law_538 : decode cL_law 538 = .ok (.invokevirtual 83, 3) := by decide +kernel
theorem dL_law_541 : decode cL_law 541 = .ok (.if_icmp .eq 224, 3) := by decide +kernel
theorem dL_law_544 : decode cL_law 544 = .ok (.iconst 0, 1) := by decide +kernel
theorem dL_law_545 : decode cL_law 545 = .ok (.ireturn, 1) := by decide +kernel
theorem dL_law_546 : decode cL_law 546 = .ok (.aload_n 1, 1) := by decide +kernel
theorem dL_law_547 : decode cL_law 547 = .ok (.aload_n 0, 1) := by decide +kernel
theorem dL_law_548 : decode cL_law 548 = .ok (.iload_n 3, 1) := by decide +kernel
theorem dL_law_549 : decode cL_law 549 = .ok (.iconst 1, 1) := by decide +kernel
theorem dL_law_550 : decode cL_law 550 = .ok (.iadd, 1) := by decide +kernel
theorem dL_law_551 : decode cL_law 551 = .ok (.iaload, 1) := by decide +kernel
theorem dL_law_552 : decode cL_law 552 = .ok (.aload_n 0, 1) := by decide +kernel
theorem dL_law_553 : decode cL_law 553 = .ok (.iload_n 3, 1) := by decide +kernel
theorem dL_law_554 : decode cL_law 554 = .ok (.iconst 2, 1) := by decide +kernel
theorem dL_law_555 : decode cL_law 555 = .ok (.iadd, 1) := by decide +kernel
theorem dL_law_556 : decode cL_law 556 = .ok (.iaload, 1) := by decide +kernel
theorem dL_law_557 : decode cL_law 557 = .ok (.invokevirtual 84, 3) := by decide +kernel
theorem dL_law_560 : decode cL_law 560 = .ok (.aload_n 2, 1) := by decide +kernel
theorem dL_law_561 : decode cL_law 561 = .ok (.aload_n 0, 1) := by decide +kernel
theorem dL_law_562 : decode cL_law 562 = .ok (.iload_n 3, 1) := by decide +kernel
theorem dL_law_563 : decode cL_law 563 = .ok (.iconst 1, 1) := by decide +kernel
theorem dL_law_564 : decode cL_law 564 = .ok (.iadd, 1) := by decide +kernel
theorem dL_law_565 : decode cL_law 565 = .ok (.iaload, 1) := by decide +kernel
theorem dL_law_566 : decode cL_law 566 = .ok (.aload_n 0, 1) := by decide +kernel
theorem dL_law_567 : decode cL_law 567 = .ok (.iload_n 3, 1) := by decide +kernel
theorem dL_law_568 : decode cL_law 568 = .ok (.iconst 2, 1) := by decide +kernel
theorem dL_law_569 : decode cL_law 569 = .ok (.iadd, 1) := by decide +kernel
theorem dL_law_570 : decode cL_law 570 = .ok (.iaload, 1) := by decide +kernel
theorem dL_law_571 : decode cL_law 571 = .ok (.invokevirtual 87, 3) := by decide +kernel
theorem dL_law_574 : decode cL_law 574 = .ok (.if_icmp .eq 191, 3) := by decide +kernel
theorem dL_law_577 : decode cL_law 577 = .ok (.iconst 0, 1) := by decide +kernel
theorem dL_law_578 : decode cL_law 578 = .ok (.ireturn, 1) := by decide +kernel
theorem dL_law_579 : decode cL_law 579 = .ok (.aload_n 1, 1) := by decide +kernel
theorem dL_law_580 : decode cL_law 580 = .ok (.invokevirtual 88, 3) := by decide +kernel
theorem dL_law_583 : decode cL_law 583 = .ok (.aload_n 2, 1) := by decide +kernel
theorem dL_law_584 : decode cL_law 584 = .ok (.invokevirtual 91, 3) := by decide +kernel
theorem dL_law_587 : decode cL_law 587 = .ok (.if_icmp .eq 178, 3) := by decide +kernel
theorem dL_law_590 : decode cL_law 590 = .ok (.iconst 0, 1) := by decide +kernel
theorem dL_law_591 : decode cL_law 591 = .ok (.ireturn, 1) := by decide +kernel
theorem dL_law_592 : decode cL_law 592 = .ok (.aload_n 1, 1) := by decide +kernel
theorem dL_law_593 : decode cL_law 593 = .ok (.invokevirtual 92, 3) := by decide +kernel
theorem dL_law_596 : decode cL_law 596 = .ok (.aload_n 2, 1) := by decide +kernel
theorem dL_law_597 : decode cL_law 597 = .ok (.invokevirtual 96, 3) := by decide +kernel
theorem dL_law_600 : decode cL_law 600 = .ok (.lcmp, 1) := by decide +kernel
theorem dL_law_601 : decode cL_law 601 = .ok (.ifCond .eq 164, 3) := by decide +kernel
theorem dL_law_604 : decode cL_law 604 = .ok (.iconst 0, 1) := by decide +kernel
theorem dL_law_605 : decode cL_law 605 = .ok (.ireturn, 1) := by decide +kernel
theorem dL_law_606 : decode cL_law 606 = .ok (.aload_n 1, 1) := by decide +kernel
theorem dL_law_607 : decode cL_law 607 = .ok (.aload_n 0, 1) := by decide +kernel
theorem dL_law_608 : decode cL_law 608 = .ok (.iload_n 3, 1) := by decide +kernel
theorem dL_law_609 : decode cL_law 609 = .ok (.iconst 1, 1) := by decide +kernel
theorem dL_law_610 : decode cL_law 610 = .ok (.iadd, 1) := by decide +kernel
theorem dL_law_611 : decode cL_law 611 = .ok (.iaload, 1) := by decide +kernel
theorem dL_law_612 : decode cL_law 612 = .ok (.invokevirtual 97, 3) := by decide +kernel
theorem dL_law_615 : decode cL_law 615 = .ok (.aload_n 2, 1) := by decide +kernel
theorem dL_law_616 : decode cL_law 616 = .ok (.aload_n 0, 1) := by decide +kernel
theorem dL_law_617 : decode cL_law 617 = .ok (.iload_n 3, 1) := by decide +kernel
theorem dL_law_618 : decode cL_law 618 = .ok (.iconst 1, 1) := by decide +kernel
theorem dL_law_619 : decode cL_law 619 = .ok (.iadd, 1) := by decide +kernel
theorem dL_law_620 : decode cL_law 620 = .ok (.iaload, 1) := by decide +kernel
theorem dL_law_621 : decode cL_law 621 = .ok (.invokevirtual 100, 3) := by decide +kernel
theorem dL_law_624 : decode cL_law 624 = .ok (.if_icmp .eq 141, 3) := by decide +kernel
theorem dL_law_627 : decode cL_law 627 = .ok (.iconst 0, 1) := by decide +kernel
theorem dL_law_628 : decode cL_law 628 = .ok (.ireturn, 1) := by decide +kernel
theorem dL_law_629 : decode cL_law 629 = .ok (.aload_n 1, 1) := by decide +kernel
theorem dL_law_630 : decode cL_law 630 = .ok (.aload_n 0, 1) := by decide +kernel
theorem dL_law_631 : decode cL_law 631 = .ok (.iload_n 3, 1) := by decide +kernel
theorem dL_law_632 : decode cL_law 632 = .ok (.iconst 1, 1) := by decide +kernel
theorem dL_law_633 : decode cL_law 633 = .ok (.iadd, 1) := by decide +kernel
theorem dL_law_634 : decode cL_law 634 = .ok (.iaload, 1) := by decide +kernel
theorem dL_law_635 : decode cL_law 635 = .ok (.aload_n 0, 1) := by decide +kernel
theorem dL_law_636 : decode cL_law 636 = .ok (.iload_n 3, 1) := by decide +kernel
theorem dL_law_637 : decode cL_law 637 = .ok (.iconst 2, 1) := by decide +kernel
theorem dL_law_638 : decode cL_law 638 = .ok (.iadd, 1) := by decide +kernel
theorem dL_law_639 : decode cL_law 639 = .ok (.iaload, 1) := by decide +kernel
theorem dL_law_640 : decode cL_law 640 = .ok (.aload_n 0, 1) := by decide +kernel
theorem dL_law_641 : decode cL_law 641 = .ok (.iload_n 3, 1) := by decide +kernel
theorem dL_law_642 : decode cL_law 642 = .ok (.iconst 3, 1) := by decide +kernel
theorem dL_law_643 : decode cL_law 643 = .ok (.iadd, 1) := by decide +kernel
theorem dL_law_644 : decode cL_law 644 = .ok (.iaload, 1) := by decide +kernel
theorem dL_law_645 : decode cL_law 645 = .ok (.invokevirtual 101, 3) := by decide +kernel
theorem dL_law_648 : decode cL_law 648 = .ok (.aload_n 2, 1) := by decide +kernel
theorem dL_law_649 : decode cL_law 649 = .ok (.aload_n 0, 1) := by decide +kernel
theorem dL_law_650 : decode cL_law 650 = .ok (.iload_n 3, 1) := by decide +kernel
theorem dL_law_651 : decode cL_law 651 = .ok (.iconst 1, 1) := by decide +kernel
theorem dL_law_652 : decode cL_law 652 = .ok (.iadd, 1) := by decide +kernel
theorem dL_law_653 : decode cL_law 653 = .ok (.iaload, 1) := by decide +kernel
theorem dL_law_654 : decode cL_law 654 = .ok (.aload_n 0, 1) := by decide +kernel
theorem dL_law_655 : decode cL_law 655 = .ok (.iload_n 3, 1) := by decide +kernel
theorem dL_law_656 : decode cL_law 656 = .ok (.iconst 2, 1) := by decide +kernel
theorem dL_law_657 : decode cL_law 657 = .ok (.iadd, 1) := by decide +kernel
theorem dL_law_658 : decode cL_law 658 = .ok (.iaload, 1) := by decide +kernel
theorem dL_law_659 : decode cL_law 659 = .ok (.aload_n 0, 1) := by decide +kernel
theorem dL_law_660 : decode cL_law 660 = .ok (.iload_n 3, 1) := by decide +kernel
theorem dL_law_661 : decode cL_law 661 = .ok (.iconst 3, 1) := by decide +kernel
theorem dL_law_662 : decode cL_law 662 = .ok (.iadd, 1) := by decide +kernel
theorem dL_law_663 : decode cL_law 663 = .ok (.iaload, 1) := by decide +kernel
theorem dL_law_664 : decode cL_law 664 = .ok (.invokevirtual 105, 3) := by decide +kernel
theorem dL_law_667 : decode cL_law 667 = .ok (.lcmp, 1) := by decide +kernel
theorem dL_law_668 : decode cL_law 668 = .ok (.ifCond .eq 97, 3) := by decide +kernel
theorem dL_law_671 : decode cL_law 671 = .ok (.iconst 0, 1) := by decide +kernel
theorem dL_law_672 : decode cL_law 672 = .ok (.ireturn, 1) := by decide +kernel
theorem dL_law_673 : decode cL_law 673 = .ok (.aload_n 1, 1) := by decide +kernel
theorem dL_law_674 : decode cL_law 674 = .ok (.aload_n 0, 1) := by decide +kernel
theorem dL_law_675 : decode cL_law 675 = .ok (.iload_n 3, 1) := by decide +kernel
theorem dL_law_676 : decode cL_law 676 = .ok (.iconst 1, 1) := by decide +kernel
theorem dL_law_677 : decode cL_law 677 = .ok (.iadd, 1) := by decide +kernel
theorem dL_law_678 : decode cL_law 678 = .ok (.iaload, 1) := by decide +kernel
theorem dL_law_679 : decode cL_law 679 = .ok (.aload_n 0, 1) := by decide +kernel
theorem dL_law_680 : decode cL_law 680 = .ok (.iload_n 3, 1) := by decide +kernel
theorem dL_law_681 : decode cL_law 681 = .ok (.iconst 2, 1) := by decide +kernel
theorem dL_law_682 : decode cL_law 682 = .ok (.iadd, 1) := by decide +kernel
theorem dL_law_683 : decode cL_law 683 = .ok (.iaload, 1) := by decide +kernel
theorem dL_law_684 : decode cL_law 684 = .ok (.aload_n 0, 1) := by decide +kernel
theorem dL_law_685 : decode cL_law 685 = .ok (.iload_n 3, 1) := by decide +kernel
theorem dL_law_686 : decode cL_law 686 = .ok (.iconst 3, 1) := by decide +kernel
theorem dL_law_687 : decode cL_law 687 = .ok (.iadd, 1) := by decide +kernel
theorem dL_law_688 : decode cL_law 688 = .ok (.iaload, 1) := by decide +kernel
theorem dL_law_689 : decode cL_law 689 = .ok (.invokevirtual 106, 3) := by decide +kernel
theorem dL_law_692 : decode cL_law 692 = .ok (.aload_n 2, 1) := by decide +kernel
theorem dL_law_693 : decode cL_law 693 = .ok (.aload_n 0, 1) := by decide +kernel
theorem dL_law_694 : decode cL_law 694 = .ok (.iload_n 3, 1) := by decide +kernel
theorem dL_law_695 : decode cL_law 695 = .ok (.iconst 1, 1) := by decide +kernel
theorem dL_law_696 : decode cL_law 696 = .ok (.iadd, 1) := by decide +kernel
theorem dL_law_697 : decode cL_law 697 = .ok (.iaload, 1) := by decide +kernel
theorem dL_law_698 : decode cL_law 698 = .ok (.aload_n 0, 1) := by decide +kernel
theorem dL_law_699 : decode cL_law 699 = .ok (.iload_n 3, 1) := by decide +kernel
theorem dL_law_700 : decode cL_law 700 = .ok (.iconst 2, 1) := by decide +kernel
theorem dL_law_701 : decode cL_law 701 = .ok (.iadd, 1) := by decide +kernel
theorem dL_law_702 : decode cL_law 702 = .ok (.iaload, 1) := by decide +kernel
theorem dL_law_703 : decode cL_law 703 = .ok (.aload_n 0, 1) := by decide +kernel
theorem dL_law_704 : decode cL_law 704 = .ok (.iload_n 3, 1) := by decide +kernel
theorem dL_law_705 : decode cL_law 705 = .ok (.iconst 3, 1) := by decide +kernel
theorem dL_law_706 : decode cL_law 706 = .ok (.iadd, 1) := by decide +kernel
theorem dL_law_707 : decode cL_law 707 = .ok (.iaload, 1) := by decide +kernel
theorem dL_law_708 : decode cL_law 708 = .ok (.invokevirtual 110, 3) := by decide +kernel
theorem dL_law_711 : decode cL_law 711 = .ok (.if_icmp .eq 54, 3) := by decide +kernel
theorem dL_law_714 : decode cL_law 714 = .ok (.iconst 0, 1) := by decide +kernel
theorem dL_law_715 : decode cL_law 715 = .ok (.ireturn, 1) := by decide +kernel
theorem dL_law_716 : decode cL_law 716 = .ok (.aload_n 1, 1) := by decide +kernel
theorem dL_law_717 : decode cL_law 717 = .ok (.invokevirtual 111, 3) := by decide +kernel
theorem dL_law_720 : decode cL_law 720 = .ok (.aload_n 2, 1) := by decide +kernel
theorem dL_law_721 : decode cL_law 721 = .ok (.invokevirtual 114, 3) := by decide +kernel
theorem dL_law_724 : decode cL_law 724 = .ok (.if_icmp .eq 41, 3) := by decide +kernel
theorem dL_law_727 : decode cL_law 727 = .ok (.iconst 0, 1) := by decide +kernel
theorem dL_law_728 : decode cL_law 728 = .ok (.ireturn, 1) := by decide +kernel
theorem dL_law_729 : decode cL_law 729 = .ok (.aload_n 1, 1) := by decide +kernel
theorem dL_law_730 : decode cL_law 730 = .ok (.invokevirtual 115, 3) := by decide +kernel
theorem dL_law_733 : decode cL_law 733 = .ok (.aload_n 2, 1) := by decide +kernel
theorem dL_law_734 : decode cL_law 734 = .ok (.invokevirtual 118, 3) := by decide +kernel
theorem dL_law_737 : decode cL_law 737 = .ok (.if_icmp .eq 28, 3) := by decide +kernel
theorem dL_law_740 : decode cL_law 740 = .ok (.iconst 0, 1) := by decide +kernel
theorem dL_law_741 : decode cL_law 741 = .ok (.ireturn, 1) := by decide +kernel
theorem dL_law_742 : decode cL_law 742 = .ok (.aload_n 1, 1) := by decide +kernel
theorem dL_law_743 : decode cL_law 743 = .ok (.aload_n 0, 1) := by decide +kernel
theorem dL_law_744 : decode cL_law 744 = .ok (.iload_n 3, 1) := by decide +kernel
theorem dL_law_745 : decode cL_law 745 = .ok (.iconst 1, 1) := by decide +kernel
theorem dL_law_746 : decode cL_law 746 = .ok (.iadd, 1) := by decide +kernel
theorem dL_law_747 : decode cL_law 747 = .ok (.iaload, 1) := by decide +kernel
theorem dL_law_748 : decode cL_law 748 = .ok (.invokevirtual 119, 3) := by decide +kernel
theorem dL_law_751 : decode cL_law 751 = .ok (.aload_n 2, 1) := by decide +kernel
theorem dL_law_752 : decode cL_law 752 = .ok (.aload_n 0, 1) := by decide +kernel
theorem dL_law_753 : decode cL_law 753 = .ok (.iload_n 3, 1) := by decide +kernel
theorem dL_law_754 : decode cL_law 754 = .ok (.iconst 1, 1) := by decide +kernel
theorem dL_law_755 : decode cL_law 755 = .ok (.iadd, 1) := by decide +kernel
theorem dL_law_756 : decode cL_law 756 = .ok (.iaload, 1) := by decide +kernel
theorem dL_law_757 : decode cL_law 757 = .ok (.invokevirtual 122, 3) := by decide +kernel
theorem dL_law_760 : decode cL_law 760 = .ok (.if_icmp .eq 5, 3) := by decide +kernel
theorem dL_law_763 : decode cL_law 763 = .ok (.iconst 0, 1) := by decide +kernel
theorem dL_law_764 : decode cL_law 764 = .ok (.ireturn, 1) := by decide +kernel
theorem dL_law_765 : decode cL_law 765 = .ok (.iinc 3 5, 3) := by decide +kernel
theorem dL_law_768 : decode cL_law 768 = .ok (.goto (-750), 3) := by decide +kernel
theorem dL_law_771 : decode cL_law 771 = .ok (.iconst 1, 1) := by decide +kernel
theorem dL_law_772 : decode cL_law 772 = .ok (.ireturn, 1) := by decide +kernel
end
section
/-- a word that stays as classes warm up: the kit's good ones, and links to a nest mate's members -/
def kw_good : Cond → Bool
  | .fieldLinkNest .. => true
  | .methodLinkNest .. => true
  | .arrayClass _ => true
  | w => w.onTables && w.keeps
theorem kw_warm {w : Cond} (h : kw_good w = true) {args a' : Array Value} {s U : State} (hW : s.WarmedH U.vm) (hb : w.before args s = true) : w.before a' U = true := by
  cases w
  case fieldLinkNest a i b n d h2 => exact va_Nw.use rfl (va_Nw.warmF hW (va_Nw.of rfl hb))
  case methodLinkNest a i x h2 => exact va_Nw.use rfl (va_Nw.warmM hW (va_Nw.of rfl hb))
  case arrayClass ty => exact word_at hW (Or.inr ⟨ty, rfl⟩) hb
  all_goals exact word_at hW (Or.inl h) hb
/-- the tables' words that every method is given -/
def kT : List Cond := lw_tbl.filter kw_good
theorem kT_in {w : Cond} (i : Nat) (h : lw_tbl[i]? = some w) (hg : kw_good w = true) : w ∈ kT := List.mem_filter.mpr ⟨List.mem_of_getElem? h, hg⟩
theorem kT_warm {args : Array Value} {s : State} (hts : ∀ w ∈ kT, w.before args s = true) : ∀ w ∈ kT, ∀ (a' : Array Value) (U : State), s.WarmedH U.vm → w.before a' U = true := fun w hw _ _ hW => kw_warm (List.mem_filter.mp hw).2 hW (hts w hw)
/-- class ids and addresses: the kit's D, the address of each cell, the array classes of byte, int, long, boolean -/
abbrev KX : Type := va_G × (Nat → Nat) × ClassId × ClassId × ClassId × ClassId
/-- a memory: ints by cell and place, longs by cell and place, references that change -/
abbrev Mm : Type := (Nat → Nat → Int32) × (Nat → Nat → Int64) × (Nat → Nat)
/-- a shape: how many cells, what each is, what holds of the references -/
abbrev KD : Type := Nat × (KX → (Nat → Int32) → (Nat → Int64) → (Nat → Nat) → Nat → va_E) × ((Nat → Nat) → Prop)
def kwi (σ : Mm) (k j : Nat) (v : Int32) : Mm := (fun a => if a = k then upd (σ.1 a) j v else σ.1 a, σ.2)
def kwl (σ : Mm) (k j : Nat) (v : Int64) : Mm := (σ.1, fun a => if a = k then vp_updL (σ.2.1 a) j v else σ.2.1 a, σ.2.2)
def kwr (σ : Mm) (i v : Nat) : Mm := (σ.1, σ.2.1, fun a => if a = i then v else σ.2.2 a)
def kwL (Z : KD) (X : KX) (σ : Mm) : va_W := (List.range Z.1).map (fun k => (X.2.1 k, Z.2.1 X (σ.1 k) (σ.2.1 k) σ.2.2 k))
def kwT (X : KX) : List (ClassId × FieldType) := [(X.2.2.1, .byte), (X.2.2.2.1, .int), (X.2.2.2.2.1, .long), (X.2.2.2.2.2, .boolean)]
def kA (Z : KD) (X : KX) : Nat → Prop := fun q => ∃ k, k < Z.1 ∧ X.2.1 k = q
def kS (Z : KD) (X : KX) (A : Nat → Prop) (s : State) : Prop := va_K X.1 vwCl (kwT X) s ∧ (∀ i j, i < Z.1 → j < Z.1 → X.2.1 i = X.2.1 j → i = j) ∧ ∀ k, k < Z.1 → A (X.2.1 k)
def kW (Z : KD) (X : KX) (A : Nat → Prop) (s : State) (σ : Mm) (H : Heap) (locs : List Loc) : Prop := va_P X.1 vwCl (kwL Z X σ) H ∧ va_S A s.heap H locs ∧ Z.2.2 σ.2.2
def kPre (Z : KD) (X : KX) (σ : Mm) (U : State) : Prop := va_P X.1 vwCl (kwL Z X σ) U.heap ∧ va_K X.1 vwCl (kwT X) U ∧ (∀ i j, i < Z.1 → j < Z.1 → X.2.1 i = X.2.1 j → i = j) ∧ Z.2.2 σ.2.2
def kIsO (Z : KD) (X : KX) (k ci : Nat) (fl : KX → (Nat → Int32) → (Nat → Nat) → Nat → List Value) : Prop := k < Z.1 ∧ ∀ ri rl rr, Z.2.1 X ri rl rr k = .inr (ci, fl X ri rr k)
def kIsI (Z : KD) (X : KX) (k n : Nat) : Prop := k < Z.1 ∧ ∀ ri rl rr, Z.2.1 X ri rl rr k = .inl (X.2.2.2.1, n, .inl ri)
def kIsB (Z : KD) (X : KX) (k n : Nat) : Prop := k < Z.1 ∧ ∀ ri rl rr, Z.2.1 X ri rl rr k = .inl (X.2.2.1, n, .inl ri)
def kIsZ (Z : KD) (X : KX) (k n : Nat) : Prop := k < Z.1 ∧ ∀ ri rl rr, Z.2.1 X ri rl rr k = .inl (X.2.2.2.2.2, n, .inl ri)
def kIsJ (Z : KD) (X : KX) (k n : Nat) : Prop := k < Z.1 ∧ ∀ ri rl rr, Z.2.1 X ri rl rr k = .inl (X.2.2.2.2.1, n, .inr (.inl rl))
theorem kw_at {Z : KD} {X : KX} {σ : Mm} {k : Nat} (h : k < Z.1) : (kwL Z X σ)[k]? = some (X.2.1 k, Z.2.1 X (σ.1 k) (σ.2.1 k) σ.2.2 k) := by
  unfold kwL
  rw [List.getElem?_map, List.getElem?_range h]
  rfl
theorem kw_len {Z : KD} {X : KX} {σ : Mm} : (kwL Z X σ).length = Z.1 := by simp [kwL]
theorem kw_set {Z : KD} {X : KX} {σ σ' : Mm} {k : Nat} {e : va_E} (h : k < Z.1) (h1 : Z.2.1 X (σ'.1 k) (σ'.2.1 k) σ'.2.2 k = e) (h2 : ∀ i, i ≠ k → Z.2.1 X (σ'.1 i) (σ'.2.1 i) σ'.2.2 i = Z.2.1 X (σ.1 i) (σ.2.1 i) σ.2.2 i) : (kwL Z X σ).set k (X.2.1 k, e) = kwL Z X σ' := by
  apply List.ext_getElem?
  intro i
  by_cases hi : i < Z.1
  · by_cases hik : i = k
    · subst hik
      rw [List.getElem?_set_self (by rw [kw_len]; exact hi), kw_at hi, h1]
    · rw [List.getElem?_set_ne (Ne.symm hik), kw_at hi, kw_at hi, h2 i hik]
  · rw [List.getElem?_eq_none (by rw [List.length_set, kw_len]; omega), List.getElem?_eq_none (by rw [kw_len]; omega)]
theorem kw_D {Z : KD} {X : KX} {A : Nat → Prop} {s : State} (hS : kS Z X A s) (σ : Mm) : va_D A (kwL Z X σ) := by
  have key : ∀ (k : Nat) (q : Nat × va_E), (kwL Z X σ)[k]? = some q → k < Z.1 ∧ q.1 = X.2.1 k := by
    intro k q h
    have hk : k < Z.1 := by
      have := (List.getElem?_eq_some_iff.mp h).1
      rw [kw_len] at this
      exact this
    rw [kw_at hk] at h
    cases h
    exact ⟨hk, rfl⟩
  refine ⟨fun i j p q hi hj he => ?_, fun k q hk => ?_⟩
  · obtain ⟨a1, a2⟩ := key i p hi
    obtain ⟨b1, b2⟩ := key j q hj
    exact hS.2.1 i j a1 b1 (by rw [← a2, ← b2]; exact he)
  · obtain ⟨a1, a2⟩ := key k q hk
    rw [a2]
    exact hS.2.2 k a1
theorem kw_atO {Z : KD} {X : KX} {σ : Mm} {k ci : Nat} {fl : KX → (Nat → Int32) → (Nat → Nat) → Nat → List Value} (h : kIsO Z X k ci fl) : (kwL Z X σ)[k]? = some (X.2.1 k, .inr (ci, fl X (σ.1 k) σ.2.2 k)) := by rw [kw_at h.1, h.2]
theorem kw_atI {Z : KD} {X : KX} {σ : Mm} {k n : Nat} (h : kIsI Z X k n) : (kwL Z X σ)[k]? = some (X.2.1 k, .inl (X.2.2.2.1, n, .inl (σ.1 k))) := by rw [kw_at h.1, h.2]
theorem kw_atB {Z : KD} {X : KX} {σ : Mm} {k n : Nat} (h : kIsB Z X k n) : (kwL Z X σ)[k]? = some (X.2.1 k, .inl (X.2.2.1, n, .inl (σ.1 k))) := by rw [kw_at h.1, h.2]
theorem kw_atZ {Z : KD} {X : KX} {σ : Mm} {k n : Nat} (h : kIsZ Z X k n) : (kwL Z X σ)[k]? = some (X.2.1 k, .inl (X.2.2.2.2.2, n, .inl (σ.1 k))) := by rw [kw_at h.1, h.2]
theorem kw_atJ {Z : KD} {X : KX} {σ : Mm} {k n : Nat} (h : kIsJ Z X k n) : (kwL Z X σ)[k]? = some (X.2.1 k, .inl (X.2.2.2.2.1, n, .inr (.inl (σ.2.1 k)))) := by rw [kw_at h.1, h.2]
theorem kwi_same (σ : Mm) (k j : Nat) (v : Int32) : (kwi σ k j v).1 k = upd (σ.1 k) j v := if_pos rfl
theorem kwi_ne (σ : Mm) {k i : Nat} (j : Nat) (v : Int32) (h : i ≠ k) : (kwi σ k j v).1 i = σ.1 i := if_neg h
theorem kwl_same (σ : Mm) (k j : Nat) (v : Int64) : (kwl σ k j v).2.1 k = vp_updL (σ.2.1 k) j v := if_pos rfl
theorem kwl_ne (σ : Mm) {k i : Nat} (j : Nat) (v : Int64) (h : i ≠ k) : (kwl σ k j v).2.1 i = σ.2.1 i := if_neg h
theorem kw_setI {Z : KD} {X : KX} {σ : Mm} {k j : Nat} {v : Int32} {e : va_E} (h : k < Z.1) (h1 : Z.2.1 X (upd (σ.1 k) j v) (σ.2.1 k) σ.2.2 k = e) : (kwL Z X σ).set k (X.2.1 k, e) = kwL Z X (kwi σ k j v) :=
  kw_set h (by rw [kwi_same]; exact h1) (fun i hi => by rw [kwi_ne σ j v hi]; rfl)
theorem kw_setL {Z : KD} {X : KX} {σ : Mm} {k j : Nat} {v : Int64} {e : va_E} (h : k < Z.1) (h1 : Z.2.1 X (σ.1 k) (vp_updL (σ.2.1 k) j v) σ.2.2 k = e) : (kwL Z X σ).set k (X.2.1 k, e) = kwL Z X (kwl σ k j v) :=
  kw_set h (by rw [kwl_same]; exact h1) (fun i hi => by rw [kwl_ne σ j v hi]; rfl)
theorem kin_of {i : Int32} {n : Nat} (h : 0 ≤ i ∧ i < nI n) (hn : n < 2 ^ 31) : vp_in i n := by
  rw [vp_in_iff]
  have h1 := Int32.le_iff_toInt_le.mp h.1
  have h2 := Int32.lt_iff_toInt_lt.mp h.2
  rw [nI_toInt hn] at h2
  exact ⟨h1, h2⟩
end
section
section KR
variable {p : Program} {l : Launch} {e : Env} {R : Room} {s : State} {m : MethodId} {args : Array Value} {below : List Frame} {meth : Method} {c : Code} {H : Heap} {locs : List Loc} {cells slots : Nat} {Q : State → Prop}
variable {cc : ByteArray} {pc : Nat} {ls : Array Slot} {rest : List Value} {Z : KD} {X : KX} {A : Nat → Prop} {σ : Mm}
/-- getfield -/
theorem kget {own ref C : String} {T : u_T} {N ci index k : Nat} {fl : KX → (Nat → Int32) → (Nat → Nat) → Nat → List Value} {v : Value} (hx : p.tables.exec = Jvm.exec) (hb : c.code = cc) (hts : ∀ w ∈ kT, w.before args s = true) (hown : s.vm.findClass own = some m.cls) (hS : kS Z X A s) (hW : kW Z X A s σ H locs) (hin : ∀ w ∈ u_ws C T N, w ∈ kT) (hk : kIsO Z X k ci fl) (hc : vwCl[ci]? = some (C, T, N)) (j : Nat) (hj : j < N) (hlink : Cond.fieldLink own index ref (T j).2.1 (T j).2.2.1 ∈ kT) (hr : ref = (T j).1) (hv : (fl X (σ.1 k) σ.2.2 k)[j]? = some v) (hdg : decode cc pc = .ok (.getfield index, 3))
    (kk : W p l e R s m args below meth c H locs cells slots Q (F0 m (pc + 3) ls (v :: rest))) : W p l e R s m args below meth c H locs cells slots Q (F0 m pc ls (.ref (X.2.1 k) :: rest)) :=
  va_get hx hb hts hin hown hS.1 hW.1 k (kw_atO hk) hc j hj (hts _ hlink) (by rw [hr]; exact fun _ h => h) hv hdg kk
theorem kgetN {own ref C host : String} {T : u_T} {N ci index k : Nat} {fl : KX → (Nat → Int32) → (Nat → Nat) → Nat → List Value} {v : Value} (hx : p.tables.exec = Jvm.exec) (hb : c.code = cc) (hts : ∀ w ∈ kT, w.before args s = true) (hown : s.vm.findClass own = some m.cls) (hS : kS Z X A s) (hW : kW Z X A s σ H locs) (hin : ∀ w ∈ u_ws C T N, w ∈ kT) (hk : kIsO Z X k ci fl) (hc : vwCl[ci]? = some (C, T, N)) (j : Nat) (hj : j < N) (hlink : Cond.fieldLinkNest own index ref (T j).2.1 (T j).2.2.1 host ∈ kT) (hr : ref = (T j).1) (hv : (fl X (σ.1 k) σ.2.2 k)[j]? = some v) (hdg : decode cc pc = .ok (.getfield index, 3))
    (kk : W p l e R s m args below meth c H locs cells slots Q (F0 m (pc + 3) ls (v :: rest))) : W p l e R s m args below meth c H locs cells slots Q (F0 m pc ls (.ref (X.2.1 k) :: rest)) :=
  va_getN hx hb hts hin hown hS.1 hW.1 k (kw_atO hk) hc j hj (hts _ hlink) (by rw [hr]; exact fun _ h => h) hv hdg kk
/-- putfield of an int (or a boolean that is 0 or 1) -/
theorem kput {own ref C : String} {T : u_T} {N ci index k : Nat} {fl : KX → (Nat → Int32) → (Nat → Nat) → Nat → List Value} {v : Int32} {ty : FieldType} (hx : p.tables.exec = Jvm.exec) (hb : c.code = cc) (hts : ∀ w ∈ kT, w.before args s = true) (hown : s.vm.findClass own = some m.cls) (hS : kS Z X A s) (hW : kW Z X A s σ H locs) (hin : ∀ w ∈ u_ws C T N, w ∈ kT) (ty0 : Nat → FieldType) (hty : ∀ k, k < N → parseFieldDescriptor (T k).2.2.1 = some (ty0 k)) (hnm : ∀ a, a < N → ∀ b, b < N → a ≠ b → (T a).2.1 ≠ (T b).2.1) (hk : kIsO Z X k ci fl) (hc : vwCl[ci]? = some (C, T, N)) (j : Nat) (hj : j < N) (hlink : Cond.fieldLink own index ref (T j).2.1 (T j).2.2.1 ∈ kT) (hr : ref = (T j).1) (hfin : (T j).2.2.2 = false) (hd : parseFieldDescriptor (T j).2.2.1 = some ty) (hn : narrow ty (.int v) = .int v) (hfit : fits ty (.int v) = true) (hl : j < (fl X (σ.1 k) σ.2.2 k).length) (hset : fl X (upd (σ.1 k) j v) σ.2.2 k = (fl X (σ.1 k) σ.2.2 k).set j (.int v)) (hdg : decode cc pc = .ok (.putfield index, 3))
    (kk : ∀ (σ1 : Mm) (H1 : Heap) (locs1 : List Loc), σ1 = kwi σ k j v → kW Z X A s σ1 H1 locs1 → W p l e R s m args below meth c H1 locs1 cells slots Q (F0 m (pc + 3) ls rest)) : W p l e R s m args below meth c H locs cells slots Q (F0 m pc ls (.int v :: .ref (X.2.1 k) :: rest)) := by
  refine va_put hx hb hts hin ty0 hty hnm hown hS.1 hW.1 (kw_D hS σ) hW.2.1 k (kw_atO hk) hc j hj (hts _ hlink) (by rw [hr]; exact fun _ h => h) hfin hd hn hfit hl hdg (fun H1 locs1 hP hD hS1 => kk _ H1 locs1 rfl ⟨?_, hS1, hW.2.2⟩)
  rw [kw_setI (j := j) (v := v) hk.1 (by rw [hk.2, hset])] at hP
  exact hP
theorem kputN {own ref C host : String} {T : u_T} {N ci index k : Nat} {fl : KX → (Nat → Int32) → (Nat → Nat) → Nat → List Value} {v : Int32} {ty : FieldType} (hx : p.tables.exec = Jvm.exec) (hb : c.code = cc) (hts : ∀ w ∈ kT, w.before args s = true) (hown : s.vm.findClass own = some m.cls) (hS : kS Z X A s) (hW : kW Z X A s σ H locs) (hin : ∀ w ∈ u_ws C T N, w ∈ kT) (ty0 : Nat → FieldType) (hty : ∀ k, k < N → parseFieldDescriptor (T k).2.2.1 = some (ty0 k)) (hnm : ∀ a, a < N → ∀ b, b < N → a ≠ b → (T a).2.1 ≠ (T b).2.1) (hk : kIsO Z X k ci fl) (hc : vwCl[ci]? = some (C, T, N)) (j : Nat) (hj : j < N) (hlink : Cond.fieldLinkNest own index ref (T j).2.1 (T j).2.2.1 host ∈ kT) (hr : ref = (T j).1) (hfin : (T j).2.2.2 = false) (hd : parseFieldDescriptor (T j).2.2.1 = some ty) (hn : narrow ty (.int v) = .int v) (hfit : fits ty (.int v) = true) (hl : j < (fl X (σ.1 k) σ.2.2 k).length) (hset : fl X (upd (σ.1 k) j v) σ.2.2 k = (fl X (σ.1 k) σ.2.2 k).set j (.int v)) (hdg : decode cc pc = .ok (.putfield index, 3))
    (kk : ∀ (σ1 : Mm) (H1 : Heap) (locs1 : List Loc), σ1 = kwi σ k j v → kW Z X A s σ1 H1 locs1 → W p l e R s m args below meth c H1 locs1 cells slots Q (F0 m (pc + 3) ls rest)) : W p l e R s m args below meth c H locs cells slots Q (F0 m pc ls (.int v :: .ref (X.2.1 k) :: rest)) := by
  refine va_putN hx hb hts hin ty0 hty hnm hown hS.1 hW.1 (kw_D hS σ) hW.2.1 k (kw_atO hk) hc j hj (hts _ hlink) (by rw [hr]; exact fun _ h => h) hfin hd hn hfit hl hdg (fun H1 locs1 hP hD hS1 => kk _ H1 locs1 rfl ⟨?_, hS1, hW.2.2⟩)
  rw [kw_setI (j := j) (v := v) hk.1 (by rw [hk.2, hset])] at hP
  exact hP
/-- putfield of a reference that may change -/
theorem kputR {own ref C : String} {T : u_T} {N ci index k i v : Nat} {fl : KX → (Nat → Int32) → (Nat → Nat) → Nat → List Value} {ty : FieldType} (hx : p.tables.exec = Jvm.exec) (hb : c.code = cc) (hts : ∀ w ∈ kT, w.before args s = true) (hown : s.vm.findClass own = some m.cls) (hS : kS Z X A s) (hW : kW Z X A s σ H locs) (hin : ∀ w ∈ u_ws C T N, w ∈ kT) (ty0 : Nat → FieldType) (hty : ∀ k, k < N → parseFieldDescriptor (T k).2.2.1 = some (ty0 k)) (hnm : ∀ a, a < N → ∀ b, b < N → a ≠ b → (T a).2.1 ≠ (T b).2.1) (hk : kIsO Z X k ci fl) (hc : vwCl[ci]? = some (C, T, N)) (j : Nat) (hj : j < N) (hlink : Cond.fieldLink own index ref (T j).2.1 (T j).2.2.1 ∈ kT) (hr : ref = (T j).1) (hfin : (T j).2.2.2 = false) (hd : parseFieldDescriptor (T j).2.2.1 = some ty) (hn : narrow ty (.ref (X.2.1 v)) = .ref (X.2.1 v)) (hfit : fits ty (.ref (X.2.1 v)) = true) (hl : j < (fl X (σ.1 k) σ.2.2 k).length) (hset : fl X (σ.1 k) (kwr σ i v).2.2 k = (fl X (σ.1 k) σ.2.2 k).set j (.ref (X.2.1 v))) (hrest : ∀ q, q ≠ k → Z.2.1 X (σ.1 q) (σ.2.1 q) (kwr σ i v).2.2 q = Z.2.1 X (σ.1 q) (σ.2.1 q) σ.2.2 q) (hok : Z.2.2 (kwr σ i v).2.2) (hdg : decode cc pc = .ok (.putfield index, 3))
    (kk : ∀ (σ1 : Mm) (H1 : Heap) (locs1 : List Loc), σ1 = kwr σ i v → kW Z X A s σ1 H1 locs1 → W p l e R s m args below meth c H1 locs1 cells slots Q (F0 m (pc + 3) ls rest)) : W p l e R s m args below meth c H locs cells slots Q (F0 m pc ls (.ref (X.2.1 v) :: .ref (X.2.1 k) :: rest)) := by
  refine va_put hx hb hts hin ty0 hty hnm hown hS.1 hW.1 (kw_D hS σ) hW.2.1 k (kw_atO hk) hc j hj (hts _ hlink) (by rw [hr]; exact fun _ h => h) hfin hd hn hfit hl hdg (fun H1 locs1 hP hD hS1 => kk _ H1 locs1 rfl ⟨?_, hS1, hok⟩)
  rw [kw_set (σ' := kwr σ i v) hk.1 ((hk.2 _ _ _).trans (by rw [← hset]; rfl)) hrest] at hP
  exact hP
/-- arrays -/
theorem kiald {k n : Nat} (j : Nat) (hx : p.tables.exec = Jvm.exec) (hb : c.code = cc) (hS : kS Z X A s) (hW : kW Z X A s σ H locs) (hk : kIsI Z X k n) {i : Int32} (hj : i.toNatClampNeg = j) (hin : vp_in i n) (hdg : decode cc pc = .ok (.iaload, 1))
    (kk : W p l e R s m args below meth c H locs cells slots Q (F0 m (pc + 1) ls (.int (σ.1 k j) :: rest))) : W p l e R s m args below meth c H locs cells slots Q (F0 m pc ls (.int i :: .ref (X.2.1 k) :: rest)) := by
  subst hj
  exact va_iald hx hb hS.1 hW.1 k 1 (kw_atI hk) rfl hin hdg kk
theorem kbald {k n : Nat} (j : Nat) (hx : p.tables.exec = Jvm.exec) (hb : c.code = cc) (hS : kS Z X A s) (hW : kW Z X A s σ H locs) (hk : kIsB Z X k n) {i : Int32} (hj : i.toNatClampNeg = j) (hin : vp_in i n) (hdg : decode cc pc = .ok (.baload, 1))
    (kk : W p l e R s m args below meth c H locs cells slots Q (F0 m (pc + 1) ls (.int (σ.1 k j) :: rest))) : W p l e R s m args below meth c H locs cells slots Q (F0 m pc ls (.int i :: .ref (X.2.1 k) :: rest)) := by
  subst hj
  exact va_bald hx hb hS.1 hW.1 k 0 (kw_atB hk) rfl hin hdg kk
theorem kzald {k n : Nat} (j : Nat) (hx : p.tables.exec = Jvm.exec) (hb : c.code = cc) (hS : kS Z X A s) (hW : kW Z X A s σ H locs) (hk : kIsZ Z X k n) {i : Int32} (hj : i.toNatClampNeg = j) (hin : vp_in i n) (hdg : decode cc pc = .ok (.baload, 1))
    (kk : W p l e R s m args below meth c H locs cells slots Q (F0 m (pc + 1) ls (.int (σ.1 k j) :: rest))) : W p l e R s m args below meth c H locs cells slots Q (F0 m pc ls (.int i :: .ref (X.2.1 k) :: rest)) := by
  subst hj
  exact va_zald hx hb hS.1 hW.1 k 3 (kw_atZ hk) rfl hin hdg kk
theorem klald {k n : Nat} (j : Nat) (hx : p.tables.exec = Jvm.exec) (hb : c.code = cc) (hS : kS Z X A s) (hW : kW Z X A s σ H locs) (hk : kIsJ Z X k n) {i : Int32} (hj : i.toNatClampNeg = j) (hin : vp_in i n) (hdg : decode cc pc = .ok (.laload, 1))
    (kk : W p l e R s m args below meth c H locs cells slots Q (F0 m (pc + 1) ls (.long (σ.2.1 k j) :: rest))) : W p l e R s m args below meth c H locs cells slots Q (F0 m pc ls (.int i :: .ref (X.2.1 k) :: rest)) := by
  subst hj
  exact va_lald hx hb hS.1 hW.1 k 2 (kw_atJ hk) rfl hin hdg kk
theorem kiast {k n : Nat} (j : Nat) (hx : p.tables.exec = Jvm.exec) (hb : c.code = cc) (hS : kS Z X A s) (hW : kW Z X A s σ H locs) (hk : kIsI Z X k n) {i x : Int32} (hj : i.toNatClampNeg = j) (hin : vp_in i n) (hdg : decode cc pc = .ok (.iastore, 1))
    (kk : ∀ (σ1 : Mm) (H1 : Heap) (locs1 : List Loc), σ1 = kwi σ k j x → kW Z X A s σ1 H1 locs1 → W p l e R s m args below meth c H1 locs1 cells slots Q (F0 m (pc + 1) ls rest)) : W p l e R s m args below meth c H locs cells slots Q (F0 m pc ls (.int x :: .int i :: .ref (X.2.1 k) :: rest)) := by
  subst hj
  refine va_iast hx hb hS.1 hW.1 (kw_D hS σ) hW.2.1 k 1 (kw_atI hk) rfl hin hdg (fun H1 locs1 hP hD hS1 => kk _ H1 locs1 rfl ⟨?_, hS1, hW.2.2⟩)
  rw [kw_setI (j := i.toNatClampNeg) (v := x) hk.1 (by rw [hk.2])] at hP
  exact hP
theorem kbast {k n : Nat} (j : Nat) (hx : p.tables.exec = Jvm.exec) (hb : c.code = cc) (hS : kS Z X A s) (hW : kW Z X A s σ H locs) (hk : kIsB Z X k n) {i x : Int32} (hj : i.toNatClampNeg = j) (hin : vp_in i n) (hdg : decode cc pc = .ok (.bastore, 1))
    (kk : ∀ (σ1 : Mm) (H1 : Heap) (locs1 : List Loc), σ1 = kwi σ k j (vp_nar .byte x) → kW Z X A s σ1 H1 locs1 → W p l e R s m args below meth c H1 locs1 cells slots Q (F0 m (pc + 1) ls rest)) : W p l e R s m args below meth c H locs cells slots Q (F0 m pc ls (.int x :: .int i :: .ref (X.2.1 k) :: rest)) := by
  subst hj
  refine va_bast hx hb hS.1 hW.1 (kw_D hS σ) hW.2.1 k 0 (kw_atB hk) rfl hin hdg (fun H1 locs1 hP hD hS1 => kk _ H1 locs1 rfl ⟨?_, hS1, hW.2.2⟩)
  rw [kw_setI (j := i.toNatClampNeg) (v := vp_nar .byte x) hk.1 (by rw [hk.2])] at hP
  exact hP
theorem kzast {k n : Nat} (j : Nat) (hx : p.tables.exec = Jvm.exec) (hb : c.code = cc) (hS : kS Z X A s) (hW : kW Z X A s σ H locs) (hk : kIsZ Z X k n) {i x : Int32} (hj : i.toNatClampNeg = j) (hin : vp_in i n) (hdg : decode cc pc = .ok (.bastore, 1))
    (kk : ∀ (σ1 : Mm) (H1 : Heap) (locs1 : List Loc), σ1 = kwi σ k j (vp_nar .boolean x) → kW Z X A s σ1 H1 locs1 → W p l e R s m args below meth c H1 locs1 cells slots Q (F0 m (pc + 1) ls rest)) : W p l e R s m args below meth c H locs cells slots Q (F0 m pc ls (.int x :: .int i :: .ref (X.2.1 k) :: rest)) := by
  subst hj
  refine va_zast hx hb hS.1 hW.1 (kw_D hS σ) hW.2.1 k 3 (kw_atZ hk) rfl hin hdg (fun H1 locs1 hP hD hS1 => kk _ H1 locs1 rfl ⟨?_, hS1, hW.2.2⟩)
  rw [kw_setI (j := i.toNatClampNeg) (v := vp_nar .boolean x) hk.1 (by rw [hk.2])] at hP
  exact hP
theorem klast {k n : Nat} (j : Nat) (hx : p.tables.exec = Jvm.exec) (hb : c.code = cc) (hS : kS Z X A s) (hW : kW Z X A s σ H locs) (hk : kIsJ Z X k n) {i : Int32} {x : Int64} (hj : i.toNatClampNeg = j) (hin : vp_in i n) (hdg : decode cc pc = .ok (.lastore, 1))
    (kk : ∀ (σ1 : Mm) (H1 : Heap) (locs1 : List Loc), σ1 = kwl σ k j x → kW Z X A s σ1 H1 locs1 → W p l e R s m args below meth c H1 locs1 cells slots Q (F0 m (pc + 1) ls rest)) : W p l e R s m args below meth c H locs cells slots Q (F0 m pc ls (.long x :: .int i :: .ref (X.2.1 k) :: rest)) := by
  subst hj
  refine va_last hx hb hS.1 hW.1 (kw_D hS σ) hW.2.1 k 2 (kw_atJ hk) rfl hin hdg (fun H1 locs1 hP hD hS1 => kk _ H1 locs1 rfl ⟨?_, hS1, hW.2.2⟩)
  rw [kw_setL (j := i.toNatClampNeg) (v := x) hk.1 (by rw [hk.2])] at hP
  exact hP
theorem kalenI {k n : Nat} (hx : p.tables.exec = Jvm.exec) (hb : c.code = cc) (hS : kS Z X A s) (hW : kW Z X A s σ H locs) (hk : kIsI Z X k n) (hdg : decode cc pc = .ok (.arraylength, 1))
    (kk : W p l e R s m args below meth c H locs cells slots Q (F0 m (pc + 1) ls (.int (nI n) :: rest))) : W p l e R s m args below meth c H locs cells slots Q (F0 m pc ls (.ref (X.2.1 k) :: rest)) :=
  va_alen hx hb hS.1 hW.1 k 1 (kw_atI hk) rfl rfl hdg kk
theorem kalenJ {k n : Nat} (hx : p.tables.exec = Jvm.exec) (hb : c.code = cc) (hS : kS Z X A s) (hW : kW Z X A s σ H locs) (hk : kIsJ Z X k n) (hdg : decode cc pc = .ok (.arraylength, 1))
    (kk : W p l e R s m args below meth c H locs cells slots Q (F0 m (pc + 1) ls (.int (nI n) :: rest))) : W p l e R s m args below meth c H locs cells slots Q (F0 m pc ls (.ref (X.2.1 k) :: rest)) :=
  va_alen hx hb hS.1 hW.1 k 2 (kw_atJ hk) rfl rfl hdg kk
theorem kldc {own : String} {index : Nat} {v : Int32} (hx : p.tables.exec = Jvm.exec) (hb : c.code = cc) (hown : s.vm.findClass own = some m.cls) (hts : ∀ w ∈ kT, w.before args s = true) (hc : Cond.constant own index v ∈ kT) (hdg : decode cc pc = .ok (.ldc index, 2)) (k : W p l e R s m args below meth c H locs cells slots Q (F0 m (pc + 2) ls (.int v :: rest))) : W p l e R s m args below meth c H locs cells slots Q (F0 m pc ls rest) :=
  W.ldc hx hb hown (hts _ hc) rfl hdg k
theorem kldc2 {own : String} {index : Nat} {v : Int64} (hx : p.tables.exec = Jvm.exec) (hb : c.code = cc) (hown : s.vm.findClass own = some m.cls) (hts : ∀ w ∈ kT, w.before args s = true) (hc : Cond.constantLong own index v ∈ kT) (hdg : decode cc pc = .ok (.ldc2_w index, 3)) (k : W p l e R s m args below meth c H locs cells slots Q (F0 m (pc + 3) ls (.long v :: rest))) : W p l e R s m args below meth c H locs cells slots Q (F0 m pc ls rest) :=
  W.ldc2 hx hb hown (hts _ hc) rfl hdg k
end KR
end
section
/-- what is known of a method that is called by its object, and of a static one -/
def kMV (y : MethodName) (C : String) (bytes : ByteArray) (maxL : Nat) (ret : Option FieldType) (n : Nat) : Prop := Cond.code y bytes maxL ret ∈ kT ∧ Cond.initialized y.cls ∈ kT ∧ Cond.instanceMethod y ∈ kT ∧ Cond.selects C y y ∈ kT ∧ (y.cls ≠ "java/lang/invoke/MethodHandle" ∧ y.cls ≠ "java/lang/invoke/VarHandle") ∧ (parseMethodDescriptor y.desc).map (fun d => d.parameters.length) = some n
def kMS (y : MethodName) (bytes : ByteArray) (maxL : Nat) (ret : Option FieldType) (n : Nat) : Prop := Cond.code y bytes maxL ret ∈ kT ∧ Cond.initialized y.cls ∈ kT ∧ Cond.static y ∈ kT ∧ (y.cls ≠ "java/lang/invoke/MethodHandle" ∧ y.cls ≠ "java/lang/invoke/VarHandle") ∧ (parseMethodDescriptor y.desc).map (fun d => d.parameters.length) = some n
theorem kblind {Z : KD} {X : KX} {σ : Mm} {av : List Value} : FrameBlind (va_Pc av (kPre Z X σ)) := by
  intro a U g mk q
  obtain ⟨q0, qP, qK, qD⟩ := q
  exact ⟨q0, qP, va_K.moved (u := U) (U := U.calling g mk a) (Vm.Alike.refl U.vm) qK, qD⟩
section KC
variable {p : Program} {l : Launch} {e : Env} {R : Room} {s : State} {m : MethodId} {args : Array Value} {below : List Frame} {meth : Method} {c : Code} {H : Heap} {locs : List Loc} {cells slots : Nat} {Q : State → Prop}
variable {cc bytes : ByteArray} {pc nL maxL n index : Nat} {ls : Array Slot} {rest As st : List Value} {Z : KD} {X : KX} {A : Nat → Prop} {σ : Mm} {y : MethodName} {ret : Option FieldType} {rm : Room} {Qc : Array Value → State → Outcome → State → Prop} {free : Addr → Prop} {own host : String}
theorem kcb (hts : ∀ w ∈ kT, w.before args s = true) (hcode : Cond.code y bytes maxL ret ∈ kT) : ∀ w ∈ (Cond.code y bytes maxL ret :: kT), ∀ (a' : Array Value) (U : State), s.WarmedH U.vm → w.before a' U = true := by
  intro w hw
  rcases List.mem_cons.mp hw with h | h
  · subst h
    exact kT_warm hts _ hcode
  · exact kT_warm hts _ h
theorem kpm (hd : (parseMethodDescriptor y.desc).map (fun d => d.parameters.length) = some n) : ∀ sig, parseMethodDescriptor y.desc = some sig → n = sig.parameters.length := by
  intro sig h
  rw [h] at hd
  exact (Option.some.inj hd).symm
theorem krunV {C : String} {T : u_T} {N ci k : Nat} {fl : KX → (Nat → Int32) → (Nat → Nat) → Nat → List Value} (hx : p.tables.exec = Jvm.exec) (hb : c.code = cc) (hml : c.maxLocals = nL) (hown : s.vm.findClass own = some m.cls) (hts : ∀ w ∈ kT, w.before args s = true) (hS : kS Z X A s) (hW : kW Z X A s σ H locs) (hM : Met l y (.code y bytes maxL ret :: kT) rm (va_Pc (.ref (X.2.1 k) :: As) (kPre Z X σ)) Qc 0 0 free) (hf : kMV y C bytes maxL ret n) (hlink : Cond.methodLink own index y ∈ kT) (hk : kIsO Z X k ci fl) (hc : vwCl[ci]? = some (C, T, N)) (hrm : rm.cells = 0 ∧ rm.slots = 0) (hR : rm.frames + 1 ≤ R.frames ∧ 8 + (maxL + 11) + rm.locals ≤ R.locals) (hn : As.length = n) (hsize : ls.size = nL) (hst : st = As.reverse ++ .ref (X.2.1 k) :: rest) (hrest : (rest.map fun v => v.category).sum ≤ 8) (hdg : decode cc pc = .ok (.invokevirtual index, 3)) (hcs : cells ≤ R.cells ∧ slots ≤ R.slots) :
    va_Run p l e R s m args below meth c H locs cells slots 0 0 (F0 m pc ls st) rest (Qc (Value.ref (X.2.1 k) :: As).toArray) free :=
  va_runV ⟨hx, hb, hml, hown, hts⟩ hM ⟨⟨hrm.1, hrm.2, hR.1, hR.2, kcb hts hf.1, List.mem_cons_self, hts _ hf.1, hts _ hf.2.1, hf.2.2.2.2.1, kpm hf.2.2.2.2.2, hts _ hlink⟩, hts _ hf.2.2.1, hts _ hf.2.2.2.1⟩ ⟨kblind, va_recv hS.1 hW.1 hc (kw_atO hk), fun U hU hWm => ⟨rfl, by rw [hU]; exact hW.1, va_K.moved hWm.alike hS.1, hS.2.1, hW.2.2⟩⟩ rfl hn hsize hst (lv_room hrest) hdg hcs
theorem krunVN {C : String} {T : u_T} {N ci k : Nat} {fl : KX → (Nat → Int32) → (Nat → Nat) → Nat → List Value} (hx : p.tables.exec = Jvm.exec) (hb : c.code = cc) (hml : c.maxLocals = nL) (hown : s.vm.findClass own = some m.cls) (hts : ∀ w ∈ kT, w.before args s = true) (hS : kS Z X A s) (hW : kW Z X A s σ H locs) (hM : Met l y (.code y bytes maxL ret :: kT) rm (va_Pc (.ref (X.2.1 k) :: As) (kPre Z X σ)) Qc 0 0 free) (hf : kMV y C bytes maxL ret n) (hlink : Cond.methodLinkNest own index y host ∈ kT) (hk : kIsO Z X k ci fl) (hc : vwCl[ci]? = some (C, T, N)) (hrm : rm.cells = 0 ∧ rm.slots = 0) (hR : rm.frames + 1 ≤ R.frames ∧ 8 + (maxL + 11) + rm.locals ≤ R.locals) (hn : As.length = n) (hsize : ls.size = nL) (hst : st = As.reverse ++ .ref (X.2.1 k) :: rest) (hrest : (rest.map fun v => v.category).sum ≤ 8) (hdg : decode cc pc = .ok (.invokevirtual index, 3)) (hcs : cells ≤ R.cells ∧ slots ≤ R.slots) :
    va_Run p l e R s m args below meth c H locs cells slots 0 0 (F0 m pc ls st) rest (Qc (Value.ref (X.2.1 k) :: As).toArray) free :=
  va_runVN ⟨hx, hb, hml, hown, hts⟩ hM ⟨⟨⟨hrm.1, hrm.2, hR.1, hR.2, kcb hts hf.1, List.mem_cons_self⟩, hts _ hf.1, hts _ hf.2.1, hf.2.2.2.2.1, kpm hf.2.2.2.2.2, hts _ hlink⟩, hts _ hf.2.2.1, hts _ hf.2.2.2.1⟩ ⟨kblind, va_recv hS.1 hW.1 hc (kw_atO hk), fun U hU hWm => ⟨rfl, by rw [hU]; exact hW.1, va_K.moved hWm.alike hS.1, hS.2.1, hW.2.2⟩⟩ rfl hn hsize hst (lv_room hrest) hdg hcs
theorem krunS (hx : p.tables.exec = Jvm.exec) (hb : c.code = cc) (hml : c.maxLocals = nL) (hown : s.vm.findClass own = some m.cls) (hts : ∀ w ∈ kT, w.before args s = true) (hS : kS Z X A s) (hW : kW Z X A s σ H locs) (hM : Met l y (.code y bytes maxL ret :: kT) rm (va_Pc As (kPre Z X σ)) Qc 0 0 free) (hf : kMS y bytes maxL ret n) (hlink : Cond.methodLink own index y ∈ kT) (hrm : rm.cells = 0 ∧ rm.slots = 0) (hR : rm.frames + 1 ≤ R.frames ∧ 8 + (maxL + 11) + rm.locals ≤ R.locals) (hn : As.length = n) (hsize : ls.size = nL) (hst : st = As.reverse ++ rest) (hrest : (rest.map fun v => v.category).sum ≤ 8) (hdg : decode cc pc = .ok (.invokestatic index, 3)) (hcs : cells ≤ R.cells ∧ slots ≤ R.slots) :
    va_Run p l e R s m args below meth c H locs cells slots 0 0 (F0 m pc ls st) rest (Qc As.toArray) free :=
  va_runS ⟨hx, hb, hml, hown, hts⟩ hM ⟨⟨hrm.1, hrm.2, hR.1, hR.2, kcb hts hf.1, List.mem_cons_self, hts _ hf.1, hts _ hf.2.1, hf.2.2.2.1, kpm hf.2.2.2.2, hts _ hlink⟩, hts _ hf.2.2.1⟩ ⟨kblind, fun U hU hWm => ⟨rfl, by rw [hU]; exact hW.1, va_K.moved hWm.alike hS.1, hS.2.1, hW.2.2⟩⟩ rfl hn hsize hst (lv_room hrest) hdg hcs
theorem krunSN (hx : p.tables.exec = Jvm.exec) (hb : c.code = cc) (hml : c.maxLocals = nL) (hown : s.vm.findClass own = some m.cls) (hts : ∀ w ∈ kT, w.before args s = true) (hS : kS Z X A s) (hW : kW Z X A s σ H locs) (hM : Met l y (.code y bytes maxL ret :: kT) rm (va_Pc As (kPre Z X σ)) Qc 0 0 free) (hf : kMS y bytes maxL ret n) (hlink : Cond.methodLinkNest own index y host ∈ kT) (hrm : rm.cells = 0 ∧ rm.slots = 0) (hR : rm.frames + 1 ≤ R.frames ∧ 8 + (maxL + 11) + rm.locals ≤ R.locals) (hn : As.length = n) (hsize : ls.size = nL) (hst : st = As.reverse ++ rest) (hrest : (rest.map fun v => v.category).sum ≤ 8) (hdg : decode cc pc = .ok (.invokestatic index, 3)) (hcs : cells ≤ R.cells ∧ slots ≤ R.slots) :
    va_Run p l e R s m args below meth c H locs cells slots 0 0 (F0 m pc ls st) rest (Qc As.toArray) free :=
  va_runSN ⟨hx, hb, hml, hown, hts⟩ hM ⟨⟨⟨hrm.1, hrm.2, hR.1, hR.2, kcb hts hf.1, List.mem_cons_self⟩, hts _ hf.1, hts _ hf.2.1, hf.2.2.2.1, kpm hf.2.2.2.2, hts _ hlink⟩, hts _ hf.2.2.1, trivial⟩ ⟨kblind, fun U hU hWm => ⟨rfl, by rw [hU]; exact hW.1, va_K.moved hWm.alike hS.1, hS.2.1, hW.2.2⟩⟩ rfl hn hsize hst (lv_room hrest) hdg hcs
theorem kci {Ψ : Int32 → Mm → Prop} {a : Array Value} (hr : va_Run p l e R s m args below meth c H locs cells slots 0 0 (F0 m pc ls st) rest (va_Qi Ψ (fun σ' t => kPre Z X σ' t) (kA Z X) a) (kA Z X)) (hS : kS Z X A s) (hW : kW Z X A s σ H locs) (kk : ∀ (r : Int32) (σ' : Mm) (H1 : Heap) (locs1 : List Loc), Ψ r σ' → kW Z X A s σ' H1 locs1 → W p l e R s m args below meth c H1 locs1 cells slots Q (F0 m (pc + 3) ls (.int r :: rest))) : W p l e R s m args below meth c H locs cells slots Q (F0 m pc ls st) :=
  va_calli hr hW.2.1 (fun q _ h => by obtain ⟨k, hk, rfl⟩ := h; exact hS.2.2 k hk) (fun q h => by obtain ⟨k, hk, rfl⟩ := h; exact hS.2.2 k hk) (fun r u t H1 locs1 ht _ hw hB _ _ hS1 => kk r u H1 locs1 hw ⟨by rw [← ht]; exact hB.1, hS1, hB.2.2.2⟩)
theorem kcl {Ψ : Int64 → Mm → Prop} {a : Array Value} (hr : va_Run p l e R s m args below meth c H locs cells slots 0 0 (F0 m pc ls st) rest (va_Ql Ψ (fun σ' t => kPre Z X σ' t) (kA Z X) a) (kA Z X)) (hS : kS Z X A s) (hW : kW Z X A s σ H locs) (kk : ∀ (r : Int64) (σ' : Mm) (H1 : Heap) (locs1 : List Loc), Ψ r σ' → kW Z X A s σ' H1 locs1 → W p l e R s m args below meth c H1 locs1 cells slots Q (F0 m (pc + 3) ls (.long r :: rest))) : W p l e R s m args below meth c H locs cells slots Q (F0 m pc ls st) :=
  va_calll hr hW.2.1 (fun q _ h => by obtain ⟨k, hk, rfl⟩ := h; exact hS.2.2 k hk) (fun q h => by obtain ⟨k, hk, rfl⟩ := h; exact hS.2.2 k hk) (fun r u t H1 locs1 ht _ hw hB _ _ hS1 => kk r u H1 locs1 hw ⟨by rw [← ht]; exact hB.1, hS1, hB.2.2.2⟩)
theorem kcv {Ψ : Mm → Prop} {a : Array Value} (hr : va_Run p l e R s m args below meth c H locs cells slots 0 0 (F0 m pc ls st) rest (va_Qv Ψ (fun σ' t => kPre Z X σ' t) (kA Z X) a) (kA Z X)) (hS : kS Z X A s) (hW : kW Z X A s σ H locs) (kk : ∀ (σ' : Mm) (H1 : Heap) (locs1 : List Loc), Ψ σ' → kW Z X A s σ' H1 locs1 → W p l e R s m args below meth c H1 locs1 cells slots Q (F0 m (pc + 3) ls rest)) : W p l e R s m args below meth c H locs cells slots Q (F0 m pc ls st) :=
  va_callv hr hW.2.1 (fun q _ h => by obtain ⟨k, hk, rfl⟩ := h; exact hS.2.2 k hk) (fun q h => by obtain ⟨k, hk, rfl⟩ := h; exact hS.2.2 k hk) (fun u t H1 locs1 ht _ hw hB _ _ hS1 => kk u H1 locs1 hw ⟨by rw [← ht]; exact hB.1, hS1, hB.2.2.2⟩)
end KC
section KE
variable {l : Launch} {Z : KD} {X : KX} {y : MethodName} {cc : ByteArray} {maxL : Nat} {ty : FieldType} {rm : Room} {av : List Value} {σ : Mm}
theorem kofI {Ψ : Int32 → Mm → Prop} (hy : plainName y.cls = true) (hav : (lg_sl av).length ≤ maxL)
    (body : ∀ (p : Program) (e : Env) (s : State) (m : MethodId) (args : Array Value) (below : List Frame) (meth : Method) (c : Code) (ls : Array Slot) (Q : State → Prop), p.tables.exec = Jvm.exec → c.code = cc → c.maxLocals = maxL → s.vm.findClass y.cls = some m.cls → (∀ w ∈ kT, w.before args s = true) → kS Z X (kA Z X) s → kW Z X (kA Z X) s σ s.heap [] → lv_has ls maxL (lv_args 0 av) →
      (∀ (v : Int32) (σ' : Mm) (H : Heap) (locs : List Loc) (pc : Nat) (ls : Array Slot), narrow ty (.int v) = .int v → Ψ v σ' → kW Z X (kA Z X) s σ' H locs → decode cc pc = .ok (.ireturn, 1) → W p l e rm s m args below meth c H locs 0 0 Q (F0 m pc ls [.int v])) → W p l e rm s m args below meth c s.heap [] 0 0 Q (F0 m 0 ls [])) :
    Met l y (.code y cc maxL (some ty) :: kT) rm (va_Pc av (kPre Z X σ)) (va_Qi Ψ (fun σ' t => kPre Z X σ' t) (kA Z X)) 0 0 (kA Z X) := by
  refine Met.ofW hy rfl ?_
  intro p e s m args below meth c s₁ B hml hv
  obtain ⟨rfl, hpre⟩ := hv
  have hl := lv_entry av hav
  rw [lg_entry_eq]
  have hts := atoms_spec (ws := .code y cc maxL (some ty) :: kT) B.pre
  have hS : kS Z X (kA Z X) s := ⟨hpre.2.1, hpre.2.2.1, fun k hk => ⟨k, hk, rfl⟩⟩
  refine body p e s m _ below meth c _ _ B.exec B.bytes hml (findClass_of_methodNamed B.named) (fun w hw => hts w (List.mem_cons_of_mem _ hw)) hS ⟨hpre.1, va_S.rf, hpre.2.2.2⟩ hl ?_
  intro v σ' H locs pc ls hn hΨ hW hdg
  exact W.zret B.exec B.bytes B.returns hn (fun t ht hWm => ⟨⟨v, σ', rfl, hΨ, by rw [ht]; exact hW.1, va_K.moved hWm.alike hS.1, hS.2.1, hW.2.2⟩, hW.2.1.F ht⟩) hW.2.1.2.2 hdg B.notSynchronized
theorem kofL {Ψ : Int64 → Mm → Prop} (hy : plainName y.cls = true) (hav : (lg_sl av).length ≤ maxL)
    (body : ∀ (p : Program) (e : Env) (s : State) (m : MethodId) (args : Array Value) (below : List Frame) (meth : Method) (c : Code) (ls : Array Slot) (Q : State → Prop), p.tables.exec = Jvm.exec → c.code = cc → c.maxLocals = maxL → s.vm.findClass y.cls = some m.cls → (∀ w ∈ kT, w.before args s = true) → kS Z X (kA Z X) s → kW Z X (kA Z X) s σ s.heap [] → lv_has ls maxL (lv_args 0 av) →
      (∀ (v : Int64) (σ' : Mm) (H : Heap) (locs : List Loc) (pc : Nat) (ls : Array Slot), Ψ v σ' → kW Z X (kA Z X) s σ' H locs → decode cc pc = .ok (.lreturn, 1) → W p l e rm s m args below meth c H locs 0 0 Q (F0 m pc ls [.long v])) → W p l e rm s m args below meth c s.heap [] 0 0 Q (F0 m 0 ls [])) :
    Met l y (.code y cc maxL (some .long) :: kT) rm (va_Pc av (kPre Z X σ)) (va_Ql Ψ (fun σ' t => kPre Z X σ' t) (kA Z X)) 0 0 (kA Z X) := by
  refine Met.ofW hy rfl ?_
  intro p e s m args below meth c s₁ B hml hv
  obtain ⟨rfl, hpre⟩ := hv
  have hl := lv_entry av hav
  rw [lg_entry_eq]
  have hts := atoms_spec (ws := .code y cc maxL (some .long) :: kT) B.pre
  have hS : kS Z X (kA Z X) s := ⟨hpre.2.1, hpre.2.2.1, fun k hk => ⟨k, hk, rfl⟩⟩
  refine body p e s m _ below meth c _ _ B.exec B.bytes hml (findClass_of_methodNamed B.named) (fun w hw => hts w (List.mem_cons_of_mem _ hw)) hS ⟨hpre.1, va_S.rf, hpre.2.2.2⟩ hl ?_
  intro v σ' H locs pc ls hΨ hW hdg
  exact W.lret B.exec B.bytes B.returns (fun t ht hWm => ⟨⟨v, σ', rfl, hΨ, by rw [ht]; exact hW.1, va_K.moved hWm.alike hS.1, hS.2.1, hW.2.2⟩, hW.2.1.F ht⟩) hW.2.1.2.2 hdg B.notSynchronized
theorem kofV {Ψ : Mm → Prop} (hy : plainName y.cls = true) (hav : (lg_sl av).length ≤ maxL)
    (body : ∀ (p : Program) (e : Env) (s : State) (m : MethodId) (args : Array Value) (below : List Frame) (meth : Method) (c : Code) (ls : Array Slot) (Q : State → Prop), p.tables.exec = Jvm.exec → c.code = cc → c.maxLocals = maxL → s.vm.findClass y.cls = some m.cls → (∀ w ∈ kT, w.before args s = true) → kS Z X (kA Z X) s → kW Z X (kA Z X) s σ s.heap [] → lv_has ls maxL (lv_args 0 av) →
      (∀ (σ' : Mm) (H : Heap) (locs : List Loc) (pc : Nat) (ls : Array Slot), Ψ σ' → kW Z X (kA Z X) s σ' H locs → decode cc pc = .ok (.return_, 1) → W p l e rm s m args below meth c H locs 0 0 Q (F0 m pc ls [])) → W p l e rm s m args below meth c s.heap [] 0 0 Q (F0 m 0 ls [])) :
    Met l y (.code y cc maxL none :: kT) rm (va_Pc av (kPre Z X σ)) (va_Qv Ψ (fun σ' t => kPre Z X σ' t) (kA Z X)) 0 0 (kA Z X) := by
  refine Met.ofW hy rfl ?_
  intro p e s m args below meth c s₁ B hml hv
  obtain ⟨rfl, hpre⟩ := hv
  have hl := lv_entry av hav
  rw [lg_entry_eq]
  have hts := atoms_spec (ws := .code y cc maxL none :: kT) B.pre
  have hS : kS Z X (kA Z X) s := ⟨hpre.2.1, hpre.2.2.1, fun k hk => ⟨k, hk, rfl⟩⟩
  refine body p e s m _ below meth c _ _ B.exec B.bytes hml (findClass_of_methodNamed B.named) (fun w hw => hts w (List.mem_cons_of_mem _ hw)) hS ⟨hpre.1, va_S.rf, hpre.2.2.2⟩ hl ?_
  intro σ' H locs pc ls hΨ hW hdg
  exact W.vret B.exec B.bytes B.returns (fun t ht hWm => ⟨⟨σ', rfl, hΨ, by rw [ht]; exact hW.1, va_K.moved hWm.alike hS.1, hS.2.1, hW.2.2⟩, hW.2.1.F ht⟩) hW.2.1.2.2 hdg B.notSynchronized
end KE
end
section
theorem q0 : Cond.selects RX5 yX5_readItem yX5_readItem ∈ kT := kT_in 0 (by decide +kernel) (by decide +kernel)
theorem q1 : Cond.selects RX5 yX5_readLane yX5_readLane ∈ kT := kT_in 1 (by decide +kernel) (by decide +kernel)
theorem q2 : Cond.selects RX5 yX5_readNumber yX5_readNumber ∈ kT := kT_in 2 (by decide +kernel) (by decide +kernel)
theorem q3 : Cond.selects RX5 yX5_figureHere yX5_figureHere ∈ kT := kT_in 3 (by decide +kernel) (by decide +kernel)
theorem q4 : Cond.selects RX5 yX5_takes yX5_takes ∈ kT := kT_in 4 (by decide +kernel) (by decide +kernel)
theorem q5 : Cond.selects RX5 yX5_readWay yX5_readWay ∈ kT := kT_in 5 (by decide +kernel) (by decide +kernel)
theorem q6 : Cond.selects RX1 yX1_lowestNearer yX1_lowestNearer ∈ kT := kT_in 6 (by decide +kernel) (by decide +kernel)
theorem q7 : Cond.selects RX4 yX4_dropLowest yX4_dropLowest ∈ kT := kT_in 7 (by decide +kernel) (by decide +kernel)
theorem q8 : Cond.selects RX1 yX1_towards yX1_towards ∈ kT := kT_in 8 (by decide +kernel) (by decide +kernel)
theorem q9 : Cond.selects RX7 yX7_begin yX7_begin ∈ kT := kT_in 9 (by decide +kernel) (by decide +kernel)
theorem q10 : Cond.selects RX7 yX7_follow yX7_follow ∈ kT := kT_in 10 (by decide +kernel) (by decide +kernel)
theorem q11 : Cond.selects RX7 yX7_sieve yX7_sieve ∈ kT := kT_in 11 (by decide +kernel) (by decide +kernel)
theorem q12 : Cond.selects RX7 yX7_spread yX7_spread ∈ kT := kT_in 12 (by decide +kernel) (by decide +kernel)
theorem q13 : Cond.selects RX7 yX7_branch yX7_branch ∈ kT := kT_in 13 (by decide +kernel) (by decide +kernel)
theorem q14 : Cond.selects RX7 yX7_feedersOf yX7_feedersOf ∈ kT := kT_in 14 (by decide +kernel) (by decide +kernel)
theorem q15 : Cond.selects RX7 yX7_whenUnfed yX7_whenUnfed ∈ kT := kT_in 15 (by decide +kernel) (by decide +kernel)
theorem q16 : Cond.selects RX7 yX7_whenFed yX7_whenFed ∈ kT := kT_in 16 (by decide +kernel) (by decide +kernel)
theorem q17 : Cond.selects RX0 yX0_goForth yX0_goForth ∈ kT := kT_in 17 (by decide +kernel) (by decide +kernel)
theorem q18 : Cond.selects RX0 yX0_addNext yX0_addNext ∈ kT := kT_in 18 (by decide +kernel) (by decide +kernel)
theorem q19 : Cond.selects RX0 yX0_leaveThoseAt yX0_leaveThoseAt ∈ kT := kT_in 19 (by decide +kernel) (by decide +kernel)
theorem q20 : Cond.selects RX0 yX0_goBack yX0_goBack ∈ kT := kT_in 20 (by decide +kernel) (by decide +kernel)
theorem q21 : Cond.selects RX0 yX0_choice yX0_choice ∈ kT := kT_in 21 (by decide +kernel) (by decide +kernel)
theorem q22 : Cond.selects RX11 yX11_link yX11_link ∈ kT := kT_in 22 (by decide +kernel) (by decide +kernel)
theorem q23 : Cond.selects RX11 yX11_begin yX11_begin ∈ kT := kT_in 23 (by decide +kernel) (by decide +kernel)
theorem q24 : Cond.selects RX11 yX11_findFault yX11_findFault ∈ kT := kT_in 24 (by decide +kernel) (by decide +kernel)
theorem q25 : Cond.selects RX11 yX11_readItem yX11_readItem ∈ kT := kT_in 25 (by decide +kernel) (by decide +kernel)
theorem q26 : Cond.selects RX11 yX11_here yX11_here ∈ kT := kT_in 26 (by decide +kernel) (by decide +kernel)
theorem q27 : Cond.selects RX11 yX11_number yX11_number ∈ kT := kT_in 27 (by decide +kernel) (by decide +kernel)
theorem q28 : Cond.selects RX11 yX11_due yX11_due ∈ kT := kT_in 28 (by decide +kernel) (by decide +kernel)
theorem q29 : Cond.selects RX11 yX11_readWay yX11_readWay ∈ kT := kT_in 29 (by decide +kernel) (by decide +kernel)
theorem q30 : Cond.selects RX11 yX11_isYard yX11_isYard ∈ kT := kT_in 30 (by decide +kernel) (by decide +kernel)
theorem q31 : Cond.selects RX11 yX11_isPerson yX11_isPerson ∈ kT := kT_in 31 (by decide +kernel) (by decide +kernel)
theorem q32 : Cond.selects RX11 yX11_placeOf yX11_placeOf ∈ kT := kT_in 32 (by decide +kernel) (by decide +kernel)
theorem q33 : Cond.selects RX11 yX11_mayFeed yX11_mayFeed ∈ kT := kT_in 33 (by decide +kernel) (by decide +kernel)
theorem q34 : Cond.selects RX11 yX11_know yX11_know ∈ kT := kT_in 34 (by decide +kernel) (by decide +kernel)
theorem q35 : Cond.selects RX11 yX11_fedBy yX11_fedBy ∈ kT := kT_in 35 (by decide +kernel) (by decide +kernel)
theorem q36 : Cond.selects RX11 yX11_gone yX11_gone ∈ kT := kT_in 36 (by decide +kernel) (by decide +kernel)
theorem q37 : Cond.selects RX11 yX11_after yX11_after ∈ kT := kT_in 37 (by decide +kernel) (by decide +kernel)
theorem q38 : Cond.selects RX11 yX11_lastGoal yX11_lastGoal ∈ kT := kT_in 38 (by decide +kernel) (by decide +kernel)
theorem q39 : Cond.selects RX11 yX11_isUpTo yX11_isUpTo ∈ kT := kT_in 39 (by decide +kernel) (by decide +kernel)
theorem q40 : Cond.selects RX11 yX11_priceTo yX11_priceTo ∈ kT := kT_in 40 (by decide +kernel) (by decide +kernel)
theorem q41 : Cond.selects RX11 yX11_isState yX11_isState ∈ kT := kT_in 41 (by decide +kernel) (by decide +kernel)
theorem q42 : Cond.selects RX11 yX11_fits yX11_fits ∈ kT := kT_in 42 (by decide +kernel) (by decide +kernel)
theorem q43 : Cond.selects RX11 yX11_leastOf yX11_leastOf ∈ kT := kT_in 43 (by decide +kernel) (by decide +kernel)
theorem q44 : Cond.selects RX11 yX11_costBy yX11_costBy ∈ kT := kT_in 44 (by decide +kernel) (by decide +kernel)
theorem q45 : Cond.selects RX11 yX11_canWin yX11_canWin ∈ kT := kT_in 45 (by decide +kernel) (by decide +kernel)
theorem q46 : Cond.selects RX11 yX11_isWonBy yX11_isWonBy ∈ kT := kT_in 46 (by decide +kernel) (by decide +kernel)
theorem q47 : Cond.selects RX11 yX11_howBut yX11_howBut ∈ kT := kT_in 47 (by decide +kernel) (by decide +kernel)
theorem q48 : Cond.selects RX11 yX11_startWays yX11_startWays ∈ kT := kT_in 48 (by decide +kernel) (by decide +kernel)
theorem q49 : Cond.selects RX11 yX11_bar yX11_bar ∈ kT := kT_in 49 (by decide +kernel) (by decide +kernel)
theorem q50 : Cond.selects RX11 yX11_goOn yX11_goOn ∈ kT := kT_in 50 (by decide +kernel) (by decide +kernel)
theorem q52 : Cond.initialized RX10 ∈ kT := kT_in 52 (by decide +kernel) (by decide +kernel)
theorem q53 : Cond.initialized RX8 ∈ kT := kT_in 53 (by decide +kernel) (by decide +kernel)
theorem q54 : Cond.initialized RX5 ∈ kT := kT_in 54 (by decide +kernel) (by decide +kernel)
theorem q55 : Cond.initialized RX1 ∈ kT := kT_in 55 (by decide +kernel) (by decide +kernel)
theorem q56 : Cond.initialized RX3 ∈ kT := kT_in 56 (by decide +kernel) (by decide +kernel)
theorem q57 : Cond.initialized RX4 ∈ kT := kT_in 57 (by decide +kernel) (by decide +kernel)
theorem q58 : Cond.initialized RX9 ∈ kT := kT_in 58 (by decide +kernel) (by decide +kernel)
theorem q59 : Cond.initialized RX7 ∈ kT := kT_in 59 (by decide +kernel) (by decide +kernel)
theorem q60 : Cond.initialized RX2 ∈ kT := kT_in 60 (by decide +kernel) (by decide +kernel)
theorem q61 : Cond.initialized RJ7 ∈ kT := kT_in 61 (by decide +kernel) (by decide +kernel)
theorem q62 : Cond.initialized RX0 ∈ kT := kT_in 62 (by decide +kernel) (by decide +kernel)
theorem q63 : Cond.initialized RX6 ∈ kT := kT_in 63 (by decide +kernel) (by decide +kernel)
theorem q68 : Cond.initialized RX11 ∈ kT := kT_in 68 (by decide +kernel) (by decide +kernel)
theorem q69 : Cond.initialized RJ9 ∈ kT := kT_in 69 (by decide +kernel) (by decide +kernel)
theorem q84 : Cond.fieldLink RX8 9 RX8 "bytes" "[B" ∈ kT := kT_in 84 (by decide +kernel) (by decide +kernel)
theorem q85 : Cond.fieldLink RX8 15 RX8 "length" "I" ∈ kT := kT_in 85 (by decide +kernel) (by decide +kernel)
theorem q86 : Cond.laysFinal RX8 RX8 "bytes" "[B" ∈ kT := kT_in 86 (by decide +kernel) (by decide +kernel)
theorem q88 : Cond.lays RX8 RX8 "length" "I" ∈ kT := kT_in 88 (by decide +kernel) (by decide +kernel)
theorem q98 : Cond.fieldLink RX5 9 RX5 "text" "LFollowingCalf$Text;" ∈ kT := kT_in 98 (by decide +kernel) (by decide +kernel)
theorem q99 : Cond.fieldLink RX5 20 RX5 "place" "I" ∈ kT := kT_in 99 (by decide +kernel) (by decide +kernel)
theorem q100 : Cond.laysFinal RX5 RX5 "text" "LFollowingCalf$Text;" ∈ kT := kT_in 100 (by decide +kernel) (by decide +kernel)
theorem q102 : Cond.lays RX5 RX5 "place" "I" ∈ kT := kT_in 102 (by decide +kernel) (by decide +kernel)
theorem q111 : Cond.fieldLink RX1 9 RX1 "distances" "[I" ∈ kT := kT_in 111 (by decide +kernel) (by decide +kernel)
theorem q112 : Cond.fieldLink RX1 15 RX1 "towards" "[I" ∈ kT := kT_in 112 (by decide +kernel) (by decide +kernel)
theorem q113 : Cond.fieldLink RX1 18 RX1 "costs" "[I" ∈ kT := kT_in 113 (by decide +kernel) (by decide +kernel)
theorem q114 : Cond.fieldLink RX1 21 RX1 "ways" "[I" ∈ kT := kT_in 114 (by decide +kernel) (by decide +kernel)
theorem q115 : Cond.fieldLink RX1 24 RX1 "wayLengths" "[I" ∈ kT := kT_in 115 (by decide +kernel) (by decide +kernel)
theorem q116 : Cond.fieldLink RX1 27 RX1 "yards" "I" ∈ kT := kT_in 116 (by decide +kernel) (by decide +kernel)
theorem q117 : Cond.fieldLink RX1 31 RX1 "persons" "I" ∈ kT := kT_in 117 (by decide +kernel) (by decide +kernel)
theorem q118 : Cond.fieldLink RX1 34 RX1 "forgetting" "I" ∈ kT := kT_in 118 (by decide +kernel) (by decide +kernel)
theorem q119 : Cond.fieldLink RX1 37 RX1 "start" "I" ∈ kT := kT_in 119 (by decide +kernel) (by decide +kernel)
theorem q120 : Cond.fieldLink RX1 40 RX1 "laneTold" "Z" ∈ kT := kT_in 120 (by decide +kernel) (by decide +kernel)
theorem q121 : Cond.laysFinal RX1 RX1 "distances" "[I" ∈ kT := kT_in 121 (by decide +kernel) (by decide +kernel)
theorem q123 : Cond.laysFinal RX1 RX1 "towards" "[I" ∈ kT := kT_in 123 (by decide +kernel) (by decide +kernel)
theorem q125 : Cond.laysFinal RX1 RX1 "costs" "[I" ∈ kT := kT_in 125 (by decide +kernel) (by decide +kernel)
theorem q127 : Cond.laysFinal RX1 RX1 "ways" "[I" ∈ kT := kT_in 127 (by decide +kernel) (by decide +kernel)
theorem q129 : Cond.laysFinal RX1 RX1 "wayLengths" "[I" ∈ kT := kT_in 129 (by decide +kernel) (by decide +kernel)
theorem q131 : Cond.lays RX1 RX1 "yards" "I" ∈ kT := kT_in 131 (by decide +kernel) (by decide +kernel)
theorem q133 : Cond.lays RX1 RX1 "persons" "I" ∈ kT := kT_in 133 (by decide +kernel) (by decide +kernel)
theorem q135 : Cond.lays RX1 RX1 "forgetting" "I" ∈ kT := kT_in 135 (by decide +kernel) (by decide +kernel)
theorem q137 : Cond.lays RX1 RX1 "start" "I" ∈ kT := kT_in 137 (by decide +kernel) (by decide +kernel)
theorem q139 : Cond.lays RX1 RX1 "laneTold" "Z" ∈ kT := kT_in 139 (by decide +kernel) (by decide +kernel)
theorem q149 : Cond.fieldLink RX3 7 RX3 "minute" "I" ∈ kT := kT_in 149 (by decide +kernel) (by decide +kernel)
theorem q150 : Cond.fieldLinkNest RX7 35 RX3 "minute" "I" RX10 ∈ kT := kT_in 150 (by decide +kernel) (by decide +kernel)
theorem q151 : Cond.fieldLinkNest RX0 31 RX3 "minute" "I" RX10 ∈ kT := kT_in 151 (by decide +kernel) (by decide +kernel)
theorem q152 : Cond.fieldLinkNest RX4 28 RX3 "minute" "I" RX10 ∈ kT := kT_in 152 (by decide +kernel) (by decide +kernel)
theorem q153 : Cond.fieldLinkNest RX10 139 RX3 "minute" "I" RX10 ∈ kT := kT_in 153 (by decide +kernel) (by decide +kernel)
theorem q154 : Cond.fieldLink RX3 19 RX3 "state" "I" ∈ kT := kT_in 154 (by decide +kernel) (by decide +kernel)
theorem q155 : Cond.fieldLinkNest RX7 25 RX3 "state" "I" RX10 ∈ kT := kT_in 155 (by decide +kernel) (by decide +kernel)
theorem q156 : Cond.fieldLinkNest RX0 21 RX3 "state" "I" RX10 ∈ kT := kT_in 156 (by decide +kernel) (by decide +kernel)
theorem q157 : Cond.fieldLinkNest RX4 33 RX3 "state" "I" RX10 ∈ kT := kT_in 157 (by decide +kernel) (by decide +kernel)
theorem q158 : Cond.fieldLinkNest RX10 135 RX3 "state" "I" RX10 ∈ kT := kT_in 158 (by decide +kernel) (by decide +kernel)
theorem q159 : Cond.fieldLink RX3 22 RX3 "feeds" "I" ∈ kT := kT_in 159 (by decide +kernel) (by decide +kernel)
theorem q160 : Cond.fieldLinkNest RX4 36 RX3 "feeds" "I" RX10 ∈ kT := kT_in 160 (by decide +kernel) (by decide +kernel)
theorem q161 : Cond.fieldLinkNest RX10 153 RX3 "feeds" "I" RX10 ∈ kT := kT_in 161 (by decide +kernel) (by decide +kernel)
theorem q162 : Cond.lays RX3 RX3 "minute" "I" ∈ kT := kT_in 162 (by decide +kernel) (by decide +kernel)
theorem q164 : Cond.lays RX3 RX3 "state" "I" ∈ kT := kT_in 164 (by decide +kernel) (by decide +kernel)
theorem q166 : Cond.lays RX3 RX3 "feeds" "I" ∈ kT := kT_in 166 (by decide +kernel) (by decide +kernel)
theorem q175 : Cond.fieldLink RX4 9 RX4 "minutes" "[I" ∈ kT := kT_in 175 (by decide +kernel) (by decide +kernel)
theorem q176 : Cond.fieldLink RX4 15 RX4 "states" "[I" ∈ kT := kT_in 176 (by decide +kernel) (by decide +kernel)
theorem q177 : Cond.fieldLink RX4 18 RX4 "feeds" "[I" ∈ kT := kT_in 177 (by decide +kernel) (by decide +kernel)
theorem q178 : Cond.fieldLink RX4 21 RX4 "count" "I" ∈ kT := kT_in 178 (by decide +kernel) (by decide +kernel)
theorem q179 : Cond.laysFinal RX4 RX4 "minutes" "[I" ∈ kT := kT_in 179 (by decide +kernel) (by decide +kernel)
theorem q181 : Cond.laysFinal RX4 RX4 "states" "[I" ∈ kT := kT_in 181 (by decide +kernel) (by decide +kernel)
theorem q183 : Cond.laysFinal RX4 RX4 "feeds" "[I" ∈ kT := kT_in 183 (by decide +kernel) (by decide +kernel)
theorem q185 : Cond.lays RX4 RX4 "count" "I" ∈ kT := kT_in 185 (by decide +kernel) (by decide +kernel)
theorem q194 : Cond.fieldLink RX9 9 RX9 "yards" "[I" ∈ kT := kT_in 194 (by decide +kernel) (by decide +kernel)
theorem q195 : Cond.fieldLink RX9 15 RX9 "minutes" "[I" ∈ kT := kT_in 195 (by decide +kernel) (by decide +kernel)
theorem q196 : Cond.fieldLink RX9 18 RX9 "count" "I" ∈ kT := kT_in 196 (by decide +kernel) (by decide +kernel)
theorem q197 : Cond.laysFinal RX9 RX9 "yards" "[I" ∈ kT := kT_in 197 (by decide +kernel) (by decide +kernel)
theorem q199 : Cond.laysFinal RX9 RX9 "minutes" "[I" ∈ kT := kT_in 199 (by decide +kernel) (by decide +kernel)
theorem q201 : Cond.lays RX9 RX9 "count" "I" ∈ kT := kT_in 201 (by decide +kernel) (by decide +kernel)
theorem q216 : Cond.constantLong RX2 19 (-1) ∈ kT := kT_in 216 (by decide +kernel) (by decide +kernel)
theorem q220 : Cond.fieldLink RX2 9 RX2 "states" "[I" ∈ kT := kT_in 220 (by decide +kernel) (by decide +kernel)
theorem q221 : Cond.fieldLink RX2 15 RX2 "numbers" "[J" ∈ kT := kT_in 221 (by decide +kernel) (by decide +kernel)
theorem q222 : Cond.fieldLink RX2 27 RX2 "count" "I" ∈ kT := kT_in 222 (by decide +kernel) (by decide +kernel)
theorem q223 : Cond.laysFinal RX2 RX2 "states" "[I" ∈ kT := kT_in 223 (by decide +kernel) (by decide +kernel)
theorem q225 : Cond.laysFinal RX2 RX2 "numbers" "[J" ∈ kT := kT_in 225 (by decide +kernel) (by decide +kernel)
theorem q227 : Cond.lays RX2 RX2 "count" "I" ∈ kT := kT_in 227 (by decide +kernel) (by decide +kernel)
theorem q231 : Cond.fieldLink RX7 12 RX7 "here" "LFollowingCalf$Front;" ∈ kT := kT_in 231 (by decide +kernel) (by decide +kernel)
theorem q232 : Cond.fieldLink RX7 18 RX7 "next" "LFollowingCalf$Front;" ∈ kT := kT_in 232 (by decide +kernel) (by decide +kernel)
theorem q233 : Cond.fieldLink RX7 65 RX7 "kind" "I" ∈ kT := kT_in 233 (by decide +kernel) (by decide +kernel)
theorem q234 : Cond.fieldLink RX7 68 RX7 "leftOut" "I" ∈ kT := kT_in 234 (by decide +kernel) (by decide +kernel)
theorem q235 : Cond.fieldLink RX7 71 RX7 "opening" "Z" ∈ kT := kT_in 235 (by decide +kernel) (by decide +kernel)
theorem q236 : Cond.lays RX7 RX7 "here" "LFollowingCalf$Front;" ∈ kT := kT_in 236 (by decide +kernel) (by decide +kernel)
theorem q238 : Cond.lays RX7 RX7 "next" "LFollowingCalf$Front;" ∈ kT := kT_in 238 (by decide +kernel) (by decide +kernel)
theorem q240 : Cond.lays RX7 RX7 "kind" "I" ∈ kT := kT_in 240 (by decide +kernel) (by decide +kernel)
theorem q242 : Cond.lays RX7 RX7 "leftOut" "I" ∈ kT := kT_in 242 (by decide +kernel) (by decide +kernel)
theorem q244 : Cond.lays RX7 RX7 "opening" "Z" ∈ kT := kT_in 244 (by decide +kernel) (by decide +kernel)
theorem q259 : Cond.fieldLink RX6 11 RX6 "words" "[I" ∈ kT := kT_in 259 (by decide +kernel) (by decide +kernel)
theorem q260 : Cond.laysFinal RX6 RX6 "words" "[I" ∈ kT := kT_in 260 (by decide +kernel) (by decide +kernel)
theorem q263 : Cond.fieldLink RX0 12 RX0 "rounds" "LFollowingCalf$Rounds;" ∈ kT := kT_in 263 (by decide +kernel) (by decide +kernel)
theorem q264 : Cond.laysFinal RX0 RX0 "rounds" "LFollowingCalf$Rounds;" ∈ kT := kT_in 264 (by decide +kernel) (by decide +kernel)
theorem q316 : Cond.methodLink RX10 88 yX8_append ∈ kT := kT_in 316 (by decide +kernel) (by decide +kernel)
theorem q317 : Cond.instanceMethod yX8_append ∈ kT := kT_in 317 (by decide +kernel) (by decide +kernel)
theorem q318 : Cond.selects RX8 yX8_append yX8_append ∈ kT := kT_in 318 (by decide +kernel) (by decide +kernel)
theorem q319 : Cond.code yX8_append cX8_append 2 none ∈ kT := kT_in 319 (by decide +kernel) (by decide +kernel)
theorem q320 : Cond.methodLink RX10 92 yX5_readInto ∈ kT := kT_in 320 (by decide +kernel) (by decide +kernel)
theorem q321 : Cond.instanceMethod yX5_readInto ∈ kT := kT_in 321 (by decide +kernel) (by decide +kernel)
theorem q322 : Cond.selects RX5 yX5_readInto yX5_readInto ∈ kT := kT_in 322 (by decide +kernel) (by decide +kernel)
theorem q323 : Cond.code yX5_readInto cX5_readInto 4 (some .int) ∈ kT := kT_in 323 (by decide +kernel) (by decide +kernel)
theorem q324 : Cond.methodLink RX5 15 yX1_clear ∈ kT := kT_in 324 (by decide +kernel) (by decide +kernel)
theorem q325 : Cond.instanceMethod yX1_clear ∈ kT := kT_in 325 (by decide +kernel) (by decide +kernel)
theorem q326 : Cond.selects RX1 yX1_clear yX1_clear ∈ kT := kT_in 326 (by decide +kernel) (by decide +kernel)
theorem q327 : Cond.code yX1_clear cX1_clear 2 none ∈ kT := kT_in 327 (by decide +kernel) (by decide +kernel)
theorem q328 : Cond.methodLink RX1 44 yJ7_fill_53178 ∈ kT := kT_in 328 (by decide +kernel) (by decide +kernel)
theorem q329 : Cond.static yJ7_fill_53178 ∈ kT := kT_in 329 (by decide +kernel) (by decide +kernel)
theorem q330 : Cond.code yJ7_fill_53178 cJ7_fill_53178 4 none ∈ kT := kT_in 330 (by decide +kernel) (by decide +kernel)
theorem q331 : Cond.methodLink RX5 24 yX8_length ∈ kT := kT_in 331 (by decide +kernel) (by decide +kernel)
theorem q332 : Cond.instanceMethod yX8_length ∈ kT := kT_in 332 (by decide +kernel) (by decide +kernel)
theorem q333 : Cond.selects RX8 yX8_length yX8_length ∈ kT := kT_in 333 (by decide +kernel) (by decide +kernel)
theorem q334 : Cond.code yX8_length cX8_length 1 (some .int) ∈ kT := kT_in 334 (by decide +kernel) (by decide +kernel)
theorem q335 : Cond.methodLink RX5 30 yX5_readItem ∈ kT := kT_in 335 (by decide +kernel) (by decide +kernel)
theorem q337 : Cond.instanceMethod yX5_readItem ∈ kT := kT_in 337 (by decide +kernel) (by decide +kernel)
theorem q338 : Cond.code yX5_readItem cX5_readItem 4 (some .boolean) ∈ kT := kT_in 338 (by decide +kernel) (by decide +kernel)
theorem q339 : Cond.methodLink RX5 34 yX8_byteAt ∈ kT := kT_in 339 (by decide +kernel) (by decide +kernel)
theorem q340 : Cond.instanceMethod yX8_byteAt ∈ kT := kT_in 340 (by decide +kernel) (by decide +kernel)
theorem q341 : Cond.selects RX8 yX8_byteAt yX8_byteAt ∈ kT := kT_in 341 (by decide +kernel) (by decide +kernel)
theorem q342 : Cond.code yX8_byteAt cX8_byteAt 2 (some .int) ∈ kT := kT_in 342 (by decide +kernel) (by decide +kernel)
theorem q343 : Cond.methodLink RX5 38 yX5_readLane ∈ kT := kT_in 343 (by decide +kernel) (by decide +kernel)
theorem q345 : Cond.instanceMethod yX5_readLane ∈ kT := kT_in 345 (by decide +kernel) (by decide +kernel)
theorem q346 : Cond.code yX5_readLane cX5_readLane 4 (some .boolean) ∈ kT := kT_in 346 (by decide +kernel) (by decide +kernel)
theorem q347 : Cond.methodLink RX5 44 yX5_readNumber ∈ kT := kT_in 347 (by decide +kernel) (by decide +kernel)
theorem q349 : Cond.instanceMethod yX5_readNumber ∈ kT := kT_in 349 (by decide +kernel) (by decide +kernel)
theorem q350 : Cond.code yX5_readNumber cX5_readNumber 3 (some .int) ∈ kT := kT_in 350 (by decide +kernel) (by decide +kernel)
theorem q351 : Cond.methodLink RX5 75 yX5_figureHere ∈ kT := kT_in 351 (by decide +kernel) (by decide +kernel)
theorem q353 : Cond.instanceMethod yX5_figureHere ∈ kT := kT_in 353 (by decide +kernel) (by decide +kernel)
theorem q354 : Cond.code yX5_figureHere cX5_figureHere 2 (some .int) ∈ kT := kT_in 354 (by decide +kernel) (by decide +kernel)
theorem q355 : Cond.methodLink RX5 47 yX5_takes ∈ kT := kT_in 355 (by decide +kernel) (by decide +kernel)
theorem q357 : Cond.instanceMethod yX5_takes ∈ kT := kT_in 357 (by decide +kernel) (by decide +kernel)
theorem q358 : Cond.code yX5_takes cX5_takes 2 (some .boolean) ∈ kT := kT_in 358 (by decide +kernel) (by decide +kernel)
theorem q359 : Cond.methodLink RX5 63 yX1_tellLane ∈ kT := kT_in 359 (by decide +kernel) (by decide +kernel)
theorem q360 : Cond.instanceMethod yX1_tellLane ∈ kT := kT_in 360 (by decide +kernel) (by decide +kernel)
theorem q361 : Cond.selects RX1 yX1_tellLane yX1_tellLane ∈ kT := kT_in 361 (by decide +kernel) (by decide +kernel)
theorem q362 : Cond.code yX1_tellLane cX1_tellLane 3 (some .boolean) ∈ kT := kT_in 362 (by decide +kernel) (by decide +kernel)
theorem q363 : Cond.methodLink RX1 50 yX1_hasYard ∈ kT := kT_in 363 (by decide +kernel) (by decide +kernel)
theorem q364 : Cond.instanceMethod yX1_hasYard ∈ kT := kT_in 364 (by decide +kernel) (by decide +kernel)
theorem q365 : Cond.selects RX1 yX1_hasYard yX1_hasYard ∈ kT := kT_in 365 (by decide +kernel) (by decide +kernel)
theorem q366 : Cond.code yX1_hasYard cX1_hasYard 2 (some .boolean) ∈ kT := kT_in 366 (by decide +kernel) (by decide +kernel)
theorem q367 : Cond.methodLink RX5 41 yX5_readWay ∈ kT := kT_in 367 (by decide +kernel) (by decide +kernel)
theorem q369 : Cond.instanceMethod yX5_readWay ∈ kT := kT_in 369 (by decide +kernel) (by decide +kernel)
theorem q370 : Cond.code yX5_readWay cX5_readWay 5 (some .boolean) ∈ kT := kT_in 370 (by decide +kernel) (by decide +kernel)
theorem q371 : Cond.methodLink RX5 67 yX1_beginWay ∈ kT := kT_in 371 (by decide +kernel) (by decide +kernel)
theorem q372 : Cond.instanceMethod yX1_beginWay ∈ kT := kT_in 372 (by decide +kernel) (by decide +kernel)
theorem q373 : Cond.selects RX1 yX1_beginWay yX1_beginWay ∈ kT := kT_in 373 (by decide +kernel) (by decide +kernel)
theorem q374 : Cond.code yX1_beginWay cX1_beginWay 1 (some .boolean) ∈ kT := kT_in 374 (by decide +kernel) (by decide +kernel)
theorem q375 : Cond.methodLink RX5 71 yX1_addToWay ∈ kT := kT_in 375 (by decide +kernel) (by decide +kernel)
theorem q376 : Cond.instanceMethod yX1_addToWay ∈ kT := kT_in 376 (by decide +kernel) (by decide +kernel)
theorem q377 : Cond.selects RX1 yX1_addToWay yX1_addToWay ∈ kT := kT_in 377 (by decide +kernel) (by decide +kernel)
theorem q378 : Cond.code yX1_addToWay cX1_addToWay 3 none ∈ kT := kT_in 378 (by decide +kernel) (by decide +kernel)
theorem q379 : Cond.methodLink RX5 51 yX1_tellYards ∈ kT := kT_in 379 (by decide +kernel) (by decide +kernel)
theorem q380 : Cond.instanceMethod yX1_tellYards ∈ kT := kT_in 380 (by decide +kernel) (by decide +kernel)
theorem q381 : Cond.selects RX1 yX1_tellYards yX1_tellYards ∈ kT := kT_in 381 (by decide +kernel) (by decide +kernel)
theorem q382 : Cond.code yX1_tellYards cX1_tellYards 2 (some .boolean) ∈ kT := kT_in 382 (by decide +kernel) (by decide +kernel)
theorem q383 : Cond.methodLink RX5 54 yX1_tellPerson ∈ kT := kT_in 383 (by decide +kernel) (by decide +kernel)
theorem q384 : Cond.instanceMethod yX1_tellPerson ∈ kT := kT_in 384 (by decide +kernel) (by decide +kernel)
theorem q385 : Cond.selects RX1 yX1_tellPerson yX1_tellPerson ∈ kT := kT_in 385 (by decide +kernel) (by decide +kernel)
theorem q386 : Cond.code yX1_tellPerson cX1_tellPerson 2 (some .boolean) ∈ kT := kT_in 386 (by decide +kernel) (by decide +kernel)
theorem q387 : Cond.methodLink RX5 57 yX1_tellForgetting ∈ kT := kT_in 387 (by decide +kernel) (by decide +kernel)
theorem q388 : Cond.instanceMethod yX1_tellForgetting ∈ kT := kT_in 388 (by decide +kernel) (by decide +kernel)
theorem q389 : Cond.selects RX1 yX1_tellForgetting yX1_tellForgetting ∈ kT := kT_in 389 (by decide +kernel) (by decide +kernel)
theorem q390 : Cond.code yX1_tellForgetting cX1_tellForgetting 2 (some .boolean) ∈ kT := kT_in 390 (by decide +kernel) (by decide +kernel)
theorem q391 : Cond.methodLink RX5 60 yX1_tellStart ∈ kT := kT_in 391 (by decide +kernel) (by decide +kernel)
theorem q392 : Cond.instanceMethod yX1_tellStart ∈ kT := kT_in 392 (by decide +kernel) (by decide +kernel)
theorem q393 : Cond.selects RX1 yX1_tellStart yX1_tellStart ∈ kT := kT_in 393 (by decide +kernel) (by decide +kernel)
theorem q394 : Cond.code yX1_tellStart cX1_tellStart 2 (some .boolean) ∈ kT := kT_in 394 (by decide +kernel) (by decide +kernel)
theorem q395 : Cond.methodLink RX10 96 yX1_measure ∈ kT := kT_in 395 (by decide +kernel) (by decide +kernel)
theorem q396 : Cond.instanceMethod yX1_measure ∈ kT := kT_in 396 (by decide +kernel) (by decide +kernel)
theorem q397 : Cond.selects RX1 yX1_measure yX1_measure ∈ kT := kT_in 397 (by decide +kernel) (by decide +kernel)
theorem q398 : Cond.code yX1_measure cX1_measure 5 none ∈ kT := kT_in 398 (by decide +kernel) (by decide +kernel)
theorem q399 : Cond.methodLink RX1 54 yX1_distance ∈ kT := kT_in 399 (by decide +kernel) (by decide +kernel)
theorem q400 : Cond.instanceMethod yX1_distance ∈ kT := kT_in 400 (by decide +kernel) (by decide +kernel)
theorem q401 : Cond.selects RX1 yX1_distance yX1_distance ∈ kT := kT_in 401 (by decide +kernel) (by decide +kernel)
theorem q402 : Cond.code yX1_distance cX1_distance 3 (some .int) ∈ kT := kT_in 402 (by decide +kernel) (by decide +kernel)
theorem q403 : Cond.methodLink RX1 58 yX1_lowestNearer ∈ kT := kT_in 403 (by decide +kernel) (by decide +kernel)
theorem q405 : Cond.instanceMethod yX1_lowestNearer ∈ kT := kT_in 405 (by decide +kernel) (by decide +kernel)
theorem q406 : Cond.code yX1_lowestNearer cX1_lowestNearer 5 (some .int) ∈ kT := kT_in 406 (by decide +kernel) (by decide +kernel)
theorem q407 : Cond.methodLink RX10 99 yX8_clear ∈ kT := kT_in 407 (by decide +kernel) (by decide +kernel)
theorem q408 : Cond.instanceMethod yX8_clear ∈ kT := kT_in 408 (by decide +kernel) (by decide +kernel)
theorem q409 : Cond.selects RX8 yX8_clear yX8_clear ∈ kT := kT_in 409 (by decide +kernel) (by decide +kernel)
theorem q410 : Cond.code yX8_clear cX8_clear 1 none ∈ kT := kT_in 410 (by decide +kernel) (by decide +kernel)
theorem q411 : Cond.methodLink RX10 102 yX3_begin ∈ kT := kT_in 411 (by decide +kernel) (by decide +kernel)
theorem q412 : Cond.instanceMethod yX3_begin ∈ kT := kT_in 412 (by decide +kernel) (by decide +kernel)
theorem q413 : Cond.selects RX3 yX3_begin yX3_begin ∈ kT := kT_in 413 (by decide +kernel) (by decide +kernel)
theorem q414 : Cond.code yX3_begin cX3_begin 2 none ∈ kT := kT_in 414 (by decide +kernel) (by decide +kernel)
theorem q415 : Cond.methodLink RX3 13 yX1_firstState ∈ kT := kT_in 415 (by decide +kernel) (by decide +kernel)
theorem q416 : Cond.instanceMethod yX1_firstState ∈ kT := kT_in 416 (by decide +kernel) (by decide +kernel)
theorem q417 : Cond.selects RX1 yX1_firstState yX1_firstState ∈ kT := kT_in 417 (by decide +kernel) (by decide +kernel)
theorem q418 : Cond.code yX1_firstState cX1_firstState 1 (some .int) ∈ kT := kT_in 418 (by decide +kernel) (by decide +kernel)
theorem q419 : Cond.methodLinkNest RX1 73 yX10_packed RX10 ∈ kT := kT_in 419 (by decide +kernel) (by decide +kernel)
theorem q420 : Cond.static yX10_packed ∈ kT := kT_in 420 (by decide +kernel) (by decide +kernel)
theorem q421 : Cond.code yX10_packed cX10_packed 3 (some .int) ∈ kT := kT_in 421 (by decide +kernel) (by decide +kernel)
theorem q422 : Cond.fieldLink RX10 12 RX10 "text" "LFollowingCalf$Text;" ∈ kT := kT_in 422 (by decide +kernel) (by decide +kernel)
theorem q423 : Cond.fieldLink RX10 21 RX10 "reader" "LFollowingCalf$Reader;" ∈ kT := kT_in 423 (by decide +kernel) (by decide +kernel)
theorem q424 : Cond.fieldLink RX10 28 RX10 "farm" "LFollowingCalf$Farm;" ∈ kT := kT_in 424 (by decide +kernel) (by decide +kernel)
theorem q425 : Cond.fieldLink RX10 32 RX10 "draft" "LFollowingCalf$Farm;" ∈ kT := kT_in 425 (by decide +kernel) (by decide +kernel)
theorem q426 : Cond.fieldLink RX10 38 RX10 "now" "LFollowingCalf$Moment;" ∈ kT := kT_in 426 (by decide +kernel) (by decide +kernel)
theorem q427 : Cond.fieldLink RX10 45 RX10 "done" "LFollowingCalf$Moments;" ∈ kT := kT_in 427 (by decide +kernel) (by decide +kernel)
theorem q428 : Cond.fieldLink RX10 49 RX10 "kept" "LFollowingCalf$Moments;" ∈ kT := kT_in 428 (by decide +kernel) (by decide +kernel)
theorem q429 : Cond.fieldLink RX10 55 RX10 "goals" "LFollowingCalf$Told;" ∈ kT := kT_in 429 (by decide +kernel) (by decide +kernel)
theorem q430 : Cond.fieldLink RX10 59 RX10 "sights" "LFollowingCalf$Told;" ∈ kT := kT_in 430 (by decide +kernel) (by decide +kernel)
theorem q431 : Cond.fieldLink RX10 65 RX10 "search" "LFollowingCalf$Search;" ∈ kT := kT_in 431 (by decide +kernel) (by decide +kernel)
theorem q432 : Cond.fieldLink RX10 72 RX10 "contest" "LFollowingCalf$Contest;" ∈ kT := kT_in 432 (by decide +kernel) (by decide +kernel)
theorem q433 : Cond.laysFinal RX10 RX10 "text" "LFollowingCalf$Text;" ∈ kT := kT_in 433 (by decide +kernel) (by decide +kernel)
theorem q435 : Cond.laysFinal RX10 RX10 "reader" "LFollowingCalf$Reader;" ∈ kT := kT_in 435 (by decide +kernel) (by decide +kernel)
theorem q437 : Cond.lays RX10 RX10 "farm" "LFollowingCalf$Farm;" ∈ kT := kT_in 437 (by decide +kernel) (by decide +kernel)
theorem q439 : Cond.lays RX10 RX10 "draft" "LFollowingCalf$Farm;" ∈ kT := kT_in 439 (by decide +kernel) (by decide +kernel)
theorem q441 : Cond.laysFinal RX10 RX10 "now" "LFollowingCalf$Moment;" ∈ kT := kT_in 441 (by decide +kernel) (by decide +kernel)
theorem q443 : Cond.laysFinal RX10 RX10 "done" "LFollowingCalf$Moments;" ∈ kT := kT_in 443 (by decide +kernel) (by decide +kernel)
theorem q445 : Cond.laysFinal RX10 RX10 "kept" "LFollowingCalf$Moments;" ∈ kT := kT_in 445 (by decide +kernel) (by decide +kernel)
theorem q447 : Cond.laysFinal RX10 RX10 "goals" "LFollowingCalf$Told;" ∈ kT := kT_in 447 (by decide +kernel) (by decide +kernel)
theorem q449 : Cond.laysFinal RX10 RX10 "sights" "LFollowingCalf$Told;" ∈ kT := kT_in 449 (by decide +kernel) (by decide +kernel)
theorem q451 : Cond.laysFinal RX10 RX10 "search" "LFollowingCalf$Search;" ∈ kT := kT_in 451 (by decide +kernel) (by decide +kernel)
theorem q453 : Cond.laysFinal RX10 RX10 "contest" "LFollowingCalf$Contest;" ∈ kT := kT_in 453 (by decide +kernel) (by decide +kernel)
theorem q457 : Cond.instanceMethod yX10_write ∈ kT := kT_in 457 (by decide +kernel) (by decide +kernel)
theorem q458 : Cond.selects RX10 yX10_write yX10_write ∈ kT := kT_in 458 (by decide +kernel) (by decide +kernel)
theorem q459 : Cond.code yX10_write cX10_write 5 (some .int) ∈ kT := kT_in 459 (by decide +kernel) (by decide +kernel)
theorem q460 : Cond.methodLink RX10 106 yX8_length ∈ kT := kT_in 460 (by decide +kernel) (by decide +kernel)
theorem q462 : Cond.instanceMethod yX10_wipe ∈ kT := kT_in 462 (by decide +kernel) (by decide +kernel)
theorem q463 : Cond.selects RX10 yX10_wipe yX10_wipe ∈ kT := kT_in 463 (by decide +kernel) (by decide +kernel)
theorem q464 : Cond.code yX10_wipe cX10_wipe 2 (some .int) ∈ kT := kT_in 464 (by decide +kernel) (by decide +kernel)
theorem q466 : Cond.instanceMethod yX10_fault ∈ kT := kT_in 466 (by decide +kernel) (by decide +kernel)
theorem q467 : Cond.selects RX10 yX10_fault yX10_fault ∈ kT := kT_in 467 (by decide +kernel) (by decide +kernel)
theorem q468 : Cond.code yX10_fault cX10_fault 1 (some .int) ∈ kT := kT_in 468 (by decide +kernel) (by decide +kernel)
theorem q470 : Cond.instanceMethod yX10_lay ∈ kT := kT_in 470 (by decide +kernel) (by decide +kernel)
theorem q471 : Cond.selects RX10 yX10_lay yX10_lay ∈ kT := kT_in 471 (by decide +kernel) (by decide +kernel)
theorem q472 : Cond.code yX10_lay cX10_lay 2 (some .int) ∈ kT := kT_in 472 (by decide +kernel) (by decide +kernel)
theorem q473 : Cond.methodLink RX10 107 yX1_canBeLaid ∈ kT := kT_in 473 (by decide +kernel) (by decide +kernel)
theorem q474 : Cond.instanceMethod yX1_canBeLaid ∈ kT := kT_in 474 (by decide +kernel) (by decide +kernel)
theorem q475 : Cond.selects RX1 yX1_canBeLaid yX1_canBeLaid ∈ kT := kT_in 475 (by decide +kernel) (by decide +kernel)
theorem q476 : Cond.code yX1_canBeLaid cX1_canBeLaid 3 (some .boolean) ∈ kT := kT_in 476 (by decide +kernel) (by decide +kernel)
theorem q477 : Cond.methodLink RX10 111 yX9_clear ∈ kT := kT_in 477 (by decide +kernel) (by decide +kernel)
theorem q478 : Cond.instanceMethod yX9_clear ∈ kT := kT_in 478 (by decide +kernel) (by decide +kernel)
theorem q479 : Cond.selects RX9 yX9_clear yX9_clear ∈ kT := kT_in 479 (by decide +kernel) (by decide +kernel)
theorem q480 : Cond.code yX9_clear cX9_clear 2 (some .int) ∈ kT := kT_in 480 (by decide +kernel) (by decide +kernel)
theorem q481 : Cond.methodLink RX10 113 yX4_clear ∈ kT := kT_in 481 (by decide +kernel) (by decide +kernel)
theorem q482 : Cond.instanceMethod yX4_clear ∈ kT := kT_in 482 (by decide +kernel) (by decide +kernel)
theorem q483 : Cond.selects RX4 yX4_clear yX4_clear ∈ kT := kT_in 483 (by decide +kernel) (by decide +kernel)
theorem q484 : Cond.code yX4_clear cX4_clear 1 none ∈ kT := kT_in 484 (by decide +kernel) (by decide +kernel)
theorem q485 : Cond.methodLink RX10 114 yX1_persons ∈ kT := kT_in 485 (by decide +kernel) (by decide +kernel)
theorem q486 : Cond.instanceMethod yX1_persons ∈ kT := kT_in 486 (by decide +kernel) (by decide +kernel)
theorem q487 : Cond.selects RX1 yX1_persons yX1_persons ∈ kT := kT_in 487 (by decide +kernel) (by decide +kernel)
theorem q488 : Cond.code yX1_persons cX1_persons 1 (some .int) ∈ kT := kT_in 488 (by decide +kernel) (by decide +kernel)
theorem q490 : Cond.instanceMethod yX10_far ∈ kT := kT_in 490 (by decide +kernel) (by decide +kernel)
theorem q491 : Cond.selects RX10 yX10_far yX10_far ∈ kT := kT_in 491 (by decide +kernel) (by decide +kernel)
theorem q492 : Cond.code yX10_far cX10_far 4 (some .int) ∈ kT := kT_in 492 (by decide +kernel) (by decide +kernel)
theorem q493 : Cond.methodLink RX10 117 yX1_hasYard ∈ kT := kT_in 493 (by decide +kernel) (by decide +kernel)
theorem q494 : Cond.methodLink RX10 121 yX1_distance ∈ kT := kT_in 494 (by decide +kernel) (by decide +kernel)
theorem q496 : Cond.instanceMethod yX10_person ∈ kT := kT_in 496 (by decide +kernel) (by decide +kernel)
theorem q497 : Cond.selects RX10 yX10_person yX10_person ∈ kT := kT_in 497 (by decide +kernel) (by decide +kernel)
theorem q498 : Cond.code yX10_person cX10_person 3 (some .int) ∈ kT := kT_in 498 (by decide +kernel) (by decide +kernel)
theorem q499 : Cond.methodLink RX10 125 yX1_hasPerson ∈ kT := kT_in 499 (by decide +kernel) (by decide +kernel)
theorem q500 : Cond.instanceMethod yX1_hasPerson ∈ kT := kT_in 500 (by decide +kernel) (by decide +kernel)
theorem q501 : Cond.selects RX1 yX1_hasPerson yX1_hasPerson ∈ kT := kT_in 501 (by decide +kernel) (by decide +kernel)
theorem q502 : Cond.code yX1_hasPerson cX1_hasPerson 2 (some .boolean) ∈ kT := kT_in 502 (by decide +kernel) (by decide +kernel)
theorem q503 : Cond.methodLink RX10 128 yX1_cost ∈ kT := kT_in 503 (by decide +kernel) (by decide +kernel)
theorem q504 : Cond.instanceMethod yX1_cost ∈ kT := kT_in 504 (by decide +kernel) (by decide +kernel)
theorem q505 : Cond.selects RX1 yX1_cost yX1_cost ∈ kT := kT_in 505 (by decide +kernel) (by decide +kernel)
theorem q506 : Cond.code yX1_cost cX1_cost 2 (some .int) ∈ kT := kT_in 506 (by decide +kernel) (by decide +kernel)
theorem q507 : Cond.methodLink RX10 132 yX1_yardAt ∈ kT := kT_in 507 (by decide +kernel) (by decide +kernel)
theorem q508 : Cond.instanceMethod yX1_yardAt ∈ kT := kT_in 508 (by decide +kernel) (by decide +kernel)
theorem q509 : Cond.selects RX1 yX1_yardAt yX1_yardAt ∈ kT := kT_in 509 (by decide +kernel) (by decide +kernel)
theorem q510 : Cond.code yX1_yardAt cX1_yardAt 4 (some .int) ∈ kT := kT_in 510 (by decide +kernel) (by decide +kernel)
theorem q512 : Cond.instanceMethod yX10_feed ∈ kT := kT_in 512 (by decide +kernel) (by decide +kernel)
theorem q513 : Cond.selects RX10 yX10_feed yX10_feed ∈ kT := kT_in 513 (by decide +kernel) (by decide +kernel)
theorem q514 : Cond.code yX10_feed cX10_feed 2 (some .int) ∈ kT := kT_in 514 (by decide +kernel) (by decide +kernel)
theorem q515 : Cond.methodLink RX10 142 yX1_canFeed ∈ kT := kT_in 515 (by decide +kernel) (by decide +kernel)
theorem q516 : Cond.instanceMethod yX1_canFeed ∈ kT := kT_in 516 (by decide +kernel) (by decide +kernel)
theorem q517 : Cond.selects RX1 yX1_canFeed yX1_canFeed ∈ kT := kT_in 517 (by decide +kernel) (by decide +kernel)
theorem q518 : Cond.code yX1_canFeed cX1_canFeed 4 (some .boolean) ∈ kT := kT_in 518 (by decide +kernel) (by decide +kernel)
theorem q519 : Cond.methodLink RX1 61 yX1_yardAt ∈ kT := kT_in 519 (by decide +kernel) (by decide +kernel)
theorem q520 : Cond.methodLinkNest RX1 64 yX10_yardOf RX10 ∈ kT := kT_in 520 (by decide +kernel) (by decide +kernel)
theorem q521 : Cond.static yX10_yardOf ∈ kT := kT_in 521 (by decide +kernel) (by decide +kernel)
theorem q522 : Cond.code yX10_yardOf cX10_yardOf 1 (some .int) ∈ kT := kT_in 522 (by decide +kernel) (by decide +kernel)
theorem q523 : Cond.methodLink RX10 146 yX4_push ∈ kT := kT_in 523 (by decide +kernel) (by decide +kernel)
theorem q524 : Cond.instanceMethod yX4_push ∈ kT := kT_in 524 (by decide +kernel) (by decide +kernel)
theorem q525 : Cond.selects RX4 yX4_push yX4_push ∈ kT := kT_in 525 (by decide +kernel) (by decide +kernel)
theorem q526 : Cond.code yX4_push cX4_push 2 none ∈ kT := kT_in 526 (by decide +kernel) (by decide +kernel)
theorem q527 : Cond.methodLink RX4 25 yX4_dropLowest ∈ kT := kT_in 527 (by decide +kernel) (by decide +kernel)
theorem q529 : Cond.instanceMethod yX4_dropLowest ∈ kT := kT_in 529 (by decide +kernel) (by decide +kernel)
theorem q530 : Cond.code yX4_dropLowest cX4_dropLowest 2 none ∈ kT := kT_in 530 (by decide +kernel) (by decide +kernel)
theorem q531 : Cond.methodLink RX10 150 yX10_fedState ∈ kT := kT_in 531 (by decide +kernel) (by decide +kernel)
theorem q532 : Cond.static yX10_fedState ∈ kT := kT_in 532 (by decide +kernel) (by decide +kernel)
theorem q533 : Cond.code yX10_fedState cX10_fedState 2 (some .int) ∈ kT := kT_in 533 (by decide +kernel) (by decide +kernel)
theorem q534 : Cond.methodLink RX10 160 yX10_yardOf ∈ kT := kT_in 534 (by decide +kernel) (by decide +kernel)
theorem q535 : Cond.methodLink RX10 227 yX10_packed ∈ kT := kT_in 535 (by decide +kernel) (by decide +kernel)
theorem q537 : Cond.instanceMethod yX10_pass ∈ kT := kT_in 537 (by decide +kernel) (by decide +kernel)
theorem q538 : Cond.selects RX10 yX10_pass yX10_pass ∈ kT := kT_in 538 (by decide +kernel) (by decide +kernel)
theorem q539 : Cond.code yX10_pass cX10_pass 2 (some .int) ∈ kT := kT_in 539 (by decide +kernel) (by decide +kernel)
theorem q540 : Cond.methodLink RX10 156 yX1_unfed ∈ kT := kT_in 540 (by decide +kernel) (by decide +kernel)
theorem q541 : Cond.instanceMethod yX1_unfed ∈ kT := kT_in 541 (by decide +kernel) (by decide +kernel)
theorem q542 : Cond.selects RX1 yX1_unfed yX1_unfed ∈ kT := kT_in 542 (by decide +kernel) (by decide +kernel)
theorem q543 : Cond.code yX1_unfed cX1_unfed 6 (some .int) ∈ kT := kT_in 543 (by decide +kernel) (by decide +kernel)
theorem q544 : Cond.methodLink RX1 85 yX1_onward ∈ kT := kT_in 544 (by decide +kernel) (by decide +kernel)
theorem q545 : Cond.instanceMethod yX1_onward ∈ kT := kT_in 545 (by decide +kernel) (by decide +kernel)
theorem q546 : Cond.selects RX1 yX1_onward yX1_onward ∈ kT := kT_in 546 (by decide +kernel) (by decide +kernel)
theorem q547 : Cond.code yX1_onward cX1_onward 6 (some .int) ∈ kT := kT_in 547 (by decide +kernel) (by decide +kernel)
theorem q548 : Cond.methodLinkNest RX1 77 yX10_followedIn RX10 ∈ kT := kT_in 548 (by decide +kernel) (by decide +kernel)
theorem q549 : Cond.static yX10_followedIn ∈ kT := kT_in 549 (by decide +kernel) (by decide +kernel)
theorem q550 : Cond.code yX10_followedIn cX10_followedIn 1 (some .int) ∈ kT := kT_in 550 (by decide +kernel) (by decide +kernel)
theorem q551 : Cond.methodLinkNest RX1 80 yX10_ageIn RX10 ∈ kT := kT_in 551 (by decide +kernel) (by decide +kernel)
theorem q552 : Cond.static yX10_ageIn ∈ kT := kT_in 552 (by decide +kernel) (by decide +kernel)
theorem q553 : Cond.code yX10_ageIn cX10_ageIn 1 (some .int) ∈ kT := kT_in 553 (by decide +kernel) (by decide +kernel)
theorem q554 : Cond.methodLink RX1 83 yX1_towards ∈ kT := kT_in 554 (by decide +kernel) (by decide +kernel)
theorem q556 : Cond.instanceMethod yX1_towards ∈ kT := kT_in 556 (by decide +kernel) (by decide +kernel)
theorem q557 : Cond.code yX1_towards cX1_towards 3 (some .int) ∈ kT := kT_in 557 (by decide +kernel) (by decide +kernel)
theorem q559 : Cond.instanceMethod yX10_undo ∈ kT := kT_in 559 (by decide +kernel) (by decide +kernel)
theorem q560 : Cond.selects RX10 yX10_undo yX10_undo ∈ kT := kT_in 560 (by decide +kernel) (by decide +kernel)
theorem q561 : Cond.code yX10_undo cX10_undo 1 (some .int) ∈ kT := kT_in 561 (by decide +kernel) (by decide +kernel)
theorem q562 : Cond.methodLink RX10 163 yX4_size ∈ kT := kT_in 562 (by decide +kernel) (by decide +kernel)
theorem q563 : Cond.instanceMethod yX4_size ∈ kT := kT_in 563 (by decide +kernel) (by decide +kernel)
theorem q564 : Cond.selects RX4 yX4_size yX4_size ∈ kT := kT_in 564 (by decide +kernel) (by decide +kernel)
theorem q565 : Cond.code yX4_size cX4_size 1 (some .int) ∈ kT := kT_in 565 (by decide +kernel) (by decide +kernel)
theorem q566 : Cond.methodLink RX10 166 yX4_pop ∈ kT := kT_in 566 (by decide +kernel) (by decide +kernel)
theorem q567 : Cond.instanceMethod yX4_pop ∈ kT := kT_in 567 (by decide +kernel) (by decide +kernel)
theorem q568 : Cond.selects RX4 yX4_pop yX4_pop ∈ kT := kT_in 568 (by decide +kernel) (by decide +kernel)
theorem q569 : Cond.code yX4_pop cX4_pop 2 none ∈ kT := kT_in 569 (by decide +kernel) (by decide +kernel)
theorem q571 : Cond.instanceMethod yX10_calf ∈ kT := kT_in 571 (by decide +kernel) (by decide +kernel)
theorem q572 : Cond.selects RX10 yX10_calf yX10_calf ∈ kT := kT_in 572 (by decide +kernel) (by decide +kernel)
theorem q573 : Cond.code yX10_calf cX10_calf 4 (some .int) ∈ kT := kT_in 573 (by decide +kernel) (by decide +kernel)
theorem q574 : Cond.methodLink RX10 169 yX10_isFlag ∈ kT := kT_in 574 (by decide +kernel) (by decide +kernel)
theorem q575 : Cond.static yX10_isFlag ∈ kT := kT_in 575 (by decide +kernel) (by decide +kernel)
theorem q576 : Cond.code yX10_isFlag cX10_isFlag 1 (some .boolean) ∈ kT := kT_in 576 (by decide +kernel) (by decide +kernel)
theorem q577 : Cond.methodLink RX10 172 yX10_followedIn ∈ kT := kT_in 577 (by decide +kernel) (by decide +kernel)
theorem q578 : Cond.methodLink RX10 175 yX10_orNone ∈ kT := kT_in 578 (by decide +kernel) (by decide +kernel)
theorem q579 : Cond.static yX10_orNone ∈ kT := kT_in 579 (by decide +kernel) (by decide +kernel)
theorem q580 : Cond.code yX10_orNone cX10_orNone 1 (some .int) ∈ kT := kT_in 580 (by decide +kernel) (by decide +kernel)
theorem q582 : Cond.instanceMethod yX10_goal ∈ kT := kT_in 582 (by decide +kernel) (by decide +kernel)
theorem q583 : Cond.selects RX10 yX10_goal yX10_goal ∈ kT := kT_in 583 (by decide +kernel) (by decide +kernel)
theorem q584 : Cond.code yX10_goal cX10_goal 3 (some .int) ∈ kT := kT_in 584 (by decide +kernel) (by decide +kernel)
theorem q585 : Cond.methodLink RX10 178 yX9_add ∈ kT := kT_in 585 (by decide +kernel) (by decide +kernel)
theorem q586 : Cond.instanceMethod yX9_add ∈ kT := kT_in 586 (by decide +kernel) (by decide +kernel)
theorem q587 : Cond.selects RX9 yX9_add yX9_add ∈ kT := kT_in 587 (by decide +kernel) (by decide +kernel)
theorem q588 : Cond.code yX9_add cX9_add 3 (some .int) ∈ kT := kT_in 588 (by decide +kernel) (by decide +kernel)
theorem q590 : Cond.instanceMethod yX10_noGoals ∈ kT := kT_in 590 (by decide +kernel) (by decide +kernel)
theorem q591 : Cond.selects RX10 yX10_noGoals yX10_noGoals ∈ kT := kT_in 591 (by decide +kernel) (by decide +kernel)
theorem q592 : Cond.code yX10_noGoals cX10_noGoals 1 (some .int) ∈ kT := kT_in 592 (by decide +kernel) (by decide +kernel)
theorem q594 : Cond.instanceMethod yX10_price ∈ kT := kT_in 594 (by decide +kernel) (by decide +kernel)
theorem q595 : Cond.selects RX10 yX10_price yX10_price ∈ kT := kT_in 595 (by decide +kernel) (by decide +kernel)
theorem q596 : Cond.code yX10_price cX10_price 1 (some .int) ∈ kT := kT_in 596 (by decide +kernel) (by decide +kernel)
theorem q597 : Cond.methodLink RX10 181 yX7_cheapest ∈ kT := kT_in 597 (by decide +kernel) (by decide +kernel)
theorem q598 : Cond.instanceMethod yX7_cheapest ∈ kT := kT_in 598 (by decide +kernel) (by decide +kernel)
theorem q599 : Cond.selects RX7 yX7_cheapest yX7_cheapest ∈ kT := kT_in 599 (by decide +kernel) (by decide +kernel)
theorem q600 : Cond.code yX7_cheapest cX7_cheapest 4 (some .int) ∈ kT := kT_in 600 (by decide +kernel) (by decide +kernel)
theorem q601 : Cond.methodLink RX7 21 yX7_begin ∈ kT := kT_in 601 (by decide +kernel) (by decide +kernel)
theorem q603 : Cond.instanceMethod yX7_begin ∈ kT := kT_in 603 (by decide +kernel) (by decide +kernel)
theorem q604 : Cond.code yX7_begin cX7_begin 3 none ∈ kT := kT_in 604 (by decide +kernel) (by decide +kernel)
theorem q605 : Cond.methodLink RX7 75 yX2_clear ∈ kT := kT_in 605 (by decide +kernel) (by decide +kernel)
theorem q606 : Cond.instanceMethod yX2_clear ∈ kT := kT_in 606 (by decide +kernel) (by decide +kernel)
theorem q607 : Cond.selects RX2 yX2_clear yX2_clear ∈ kT := kT_in 607 (by decide +kernel) (by decide +kernel)
theorem q608 : Cond.code yX2_clear cX2_clear 2 none ∈ kT := kT_in 608 (by decide +kernel) (by decide +kernel)
theorem q609 : Cond.methodLink RX7 31 yX2_put ∈ kT := kT_in 609 (by decide +kernel) (by decide +kernel)
theorem q610 : Cond.instanceMethod yX2_put ∈ kT := kT_in 610 (by decide +kernel) (by decide +kernel)
theorem q611 : Cond.selects RX2 yX2_put yX2_put ∈ kT := kT_in 611 (by decide +kernel) (by decide +kernel)
theorem q612 : Cond.code yX2_put cX2_put 5 none ∈ kT := kT_in 612 (by decide +kernel) (by decide +kernel)
theorem q613 : Cond.methodLink RX2 31 yJ9_min_f86c9 ∈ kT := kT_in 613 (by decide +kernel) (by decide +kernel)
theorem q614 : Cond.static yJ9_min_f86c9 ∈ kT := kT_in 614 (by decide +kernel) (by decide +kernel)
theorem q615 : Cond.code yJ9_min_f86c9 cJ9_min_f86c9 4 (some .long) ∈ kT := kT_in 615 (by decide +kernel) (by decide +kernel)
theorem q616 : Cond.methodLink RX7 38 yX7_follow ∈ kT := kT_in 616 (by decide +kernel) (by decide +kernel)
theorem q618 : Cond.instanceMethod yX7_follow ∈ kT := kT_in 618 (by decide +kernel) (by decide +kernel)
theorem q619 : Cond.code yX7_follow cX7_follow 7 (some .int) ∈ kT := kT_in 619 (by decide +kernel) (by decide +kernel)
theorem q620 : Cond.methodLink RX7 78 yX9_lastMinute ∈ kT := kT_in 620 (by decide +kernel) (by decide +kernel)
theorem q621 : Cond.instanceMethod yX9_lastMinute ∈ kT := kT_in 621 (by decide +kernel) (by decide +kernel)
theorem q622 : Cond.selects RX9 yX9_lastMinute yX9_lastMinute ∈ kT := kT_in 622 (by decide +kernel) (by decide +kernel)
theorem q623 : Cond.code yX9_lastMinute cX9_lastMinute 3 (some .int) ∈ kT := kT_in 623 (by decide +kernel) (by decide +kernel)
theorem q624 : Cond.methodLink RX9 22 yJ9_max_7cf53 ∈ kT := kT_in 624 (by decide +kernel) (by decide +kernel)
theorem q625 : Cond.static yJ9_max_7cf53 ∈ kT := kT_in 625 (by decide +kernel) (by decide +kernel)
theorem q626 : Cond.code yJ9_max_7cf53 cJ9_max_7cf53 2 (some .int) ∈ kT := kT_in 626 (by decide +kernel) (by decide +kernel)
theorem q627 : Cond.methodLink RX7 83 yX7_sieve ∈ kT := kT_in 627 (by decide +kernel) (by decide +kernel)
theorem q629 : Cond.instanceMethod yX7_sieve ∈ kT := kT_in 629 (by decide +kernel) (by decide +kernel)
theorem q630 : Cond.code yX7_sieve cX7_sieve 4 (some .int) ∈ kT := kT_in 630 (by decide +kernel) (by decide +kernel)
theorem q631 : Cond.methodLink RX7 87 yX9_size ∈ kT := kT_in 631 (by decide +kernel) (by decide +kernel)
theorem q632 : Cond.instanceMethod yX9_size ∈ kT := kT_in 632 (by decide +kernel) (by decide +kernel)
theorem q633 : Cond.selects RX9 yX9_size yX9_size ∈ kT := kT_in 633 (by decide +kernel) (by decide +kernel)
theorem q634 : Cond.code yX9_size cX9_size 1 (some .int) ∈ kT := kT_in 634 (by decide +kernel) (by decide +kernel)
theorem q635 : Cond.methodLink RX7 90 yX9_isOf ∈ kT := kT_in 635 (by decide +kernel) (by decide +kernel)
theorem q636 : Cond.instanceMethod yX9_isOf ∈ kT := kT_in 636 (by decide +kernel) (by decide +kernel)
theorem q637 : Cond.selects RX9 yX9_isOf yX9_isOf ∈ kT := kT_in 637 (by decide +kernel) (by decide +kernel)
theorem q638 : Cond.code yX9_isOf cX9_isOf 3 (some .boolean) ∈ kT := kT_in 638 (by decide +kernel) (by decide +kernel)
theorem q639 : Cond.methodLink RX7 94 yX9_yard ∈ kT := kT_in 639 (by decide +kernel) (by decide +kernel)
theorem q640 : Cond.instanceMethod yX9_yard ∈ kT := kT_in 640 (by decide +kernel) (by decide +kernel)
theorem q641 : Cond.selects RX9 yX9_yard yX9_yard ∈ kT := kT_in 641 (by decide +kernel) (by decide +kernel)
theorem q642 : Cond.code yX9_yard cX9_yard 2 (some .int) ∈ kT := kT_in 642 (by decide +kernel) (by decide +kernel)
theorem q643 : Cond.methodLink RX7 61 yX2_keepThoseAt ∈ kT := kT_in 643 (by decide +kernel) (by decide +kernel)
theorem q644 : Cond.instanceMethod yX2_keepThoseAt ∈ kT := kT_in 644 (by decide +kernel) (by decide +kernel)
theorem q645 : Cond.selects RX2 yX2_keepThoseAt yX2_keepThoseAt ∈ kT := kT_in 645 (by decide +kernel) (by decide +kernel)
theorem q646 : Cond.code yX2_keepThoseAt cX2_keepThoseAt 5 none ∈ kT := kT_in 646 (by decide +kernel) (by decide +kernel)
theorem q647 : Cond.methodLinkNest RX2 37 yX10_yardOf RX10 ∈ kT := kT_in 647 (by decide +kernel) (by decide +kernel)
theorem q648 : Cond.methodLink RX7 98 yX2_size ∈ kT := kT_in 648 (by decide +kernel) (by decide +kernel)
theorem q649 : Cond.instanceMethod yX2_size ∈ kT := kT_in 649 (by decide +kernel) (by decide +kernel)
theorem q650 : Cond.selects RX2 yX2_size yX2_size ∈ kT := kT_in 650 (by decide +kernel) (by decide +kernel)
theorem q651 : Cond.code yX2_size cX2_size 1 (some .int) ∈ kT := kT_in 651 (by decide +kernel) (by decide +kernel)
theorem q652 : Cond.methodLink RX7 57 yX7_spread ∈ kT := kT_in 652 (by decide +kernel) (by decide +kernel)
theorem q654 : Cond.instanceMethod yX7_spread ∈ kT := kT_in 654 (by decide +kernel) (by decide +kernel)
theorem q655 : Cond.code yX7_spread cX7_spread 4 none ∈ kT := kT_in 655 (by decide +kernel) (by decide +kernel)
theorem q656 : Cond.methodLink RX7 99 yX2_state ∈ kT := kT_in 656 (by decide +kernel) (by decide +kernel)
theorem q657 : Cond.instanceMethod yX2_state ∈ kT := kT_in 657 (by decide +kernel) (by decide +kernel)
theorem q658 : Cond.selects RX2 yX2_state yX2_state ∈ kT := kT_in 658 (by decide +kernel) (by decide +kernel)
theorem q659 : Cond.code yX2_state cX2_state 2 (some .int) ∈ kT := kT_in 659 (by decide +kernel) (by decide +kernel)
theorem q660 : Cond.methodLink RX7 101 yX2_number ∈ kT := kT_in 660 (by decide +kernel) (by decide +kernel)
theorem q661 : Cond.instanceMethod yX2_number ∈ kT := kT_in 661 (by decide +kernel) (by decide +kernel)
theorem q662 : Cond.selects RX2 yX2_number yX2_number ∈ kT := kT_in 662 (by decide +kernel) (by decide +kernel)
theorem q663 : Cond.code yX2_number cX2_number 2 (some .long) ∈ kT := kT_in 663 (by decide +kernel) (by decide +kernel)
theorem q664 : Cond.methodLink RX7 105 yX7_branch ∈ kT := kT_in 664 (by decide +kernel) (by decide +kernel)
theorem q666 : Cond.instanceMethod yX7_branch ∈ kT := kT_in 666 (by decide +kernel) (by decide +kernel)
theorem q667 : Cond.code yX7_branch cX7_branch 10 none ∈ kT := kT_in 667 (by decide +kernel) (by decide +kernel)
theorem q668 : Cond.methodLink RX7 109 yX7_feedersOf ∈ kT := kT_in 668 (by decide +kernel) (by decide +kernel)
theorem q670 : Cond.instanceMethod yX7_feedersOf ∈ kT := kT_in 670 (by decide +kernel) (by decide +kernel)
theorem q671 : Cond.code yX7_feedersOf cX7_feedersOf 6 (some .int) ∈ kT := kT_in 671 (by decide +kernel) (by decide +kernel)
theorem q672 : Cond.methodLink RX7 121 yX1_persons ∈ kT := kT_in 672 (by decide +kernel) (by decide +kernel)
theorem q673 : Cond.methodLink RX7 124 yX1_canFeed ∈ kT := kT_in 673 (by decide +kernel) (by decide +kernel)
theorem q674 : Cond.methodLink RX7 113 yX1_onward ∈ kT := kT_in 674 (by decide +kernel) (by decide +kernel)
theorem q675 : Cond.methodLink RX7 117 yX7_whenUnfed ∈ kT := kT_in 675 (by decide +kernel) (by decide +kernel)
theorem q677 : Cond.instanceMethod yX7_whenUnfed ∈ kT := kT_in 677 (by decide +kernel) (by decide +kernel)
theorem q678 : Cond.code yX7_whenUnfed cX7_whenUnfed 4 (some .long) ∈ kT := kT_in 678 (by decide +kernel) (by decide +kernel)
theorem q679 : Cond.constantLong RX7 135 (120) ∈ kT := kT_in 679 (by decide +kernel) (by decide +kernel)
theorem q680 : Cond.constantLong RX7 137 (60) ∈ kT := kT_in 680 (by decide +kernel) (by decide +kernel)
theorem q681 : Cond.methodLinkNest RX7 128 yX10_fedState RX10 ∈ kT := kT_in 681 (by decide +kernel) (by decide +kernel)
theorem q682 : Cond.methodLink RX7 131 yX7_whenFed ∈ kT := kT_in 682 (by decide +kernel) (by decide +kernel)
theorem q684 : Cond.instanceMethod yX7_whenFed ∈ kT := kT_in 684 (by decide +kernel) (by decide +kernel)
theorem q685 : Cond.code yX7_whenFed cX7_whenFed 6 (some .long) ∈ kT := kT_in 685 (by decide +kernel) (by decide +kernel)
theorem q686 : Cond.methodLink RX7 139 yX1_cost ∈ kT := kT_in 686 (by decide +kernel) (by decide +kernel)
theorem q687 : Cond.methodLink RX10 185 yX7_leastCost ∈ kT := kT_in 687 (by decide +kernel) (by decide +kernel)
theorem q688 : Cond.instanceMethod yX7_leastCost ∈ kT := kT_in 688 (by decide +kernel) (by decide +kernel)
theorem q689 : Cond.selects RX7 yX7_leastCost yX7_leastCost ∈ kT := kT_in 689 (by decide +kernel) (by decide +kernel)
theorem q690 : Cond.code yX7_leastCost cX7_leastCost 1 (some .int) ∈ kT := kT_in 690 (by decide +kernel) (by decide +kernel)
theorem q691 : Cond.methodLink RX7 42 yX2_least ∈ kT := kT_in 691 (by decide +kernel) (by decide +kernel)
theorem q692 : Cond.instanceMethod yX2_least ∈ kT := kT_in 692 (by decide +kernel) (by decide +kernel)
theorem q693 : Cond.selects RX2 yX2_least yX2_least ∈ kT := kT_in 693 (by decide +kernel) (by decide +kernel)
theorem q694 : Cond.code yX2_least cX2_least 4 (some .long) ∈ kT := kT_in 694 (by decide +kernel) (by decide +kernel)
theorem q695 : Cond.constantLong RX7 46 (8) ∈ kT := kT_in 695 (by decide +kernel) (by decide +kernel)
theorem q697 : Cond.instanceMethod yX10_first ∈ kT := kT_in 697 (by decide +kernel) (by decide +kernel)
theorem q698 : Cond.selects RX10 yX10_first yX10_first ∈ kT := kT_in 698 (by decide +kernel) (by decide +kernel)
theorem q699 : Cond.code yX10_first cX10_first 1 (some .int) ∈ kT := kT_in 699 (by decide +kernel) (by decide +kernel)
theorem q700 : Cond.methodLink RX10 188 yX7_firstFeeder ∈ kT := kT_in 700 (by decide +kernel) (by decide +kernel)
theorem q701 : Cond.instanceMethod yX7_firstFeeder ∈ kT := kT_in 701 (by decide +kernel) (by decide +kernel)
theorem q702 : Cond.selects RX7 yX7_firstFeeder yX7_firstFeeder ∈ kT := kT_in 702 (by decide +kernel) (by decide +kernel)
theorem q703 : Cond.code yX7_firstFeeder cX7_firstFeeder 1 (some .int) ∈ kT := kT_in 703 (by decide +kernel) (by decide +kernel)
theorem q705 : Cond.instanceMethod yX10_bars ∈ kT := kT_in 705 (by decide +kernel) (by decide +kernel)
theorem q706 : Cond.selects RX10 yX10_bars yX10_bars ∈ kT := kT_in 706 (by decide +kernel) (by decide +kernel)
theorem q707 : Cond.code yX10_bars cX10_bars 1 (some .int) ∈ kT := kT_in 707 (by decide +kernel) (by decide +kernel)
theorem q709 : Cond.instanceMethod yX10_game ∈ kT := kT_in 709 (by decide +kernel) (by decide +kernel)
theorem q710 : Cond.selects RX10 yX10_game yX10_game ∈ kT := kT_in 710 (by decide +kernel) (by decide +kernel)
theorem q711 : Cond.code yX10_game cX10_game 6 (some .int) ∈ kT := kT_in 711 (by decide +kernel) (by decide +kernel)
theorem q712 : Cond.methodLink RX10 191 yX1_everybody ∈ kT := kT_in 712 (by decide +kernel) (by decide +kernel)
theorem q713 : Cond.instanceMethod yX1_everybody ∈ kT := kT_in 713 (by decide +kernel) (by decide +kernel)
theorem q714 : Cond.selects RX1 yX1_everybody yX1_everybody ∈ kT := kT_in 714 (by decide +kernel) (by decide +kernel)
theorem q715 : Cond.code yX1_everybody cX1_everybody 1 (some .int) ∈ kT := kT_in 715 (by decide +kernel) (by decide +kernel)
theorem q716 : Cond.methodLink RX10 194 yX0_opening ∈ kT := kT_in 716 (by decide +kernel) (by decide +kernel)
theorem q717 : Cond.instanceMethod yX0_opening ∈ kT := kT_in 717 (by decide +kernel) (by decide +kernel)
theorem q718 : Cond.selects RX0 yX0_opening yX0_opening ∈ kT := kT_in 718 (by decide +kernel) (by decide +kernel)
theorem q719 : Cond.code yX0_opening cX0_opening 7 (some .int) ∈ kT := kT_in 719 (by decide +kernel) (by decide +kernel)
theorem q720 : Cond.methodLink RX0 18 yX6_clear ∈ kT := kT_in 720 (by decide +kernel) (by decide +kernel)
theorem q721 : Cond.instanceMethod yX6_clear ∈ kT := kT_in 721 (by decide +kernel) (by decide +kernel)
theorem q722 : Cond.selects RX6 yX6_clear yX6_clear ∈ kT := kT_in 722 (by decide +kernel) (by decide +kernel)
theorem q723 : Cond.code yX6_clear cX6_clear 1 none ∈ kT := kT_in 723 (by decide +kernel) (by decide +kernel)
theorem q724 : Cond.methodLink RX6 15 yJ7_fill_53178 ∈ kT := kT_in 724 (by decide +kernel) (by decide +kernel)
theorem q725 : Cond.methodLink RX0 27 yX6_add ∈ kT := kT_in 725 (by decide +kernel) (by decide +kernel)
theorem q726 : Cond.instanceMethod yX6_add ∈ kT := kT_in 726 (by decide +kernel) (by decide +kernel)
theorem q727 : Cond.selects RX6 yX6_add yX6_add ∈ kT := kT_in 727 (by decide +kernel) (by decide +kernel)
theorem q728 : Cond.code yX6_add cX6_add 3 none ∈ kT := kT_in 728 (by decide +kernel) (by decide +kernel)
theorem q729 : Cond.methodLink RX6 21 yX6_isOne ∈ kT := kT_in 729 (by decide +kernel) (by decide +kernel)
theorem q730 : Cond.static yX6_isOne ∈ kT := kT_in 730 (by decide +kernel) (by decide +kernel)
theorem q731 : Cond.code yX6_isOne cX6_isOne 2 (some .boolean) ∈ kT := kT_in 731 (by decide +kernel) (by decide +kernel)
theorem q732 : Cond.methodLink RX0 34 yX0_moversIn ∈ kT := kT_in 732 (by decide +kernel) (by decide +kernel)
theorem q733 : Cond.static yX0_moversIn ∈ kT := kT_in 733 (by decide +kernel) (by decide +kernel)
theorem q734 : Cond.code yX0_moversIn cX0_moversIn 3 (some .int) ∈ kT := kT_in 734 (by decide +kernel) (by decide +kernel)
theorem q735 : Cond.methodLink RX0 53 yX1_everybody ∈ kT := kT_in 735 (by decide +kernel) (by decide +kernel)
theorem q736 : Cond.methodLink RX0 38 yX0_goForth ∈ kT := kT_in 736 (by decide +kernel) (by decide +kernel)
theorem q738 : Cond.instanceMethod yX0_goForth ∈ kT := kT_in 738 (by decide +kernel) (by decide +kernel)
theorem q739 : Cond.code yX0_goForth cX0_goForth 6 none ∈ kT := kT_in 739 (by decide +kernel) (by decide +kernel)
theorem q740 : Cond.methodLink RX0 59 yX1_states ∈ kT := kT_in 740 (by decide +kernel) (by decide +kernel)
theorem q741 : Cond.instanceMethod yX1_states ∈ kT := kT_in 741 (by decide +kernel) (by decide +kernel)
theorem q742 : Cond.selects RX1 yX1_states yX1_states ∈ kT := kT_in 742 (by decide +kernel) (by decide +kernel)
theorem q743 : Cond.code yX1_states cX1_states 1 (some .int) ∈ kT := kT_in 743 (by decide +kernel) (by decide +kernel)
theorem q744 : Cond.methodLink RX1 68 yJ9_max_7cf53 ∈ kT := kT_in 744 (by decide +kernel) (by decide +kernel)
theorem q745 : Cond.methodLink RX0 62 yX6_has ∈ kT := kT_in 745 (by decide +kernel) (by decide +kernel)
theorem q746 : Cond.instanceMethod yX6_has ∈ kT := kT_in 746 (by decide +kernel) (by decide +kernel)
theorem q747 : Cond.selects RX6 yX6_has yX6_has ∈ kT := kT_in 747 (by decide +kernel) (by decide +kernel)
theorem q748 : Cond.code yX6_has cX6_has 3 (some .boolean) ∈ kT := kT_in 748 (by decide +kernel) (by decide +kernel)
theorem q749 : Cond.methodLink RX0 66 yX0_addNext ∈ kT := kT_in 749 (by decide +kernel) (by decide +kernel)
theorem q751 : Cond.instanceMethod yX0_addNext ∈ kT := kT_in 751 (by decide +kernel) (by decide +kernel)
theorem q752 : Cond.code yX0_addNext cX0_addNext 7 none ∈ kT := kT_in 752 (by decide +kernel) (by decide +kernel)
theorem q753 : Cond.methodLink RX0 70 yX1_onward ∈ kT := kT_in 753 (by decide +kernel) (by decide +kernel)
theorem q754 : Cond.methodLink RX0 74 yX1_persons ∈ kT := kT_in 754 (by decide +kernel) (by decide +kernel)
theorem q755 : Cond.methodLink RX0 77 yX1_canFeed ∈ kT := kT_in 755 (by decide +kernel) (by decide +kernel)
theorem q756 : Cond.methodLinkNest RX0 81 yX10_fedState RX10 ∈ kT := kT_in 756 (by decide +kernel) (by decide +kernel)
theorem q757 : Cond.methodLink RX0 42 yX0_leaveThoseAt ∈ kT := kT_in 757 (by decide +kernel) (by decide +kernel)
theorem q759 : Cond.instanceMethod yX0_leaveThoseAt ∈ kT := kT_in 759 (by decide +kernel) (by decide +kernel)
theorem q760 : Cond.code yX0_leaveThoseAt cX0_leaveThoseAt 5 none ∈ kT := kT_in 760 (by decide +kernel) (by decide +kernel)
theorem q761 : Cond.methodLinkNest RX0 84 yX10_yardOf RX10 ∈ kT := kT_in 761 (by decide +kernel) (by decide +kernel)
theorem q762 : Cond.methodLink RX0 88 yX6_remove ∈ kT := kT_in 762 (by decide +kernel) (by decide +kernel)
theorem q763 : Cond.instanceMethod yX6_remove ∈ kT := kT_in 763 (by decide +kernel) (by decide +kernel)
theorem q764 : Cond.selects RX6 yX6_remove yX6_remove ∈ kT := kT_in 764 (by decide +kernel) (by decide +kernel)
theorem q765 : Cond.code yX6_remove cX6_remove 3 none ∈ kT := kT_in 765 (by decide +kernel) (by decide +kernel)
theorem q766 : Cond.methodLink RX0 46 yX0_goBack ∈ kT := kT_in 766 (by decide +kernel) (by decide +kernel)
theorem q768 : Cond.instanceMethod yX0_goBack ∈ kT := kT_in 768 (by decide +kernel) (by decide +kernel)
theorem q769 : Cond.code yX0_goBack cX0_goBack 8 none ∈ kT := kT_in 769 (by decide +kernel) (by decide +kernel)
theorem q770 : Cond.methodLink RX0 49 yX0_choice ∈ kT := kT_in 770 (by decide +kernel) (by decide +kernel)
theorem q772 : Cond.instanceMethod yX0_choice ∈ kT := kT_in 772 (by decide +kernel) (by decide +kernel)
theorem q773 : Cond.code yX0_choice cX0_choice 8 (some .int) ∈ kT := kT_in 773 (by decide +kernel) (by decide +kernel)
theorem q775 : Cond.instanceMethod yX10_seen ∈ kT := kT_in 775 (by decide +kernel) (by decide +kernel)
theorem q776 : Cond.selects RX10 yX10_seen yX10_seen ∈ kT := kT_in 776 (by decide +kernel) (by decide +kernel)
theorem q777 : Cond.code yX10_seen cX10_seen 3 (some .int) ∈ kT := kT_in 777 (by decide +kernel) (by decide +kernel)
theorem q779 : Cond.instanceMethod yX10_forget ∈ kT := kT_in 779 (by decide +kernel) (by decide +kernel)
theorem q780 : Cond.selects RX10 yX10_forget yX10_forget ∈ kT := kT_in 780 (by decide +kernel) (by decide +kernel)
theorem q781 : Cond.code yX10_forget cX10_forget 1 (some .int) ∈ kT := kT_in 781 (by decide +kernel) (by decide +kernel)
theorem q783 : Cond.instanceMethod yX10_how ∈ kT := kT_in 783 (by decide +kernel) (by decide +kernel)
theorem q784 : Cond.selects RX10 yX10_how yX10_how ∈ kT := kT_in 784 (by decide +kernel) (by decide +kernel)
theorem q785 : Cond.code yX10_how cX10_how 1 (some .long) ∈ kT := kT_in 785 (by decide +kernel) (by decide +kernel)
theorem q786 : Cond.methodLink RX10 198 yX7_ways ∈ kT := kT_in 786 (by decide +kernel) (by decide +kernel)
theorem q787 : Cond.instanceMethod yX7_ways ∈ kT := kT_in 787 (by decide +kernel) (by decide +kernel)
theorem q788 : Cond.selects RX7 yX7_ways yX7_ways ∈ kT := kT_in 788 (by decide +kernel) (by decide +kernel)
theorem q789 : Cond.code yX7_ways cX7_ways 4 (some .long) ∈ kT := kT_in 789 (by decide +kernel) (by decide +kernel)
theorem q790 : Cond.methodLink RX7 48 yX1_firstState ∈ kT := kT_in 790 (by decide +kernel) (by decide +kernel)
theorem q791 : Cond.methodLink RX7 54 yX2_sum ∈ kT := kT_in 791 (by decide +kernel) (by decide +kernel)
theorem q792 : Cond.instanceMethod yX2_sum ∈ kT := kT_in 792 (by decide +kernel) (by decide +kernel)
theorem q793 : Cond.selects RX2 yX2_sum yX2_sum ∈ kT := kT_in 793 (by decide +kernel) (by decide +kernel)
theorem q794 : Cond.code yX2_sum cX2_sum 4 (some .long) ∈ kT := kT_in 794 (by decide +kernel) (by decide +kernel)
theorem q796 : Cond.instanceMethod yX10_sure ∈ kT := kT_in 796 (by decide +kernel) (by decide +kernel)
theorem q797 : Cond.selects RX10 yX10_sure yX10_sure ∈ kT := kT_in 797 (by decide +kernel) (by decide +kernel)
theorem q798 : Cond.code yX10_sure cX10_sure 3 (some .int) ∈ kT := kT_in 798 (by decide +kernel) (by decide +kernel)
theorem q800 : Cond.instanceMethod yX10_chance ∈ kT := kT_in 800 (by decide +kernel) (by decide +kernel)
theorem q801 : Cond.selects RX10 yX10_chance yX10_chance ∈ kT := kT_in 801 (by decide +kernel) (by decide +kernel)
theorem q802 : Cond.code yX10_chance cX10_chance 10 (some .long) ∈ kT := kT_in 802 (by decide +kernel) (by decide +kernel)
theorem q803 : Cond.constantLong RX10 202 (-1) ∈ kT := kT_in 803 (by decide +kernel) (by decide +kernel)
theorem q804 : Cond.methodLink RX10 204 yX7_weight ∈ kT := kT_in 804 (by decide +kernel) (by decide +kernel)
theorem q805 : Cond.instanceMethod yX7_weight ∈ kT := kT_in 805 (by decide +kernel) (by decide +kernel)
theorem q806 : Cond.selects RX7 yX7_weight yX7_weight ∈ kT := kT_in 806 (by decide +kernel) (by decide +kernel)
theorem q807 : Cond.code yX7_weight cX7_weight 6 (some .long) ∈ kT := kT_in 807 (by decide +kernel) (by decide +kernel)
theorem q808 : Cond.constantLong RX10 208 (120) ∈ kT := kT_in 808 (by decide +kernel) (by decide +kernel)
theorem q809 : Cond.methodLink RX10 210 yX10_commonDivisor ∈ kT := kT_in 809 (by decide +kernel) (by decide +kernel)
theorem q810 : Cond.static yX10_commonDivisor ∈ kT := kT_in 810 (by decide +kernel) (by decide +kernel)
theorem q811 : Cond.code yX10_commonDivisor cX10_commonDivisor 11 (some .long) ∈ kT := kT_in 811 (by decide +kernel) (by decide +kernel)
theorem q813 : Cond.instanceMethod yX10_year ∈ kT := kT_in 813 (by decide +kernel) (by decide +kernel)
theorem q814 : Cond.selects RX10 yX10_year yX10_year ∈ kT := kT_in 814 (by decide +kernel) (by decide +kernel)
theorem q815 : Cond.code yX10_year cX10_year 8 (some .int) ∈ kT := kT_in 815 (by decide +kernel) (by decide +kernel)
theorem q816 : Cond.methodLink RX10 214 yX1_firstState ∈ kT := kT_in 816 (by decide +kernel) (by decide +kernel)
theorem q817 : Cond.methodLink RX10 217 yX10_drawnFeeder ∈ kT := kT_in 817 (by decide +kernel) (by decide +kernel)
theorem q818 : Cond.static yX10_drawnFeeder ∈ kT := kT_in 818 (by decide +kernel) (by decide +kernel)
theorem q819 : Cond.code yX10_drawnFeeder cX10_drawnFeeder 7 (some .int) ∈ kT := kT_in 819 (by decide +kernel) (by decide +kernel)
theorem q820 : Cond.constantLong RX10 230 (7919) ∈ kT := kT_in 820 (by decide +kernel) (by decide +kernel)
theorem q821 : Cond.constantLong RX10 232 (6151) ∈ kT := kT_in 821 (by decide +kernel) (by decide +kernel)
theorem q822 : Cond.constantLong RX10 234 (65521) ∈ kT := kT_in 822 (by decide +kernel) (by decide +kernel)
theorem q823 : Cond.constantLong RX10 236 (8) ∈ kT := kT_in 823 (by decide +kernel) (by decide +kernel)
theorem q824 : Cond.constantLong RX10 238 (2) ∈ kT := kT_in 824 (by decide +kernel) (by decide +kernel)
theorem q825 : Cond.methodLink RX10 220 yX1_onward ∈ kT := kT_in 825 (by decide +kernel) (by decide +kernel)
theorem q827 : Cond.instanceMethod yX10_keep ∈ kT := kT_in 827 (by decide +kernel) (by decide +kernel)
theorem q828 : Cond.selects RX10 yX10_keep yX10_keep ∈ kT := kT_in 828 (by decide +kernel) (by decide +kernel)
theorem q829 : Cond.code yX10_keep cX10_keep 1 (some .int) ∈ kT := kT_in 829 (by decide +kernel) (by decide +kernel)
theorem q831 : Cond.instanceMethod yX10_back ∈ kT := kT_in 831 (by decide +kernel) (by decide +kernel)
theorem q832 : Cond.selects RX10 yX10_back yX10_back ∈ kT := kT_in 832 (by decide +kernel) (by decide +kernel)
theorem q833 : Cond.code yX10_back cX10_back 1 (some .int) ∈ kT := kT_in 833 (by decide +kernel) (by decide +kernel)
theorem q835 : Cond.instanceMethod yX10_count ∈ kT := kT_in 835 (by decide +kernel) (by decide +kernel)
theorem q836 : Cond.selects RX10 yX10_count yX10_count ∈ kT := kT_in 836 (by decide +kernel) (by decide +kernel)
theorem q837 : Cond.code yX10_count cX10_count 2 (some .int) ∈ kT := kT_in 837 (by decide +kernel) (by decide +kernel)
theorem q838 : Cond.methodLink RX10 223 yX1_yards ∈ kT := kT_in 838 (by decide +kernel) (by decide +kernel)
theorem q839 : Cond.instanceMethod yX1_yards ∈ kT := kT_in 839 (by decide +kernel) (by decide +kernel)
theorem q840 : Cond.selects RX1 yX1_yards yX1_yards ∈ kT := kT_in 840 (by decide +kernel) (by decide +kernel)
theorem q841 : Cond.code yX1_yards cX1_yards 1 (some .int) ∈ kT := kT_in 841 (by decide +kernel) (by decide +kernel)
theorem q842 : Cond.methodLink RX10 226 yX9_size ∈ kT := kT_in 842 (by decide +kernel) (by decide +kernel)
theorem q849 : Cond.methodLink RX11 61 yX11_link ∈ kT := kT_in 849 (by decide +kernel) (by decide +kernel)
theorem q851 : Cond.instanceMethod yX11_link ∈ kT := kT_in 851 (by decide +kernel) (by decide +kernel)
theorem q852 : Cond.code yX11_link cX11_link 4 none ∈ kT := kT_in 852 (by decide +kernel) (by decide +kernel)
theorem q853 : Cond.methodLink RX11 65 yX11_begin ∈ kT := kT_in 853 (by decide +kernel) (by decide +kernel)
theorem q855 : Cond.instanceMethod yX11_begin ∈ kT := kT_in 855 (by decide +kernel) (by decide +kernel)
theorem q856 : Cond.code yX11_begin cX11_begin 5 none ∈ kT := kT_in 856 (by decide +kernel) (by decide +kernel)
theorem q857 : Cond.constant RX11 109 (999999) ∈ kT := kT_in 857 (by decide +kernel) (by decide +kernel)
theorem q858 : Cond.fieldLink RX11 7 RX11 "laid" "[I" ∈ kT := kT_in 858 (by decide +kernel) (by decide +kernel)
theorem q859 : Cond.fieldLink RX11 13 RX11 "dist" "[I" ∈ kT := kT_in 859 (by decide +kernel) (by decide +kernel)
theorem q860 : Cond.fieldLink RX11 16 RX11 "text" "[B" ∈ kT := kT_in 860 (by decide +kernel) (by decide +kernel)
theorem q861 : Cond.fieldLink RX11 72 RX11 "typed" "I" ∈ kT := kT_in 861 (by decide +kernel) (by decide +kernel)
theorem q862 : Cond.fieldLink RX11 78 RX11 "at" "I" ∈ kT := kT_in 862 (by decide +kernel) (by decide +kernel)
theorem q863 : Cond.fieldLink RX11 85 RX11 "isWrong" "Z" ∈ kT := kT_in 863 (by decide +kernel) (by decide +kernel)
theorem q864 : Cond.fieldLink RX11 93 RX11 "hasLane" "Z" ∈ kT := kT_in 864 (by decide +kernel) (by decide +kernel)
theorem q865 : Cond.fieldLink RX11 20 RX11 "now" "[I" ∈ kT := kT_in 865 (by decide +kernel) (by decide +kernel)
theorem q866 : Cond.fieldLink RX11 23 RX11 "before" "[I" ∈ kT := kT_in 866 (by decide +kernel) (by decide +kernel)
theorem q867 : Cond.fieldLink RX11 110 RX11 "deeds" "I" ∈ kT := kT_in 867 (by decide +kernel) (by decide +kernel)
theorem q868 : Cond.fieldLink RX11 26 RX11 "keeps" "[I" ∈ kT := kT_in 868 (by decide +kernel) (by decide +kernel)
theorem q869 : Cond.fieldLink RX11 113 RX11 "kept" "I" ∈ kT := kT_in 869 (by decide +kernel) (by decide +kernel)
theorem q870 : Cond.fieldLink RX11 29 RX11 "goalYard" "[I" ∈ kT := kT_in 870 (by decide +kernel) (by decide +kernel)
theorem q871 : Cond.fieldLink RX11 32 RX11 "goalAt" "[I" ∈ kT := kT_in 871 (by decide +kernel) (by decide +kernel)
theorem q872 : Cond.fieldLink RX11 116 RX11 "goals" "I" ∈ kT := kT_in 872 (by decide +kernel) (by decide +kernel)
theorem q873 : Cond.fieldLink RX11 35 RX11 "cost" "[I" ∈ kT := kT_in 873 (by decide +kernel) (by decide +kernel)
theorem q874 : Cond.fieldLink RX11 38 RX11 "then" "[I" ∈ kT := kT_in 874 (by decide +kernel) (by decide +kernel)
theorem q875 : Cond.fieldLink RX11 41 RX11 "isWon" "[Z" ∈ kT := kT_in 875 (by decide +kernel) (by decide +kernel)
theorem q876 : Cond.fieldLink RX11 45 RX11 "wonThen" "[Z" ∈ kT := kT_in 876 (by decide +kernel) (by decide +kernel)
theorem q877 : Cond.fieldLink RX11 48 RX11 "seenYard" "[I" ∈ kT := kT_in 877 (by decide +kernel) (by decide +kernel)
theorem q878 : Cond.fieldLink RX11 51 RX11 "seenAt" "[I" ∈ kT := kT_in 878 (by decide +kernel) (by decide +kernel)
theorem q879 : Cond.fieldLink RX11 119 RX11 "sights" "I" ∈ kT := kT_in 879 (by decide +kernel) (by decide +kernel)
theorem q880 : Cond.fieldLink RX11 54 RX11 "ways" "[J" ∈ kT := kT_in 880 (by decide +kernel) (by decide +kernel)
theorem q881 : Cond.fieldLink RX11 58 RX11 "waysThen" "[J" ∈ kT := kT_in 881 (by decide +kernel) (by decide +kernel)
theorem q882 : Cond.laysFinal RX11 RX11 "laid" "[I" ∈ kT := kT_in 882 (by decide +kernel) (by decide +kernel)
theorem q884 : Cond.laysFinal RX11 RX11 "dist" "[I" ∈ kT := kT_in 884 (by decide +kernel) (by decide +kernel)
theorem q886 : Cond.laysFinal RX11 RX11 "text" "[B" ∈ kT := kT_in 886 (by decide +kernel) (by decide +kernel)
theorem q888 : Cond.lays RX11 RX11 "typed" "I" ∈ kT := kT_in 888 (by decide +kernel) (by decide +kernel)
theorem q890 : Cond.lays RX11 RX11 "at" "I" ∈ kT := kT_in 890 (by decide +kernel) (by decide +kernel)
theorem q892 : Cond.lays RX11 RX11 "isWrong" "Z" ∈ kT := kT_in 892 (by decide +kernel) (by decide +kernel)
theorem q894 : Cond.lays RX11 RX11 "hasLane" "Z" ∈ kT := kT_in 894 (by decide +kernel) (by decide +kernel)
theorem q896 : Cond.laysFinal RX11 RX11 "now" "[I" ∈ kT := kT_in 896 (by decide +kernel) (by decide +kernel)
theorem q898 : Cond.laysFinal RX11 RX11 "before" "[I" ∈ kT := kT_in 898 (by decide +kernel) (by decide +kernel)
theorem q900 : Cond.lays RX11 RX11 "deeds" "I" ∈ kT := kT_in 900 (by decide +kernel) (by decide +kernel)
theorem q902 : Cond.laysFinal RX11 RX11 "keeps" "[I" ∈ kT := kT_in 902 (by decide +kernel) (by decide +kernel)
theorem q904 : Cond.lays RX11 RX11 "kept" "I" ∈ kT := kT_in 904 (by decide +kernel) (by decide +kernel)
theorem q906 : Cond.laysFinal RX11 RX11 "goalYard" "[I" ∈ kT := kT_in 906 (by decide +kernel) (by decide +kernel)
theorem q908 : Cond.laysFinal RX11 RX11 "goalAt" "[I" ∈ kT := kT_in 908 (by decide +kernel) (by decide +kernel)
theorem q910 : Cond.lays RX11 RX11 "goals" "I" ∈ kT := kT_in 910 (by decide +kernel) (by decide +kernel)
theorem q912 : Cond.laysFinal RX11 RX11 "cost" "[I" ∈ kT := kT_in 912 (by decide +kernel) (by decide +kernel)
theorem q914 : Cond.laysFinal RX11 RX11 "then" "[I" ∈ kT := kT_in 914 (by decide +kernel) (by decide +kernel)
theorem q916 : Cond.laysFinal RX11 RX11 "isWon" "[Z" ∈ kT := kT_in 916 (by decide +kernel) (by decide +kernel)
theorem q918 : Cond.laysFinal RX11 RX11 "wonThen" "[Z" ∈ kT := kT_in 918 (by decide +kernel) (by decide +kernel)
theorem q920 : Cond.laysFinal RX11 RX11 "seenYard" "[I" ∈ kT := kT_in 920 (by decide +kernel) (by decide +kernel)
theorem q922 : Cond.laysFinal RX11 RX11 "seenAt" "[I" ∈ kT := kT_in 922 (by decide +kernel) (by decide +kernel)
theorem q924 : Cond.lays RX11 RX11 "sights" "I" ∈ kT := kT_in 924 (by decide +kernel) (by decide +kernel)
theorem q926 : Cond.laysFinal RX11 RX11 "ways" "[J" ∈ kT := kT_in 926 (by decide +kernel) (by decide +kernel)
theorem q928 : Cond.laysFinal RX11 RX11 "waysThen" "[J" ∈ kT := kT_in 928 (by decide +kernel) (by decide +kernel)
theorem q933 : Cond.instanceMethod yX11_write ∈ kT := kT_in 933 (by decide +kernel) (by decide +kernel)
theorem q934 : Cond.selects RX11 yX11_write yX11_write ∈ kT := kT_in 934 (by decide +kernel) (by decide +kernel)
theorem q935 : Cond.code yX11_write cX11_write 5 (some .int) ∈ kT := kT_in 935 (by decide +kernel) (by decide +kernel)
theorem q936 : Cond.methodLink RX11 68 yX11_in ∈ kT := kT_in 936 (by decide +kernel) (by decide +kernel)
theorem q937 : Cond.static yX11_in ∈ kT := kT_in 937 (by decide +kernel) (by decide +kernel)
theorem q938 : Cond.code yX11_in cX11_in 3 (some .boolean) ∈ kT := kT_in 938 (by decide +kernel) (by decide +kernel)
theorem q939 : Cond.constantLong RX11 76 (255) ∈ kT := kT_in 939 (by decide +kernel) (by decide +kernel)
theorem q941 : Cond.instanceMethod yX11_wipe ∈ kT := kT_in 941 (by decide +kernel) (by decide +kernel)
theorem q942 : Cond.selects RX11 yX11_wipe yX11_wipe ∈ kT := kT_in 942 (by decide +kernel) (by decide +kernel)
theorem q943 : Cond.code yX11_wipe cX11_wipe 2 (some .int) ∈ kT := kT_in 943 (by decide +kernel) (by decide +kernel)
theorem q945 : Cond.instanceMethod yX11_fault ∈ kT := kT_in 945 (by decide +kernel) (by decide +kernel)
theorem q946 : Cond.selects RX11 yX11_fault yX11_fault ∈ kT := kT_in 946 (by decide +kernel) (by decide +kernel)
theorem q947 : Cond.code yX11_fault cX11_fault 1 (some .int) ∈ kT := kT_in 947 (by decide +kernel) (by decide +kernel)
theorem q948 : Cond.methodLink RX11 106 yX11_findFault ∈ kT := kT_in 948 (by decide +kernel) (by decide +kernel)
theorem q950 : Cond.instanceMethod yX11_findFault ∈ kT := kT_in 950 (by decide +kernel) (by decide +kernel)
theorem q951 : Cond.code yX11_findFault cX11_findFault 2 (some .int) ∈ kT := kT_in 951 (by decide +kernel) (by decide +kernel)
theorem q952 : Cond.methodLink RX11 103 yX11_readItem ∈ kT := kT_in 952 (by decide +kernel) (by decide +kernel)
theorem q954 : Cond.instanceMethod yX11_readItem ∈ kT := kT_in 954 (by decide +kernel) (by decide +kernel)
theorem q955 : Cond.code yX11_readItem cX11_readItem 7 none ∈ kT := kT_in 955 (by decide +kernel) (by decide +kernel)
theorem q956 : Cond.methodLink RX11 81 yX11_here ∈ kT := kT_in 956 (by decide +kernel) (by decide +kernel)
theorem q958 : Cond.instanceMethod yX11_here ∈ kT := kT_in 958 (by decide +kernel) (by decide +kernel)
theorem q959 : Cond.code yX11_here cX11_here 1 (some .int) ∈ kT := kT_in 959 (by decide +kernel) (by decide +kernel)
theorem q960 : Cond.methodLink RX11 89 yX11_number ∈ kT := kT_in 960 (by decide +kernel) (by decide +kernel)
theorem q962 : Cond.instanceMethod yX11_number ∈ kT := kT_in 962 (by decide +kernel) (by decide +kernel)
theorem q963 : Cond.code yX11_number cX11_number 5 (some .int) ∈ kT := kT_in 963 (by decide +kernel) (by decide +kernel)
theorem q964 : Cond.methodLink RX11 96 yX11_due ∈ kT := kT_in 964 (by decide +kernel) (by decide +kernel)
theorem q966 : Cond.instanceMethod yX11_due ∈ kT := kT_in 966 (by decide +kernel) (by decide +kernel)
theorem q967 : Cond.code yX11_due cX11_due 2 none ∈ kT := kT_in 967 (by decide +kernel) (by decide +kernel)
theorem q968 : Cond.methodLink RX11 100 yX11_readWay ∈ kT := kT_in 968 (by decide +kernel) (by decide +kernel)
theorem q970 : Cond.instanceMethod yX11_readWay ∈ kT := kT_in 970 (by decide +kernel) (by decide +kernel)
theorem q971 : Cond.code yX11_readWay cX11_readWay 3 none ∈ kT := kT_in 971 (by decide +kernel) (by decide +kernel)
theorem q973 : Cond.instanceMethod yX11_lay ∈ kT := kT_in 973 (by decide +kernel) (by decide +kernel)
theorem q974 : Cond.selects RX11 yX11_lay yX11_lay ∈ kT := kT_in 974 (by decide +kernel) (by decide +kernel)
theorem q975 : Cond.code yX11_lay cX11_lay 4 (some .int) ∈ kT := kT_in 975 (by decide +kernel) (by decide +kernel)
theorem q977 : Cond.instanceMethod yX11_far ∈ kT := kT_in 977 (by decide +kernel) (by decide +kernel)
theorem q978 : Cond.selects RX11 yX11_far yX11_far ∈ kT := kT_in 978 (by decide +kernel) (by decide +kernel)
theorem q979 : Cond.code yX11_far cX11_far 3 (some .int) ∈ kT := kT_in 979 (by decide +kernel) (by decide +kernel)
theorem q980 : Cond.methodLink RX11 122 yX11_isYard ∈ kT := kT_in 980 (by decide +kernel) (by decide +kernel)
theorem q982 : Cond.instanceMethod yX11_isYard ∈ kT := kT_in 982 (by decide +kernel) (by decide +kernel)
theorem q983 : Cond.code yX11_isYard cX11_isYard 2 (some .boolean) ∈ kT := kT_in 983 (by decide +kernel) (by decide +kernel)
theorem q985 : Cond.instanceMethod yX11_person ∈ kT := kT_in 985 (by decide +kernel) (by decide +kernel)
theorem q986 : Cond.selects RX11 yX11_person yX11_person ∈ kT := kT_in 986 (by decide +kernel) (by decide +kernel)
theorem q987 : Cond.code yX11_person cX11_person 3 (some .int) ∈ kT := kT_in 987 (by decide +kernel) (by decide +kernel)
theorem q988 : Cond.methodLink RX11 126 yX11_isPerson ∈ kT := kT_in 988 (by decide +kernel) (by decide +kernel)
theorem q990 : Cond.instanceMethod yX11_isPerson ∈ kT := kT_in 990 (by decide +kernel) (by decide +kernel)
theorem q991 : Cond.code yX11_isPerson cX11_isPerson 2 (some .boolean) ∈ kT := kT_in 991 (by decide +kernel) (by decide +kernel)
theorem q992 : Cond.methodLink RX11 129 yX11_placeOf ∈ kT := kT_in 992 (by decide +kernel) (by decide +kernel)
theorem q994 : Cond.instanceMethod yX11_placeOf ∈ kT := kT_in 994 (by decide +kernel) (by decide +kernel)
theorem q995 : Cond.code yX11_placeOf cX11_placeOf 3 (some .int) ∈ kT := kT_in 995 (by decide +kernel) (by decide +kernel)
theorem q997 : Cond.instanceMethod yX11_feed ∈ kT := kT_in 997 (by decide +kernel) (by decide +kernel)
theorem q998 : Cond.selects RX11 yX11_feed yX11_feed ∈ kT := kT_in 998 (by decide +kernel) (by decide +kernel)
theorem q999 : Cond.code yX11_feed cX11_feed 2 (some .int) ∈ kT := kT_in 999 (by decide +kernel) (by decide +kernel)
theorem q1000 : Cond.methodLink RX11 139 yX11_mayFeed ∈ kT := kT_in 1000 (by decide +kernel) (by decide +kernel)
theorem q1002 : Cond.instanceMethod yX11_mayFeed ∈ kT := kT_in 1002 (by decide +kernel) (by decide +kernel)
theorem q1003 : Cond.code yX11_mayFeed cX11_mayFeed 4 (some .boolean) ∈ kT := kT_in 1003 (by decide +kernel) (by decide +kernel)
theorem q1004 : Cond.methodLink RX11 132 yX11_yardOf ∈ kT := kT_in 1004 (by decide +kernel) (by decide +kernel)
theorem q1005 : Cond.static yX11_yardOf ∈ kT := kT_in 1005 (by decide +kernel) (by decide +kernel)
theorem q1006 : Cond.code yX11_yardOf cX11_yardOf 1 (some .int) ∈ kT := kT_in 1006 (by decide +kernel) (by decide +kernel)
theorem q1007 : Cond.methodLink RX11 142 yX11_know ∈ kT := kT_in 1007 (by decide +kernel) (by decide +kernel)
theorem q1009 : Cond.instanceMethod yX11_know ∈ kT := kT_in 1009 (by decide +kernel) (by decide +kernel)
theorem q1010 : Cond.code yX11_know cX11_know 2 none ∈ kT := kT_in 1010 (by decide +kernel) (by decide +kernel)
theorem q1011 : Cond.methodLink RX11 145 yX11_fedBy ∈ kT := kT_in 1011 (by decide +kernel) (by decide +kernel)
theorem q1013 : Cond.instanceMethod yX11_fedBy ∈ kT := kT_in 1013 (by decide +kernel) (by decide +kernel)
theorem q1014 : Cond.code yX11_fedBy cX11_fedBy 3 (some .int) ∈ kT := kT_in 1014 (by decide +kernel) (by decide +kernel)
theorem q1016 : Cond.instanceMethod yX11_pass ∈ kT := kT_in 1016 (by decide +kernel) (by decide +kernel)
theorem q1017 : Cond.selects RX11 yX11_pass yX11_pass ∈ kT := kT_in 1017 (by decide +kernel) (by decide +kernel)
theorem q1018 : Cond.code yX11_pass cX11_pass 2 (some .int) ∈ kT := kT_in 1018 (by decide +kernel) (by decide +kernel)
theorem q1019 : Cond.methodLink RX11 151 yX11_gone ∈ kT := kT_in 1019 (by decide +kernel) (by decide +kernel)
theorem q1021 : Cond.instanceMethod yX11_gone ∈ kT := kT_in 1021 (by decide +kernel) (by decide +kernel)
theorem q1022 : Cond.code yX11_gone cX11_gone 6 (some .int) ∈ kT := kT_in 1022 (by decide +kernel) (by decide +kernel)
theorem q1023 : Cond.methodLink RX11 148 yX11_after ∈ kT := kT_in 1023 (by decide +kernel) (by decide +kernel)
theorem q1025 : Cond.instanceMethod yX11_after ∈ kT := kT_in 1025 (by decide +kernel) (by decide +kernel)
theorem q1026 : Cond.code yX11_after cX11_after 9 (some .int) ∈ kT := kT_in 1026 (by decide +kernel) (by decide +kernel)
theorem q1027 : Cond.methodLink RX11 136 yX11_whomOf ∈ kT := kT_in 1027 (by decide +kernel) (by decide +kernel)
theorem q1028 : Cond.static yX11_whomOf ∈ kT := kT_in 1028 (by decide +kernel) (by decide +kernel)
theorem q1029 : Cond.code yX11_whomOf cX11_whomOf 1 (some .int) ∈ kT := kT_in 1029 (by decide +kernel) (by decide +kernel)
theorem q1031 : Cond.instanceMethod yX11_undo ∈ kT := kT_in 1031 (by decide +kernel) (by decide +kernel)
theorem q1032 : Cond.selects RX11 yX11_undo yX11_undo ∈ kT := kT_in 1032 (by decide +kernel) (by decide +kernel)
theorem q1033 : Cond.code yX11_undo cX11_undo 2 (some .int) ∈ kT := kT_in 1033 (by decide +kernel) (by decide +kernel)
theorem q1035 : Cond.instanceMethod yX11_calf ∈ kT := kT_in 1035 (by decide +kernel) (by decide +kernel)
theorem q1036 : Cond.selects RX11 yX11_calf yX11_calf ∈ kT := kT_in 1036 (by decide +kernel) (by decide +kernel)
theorem q1037 : Cond.code yX11_calf cX11_calf 4 (some .int) ∈ kT := kT_in 1037 (by decide +kernel) (by decide +kernel)
theorem q1039 : Cond.instanceMethod yX11_goal ∈ kT := kT_in 1039 (by decide +kernel) (by decide +kernel)
theorem q1040 : Cond.selects RX11 yX11_goal yX11_goal ∈ kT := kT_in 1040 (by decide +kernel) (by decide +kernel)
theorem q1041 : Cond.code yX11_goal cX11_goal 3 (some .int) ∈ kT := kT_in 1041 (by decide +kernel) (by decide +kernel)
theorem q1043 : Cond.instanceMethod yX11_noGoals ∈ kT := kT_in 1043 (by decide +kernel) (by decide +kernel)
theorem q1044 : Cond.selects RX11 yX11_noGoals yX11_noGoals ∈ kT := kT_in 1044 (by decide +kernel) (by decide +kernel)
theorem q1045 : Cond.code yX11_noGoals cX11_noGoals 2 (some .int) ∈ kT := kT_in 1045 (by decide +kernel) (by decide +kernel)
theorem q1047 : Cond.instanceMethod yX11_price ∈ kT := kT_in 1047 (by decide +kernel) (by decide +kernel)
theorem q1048 : Cond.selects RX11 yX11_price yX11_price ∈ kT := kT_in 1048 (by decide +kernel) (by decide +kernel)
theorem q1049 : Cond.code yX11_price cX11_price 2 (some .int) ∈ kT := kT_in 1049 (by decide +kernel) (by decide +kernel)
theorem q1050 : Cond.methodLink RX11 171 yX11_lastGoal ∈ kT := kT_in 1050 (by decide +kernel) (by decide +kernel)
theorem q1052 : Cond.instanceMethod yX11_lastGoal ∈ kT := kT_in 1052 (by decide +kernel) (by decide +kernel)
theorem q1053 : Cond.code yX11_lastGoal cX11_lastGoal 3 (some .int) ∈ kT := kT_in 1053 (by decide +kernel) (by decide +kernel)
theorem q1054 : Cond.methodLink RX11 155 yX11_isUpTo ∈ kT := kT_in 1054 (by decide +kernel) (by decide +kernel)
theorem q1056 : Cond.instanceMethod yX11_isUpTo ∈ kT := kT_in 1056 (by decide +kernel) (by decide +kernel)
theorem q1057 : Cond.code yX11_isUpTo cX11_isUpTo 3 (some .boolean) ∈ kT := kT_in 1057 (by decide +kernel) (by decide +kernel)
theorem q1058 : Cond.methodLink RX11 174 yX11_priceTo ∈ kT := kT_in 1058 (by decide +kernel) (by decide +kernel)
theorem q1060 : Cond.instanceMethod yX11_priceTo ∈ kT := kT_in 1060 (by decide +kernel) (by decide +kernel)
theorem q1061 : Cond.code yX11_priceTo cX11_priceTo 5 (some .int) ∈ kT := kT_in 1061 (by decide +kernel) (by decide +kernel)
theorem q1062 : Cond.methodLink RX11 162 yX11_isState ∈ kT := kT_in 1062 (by decide +kernel) (by decide +kernel)
theorem q1064 : Cond.instanceMethod yX11_isState ∈ kT := kT_in 1064 (by decide +kernel) (by decide +kernel)
theorem q1065 : Cond.code yX11_isState cX11_isState 4 (some .boolean) ∈ kT := kT_in 1065 (by decide +kernel) (by decide +kernel)
theorem q1066 : Cond.methodLink RX11 165 yX11_fits ∈ kT := kT_in 1066 (by decide +kernel) (by decide +kernel)
theorem q1068 : Cond.instanceMethod yX11_fits ∈ kT := kT_in 1068 (by decide +kernel) (by decide +kernel)
theorem q1069 : Cond.code yX11_fits cX11_fits 6 (some .boolean) ∈ kT := kT_in 1069 (by decide +kernel) (by decide +kernel)
theorem q1070 : Cond.methodLink RX11 168 yX11_leastOf ∈ kT := kT_in 1070 (by decide +kernel) (by decide +kernel)
theorem q1072 : Cond.instanceMethod yX11_leastOf ∈ kT := kT_in 1072 (by decide +kernel) (by decide +kernel)
theorem q1073 : Cond.code yX11_leastOf cX11_leastOf 6 (some .int) ∈ kT := kT_in 1073 (by decide +kernel) (by decide +kernel)
theorem q1074 : Cond.methodLink RX11 159 yX11_costBy ∈ kT := kT_in 1074 (by decide +kernel) (by decide +kernel)
theorem q1076 : Cond.instanceMethod yX11_costBy ∈ kT := kT_in 1076 (by decide +kernel) (by decide +kernel)
theorem q1077 : Cond.code yX11_costBy cX11_costBy 6 (some .int) ∈ kT := kT_in 1077 (by decide +kernel) (by decide +kernel)
theorem q1079 : Cond.instanceMethod yX11_first ∈ kT := kT_in 1079 (by decide +kernel) (by decide +kernel)
theorem q1080 : Cond.selects RX11 yX11_first yX11_first ∈ kT := kT_in 1080 (by decide +kernel) (by decide +kernel)
theorem q1081 : Cond.code yX11_first cX11_first 4 (some .int) ∈ kT := kT_in 1081 (by decide +kernel) (by decide +kernel)
theorem q1083 : Cond.instanceMethod yX11_bars ∈ kT := kT_in 1083 (by decide +kernel) (by decide +kernel)
theorem q1084 : Cond.selects RX11 yX11_bars yX11_bars ∈ kT := kT_in 1084 (by decide +kernel) (by decide +kernel)
theorem q1085 : Cond.code yX11_bars cX11_bars 3 (some .int) ∈ kT := kT_in 1085 (by decide +kernel) (by decide +kernel)
theorem q1087 : Cond.instanceMethod yX11_game ∈ kT := kT_in 1087 (by decide +kernel) (by decide +kernel)
theorem q1088 : Cond.selects RX11 yX11_game yX11_game ∈ kT := kT_in 1088 (by decide +kernel) (by decide +kernel)
theorem q1089 : Cond.code yX11_game cX11_game 7 (some .int) ∈ kT := kT_in 1089 (by decide +kernel) (by decide +kernel)
theorem q1090 : Cond.methodLink RX11 180 yX11_canWin ∈ kT := kT_in 1090 (by decide +kernel) (by decide +kernel)
theorem q1092 : Cond.instanceMethod yX11_canWin ∈ kT := kT_in 1092 (by decide +kernel) (by decide +kernel)
theorem q1093 : Cond.code yX11_canWin cX11_canWin 7 (some .boolean) ∈ kT := kT_in 1093 (by decide +kernel) (by decide +kernel)
theorem q1094 : Cond.methodLink RX11 177 yX11_isWonBy ∈ kT := kT_in 1094 (by decide +kernel) (by decide +kernel)
theorem q1096 : Cond.instanceMethod yX11_isWonBy ∈ kT := kT_in 1096 (by decide +kernel) (by decide +kernel)
theorem q1097 : Cond.code yX11_isWonBy cX11_isWonBy 4 (some .boolean) ∈ kT := kT_in 1097 (by decide +kernel) (by decide +kernel)
theorem q1099 : Cond.instanceMethod yX11_seen ∈ kT := kT_in 1099 (by decide +kernel) (by decide +kernel)
theorem q1100 : Cond.selects RX11 yX11_seen yX11_seen ∈ kT := kT_in 1100 (by decide +kernel) (by decide +kernel)
theorem q1101 : Cond.code yX11_seen cX11_seen 3 (some .int) ∈ kT := kT_in 1101 (by decide +kernel) (by decide +kernel)
theorem q1103 : Cond.instanceMethod yX11_forget ∈ kT := kT_in 1103 (by decide +kernel) (by decide +kernel)
theorem q1104 : Cond.selects RX11 yX11_forget yX11_forget ∈ kT := kT_in 1104 (by decide +kernel) (by decide +kernel)
theorem q1105 : Cond.code yX11_forget cX11_forget 2 (some .int) ∈ kT := kT_in 1105 (by decide +kernel) (by decide +kernel)
theorem q1107 : Cond.instanceMethod yX11_how ∈ kT := kT_in 1107 (by decide +kernel) (by decide +kernel)
theorem q1108 : Cond.selects RX11 yX11_how yX11_how ∈ kT := kT_in 1108 (by decide +kernel) (by decide +kernel)
theorem q1109 : Cond.code yX11_how cX11_how 1 (some .long) ∈ kT := kT_in 1109 (by decide +kernel) (by decide +kernel)
theorem q1110 : Cond.methodLink RX11 193 yX11_howBut ∈ kT := kT_in 1110 (by decide +kernel) (by decide +kernel)
theorem q1112 : Cond.instanceMethod yX11_howBut ∈ kT := kT_in 1112 (by decide +kernel) (by decide +kernel)
theorem q1113 : Cond.code yX11_howBut cX11_howBut 6 (some .long) ∈ kT := kT_in 1113 (by decide +kernel) (by decide +kernel)
theorem q1114 : Cond.methodLink RX11 183 yX11_startWays ∈ kT := kT_in 1114 (by decide +kernel) (by decide +kernel)
theorem q1116 : Cond.instanceMethod yX11_startWays ∈ kT := kT_in 1116 (by decide +kernel) (by decide +kernel)
theorem q1117 : Cond.code yX11_startWays cX11_startWays 3 none ∈ kT := kT_in 1117 (by decide +kernel) (by decide +kernel)
theorem q1118 : Cond.methodLink RX11 186 yX11_bar ∈ kT := kT_in 1118 (by decide +kernel) (by decide +kernel)
theorem q1120 : Cond.instanceMethod yX11_bar ∈ kT := kT_in 1120 (by decide +kernel) (by decide +kernel)
theorem q1121 : Cond.code yX11_bar cX11_bar 4 none ∈ kT := kT_in 1121 (by decide +kernel) (by decide +kernel)
theorem q1122 : Cond.methodLink RX11 189 yX11_goOn ∈ kT := kT_in 1122 (by decide +kernel) (by decide +kernel)
theorem q1124 : Cond.instanceMethod yX11_goOn ∈ kT := kT_in 1124 (by decide +kernel) (by decide +kernel)
theorem q1125 : Cond.code yX11_goOn cX11_goOn 7 none ∈ kT := kT_in 1125 (by decide +kernel) (by decide +kernel)
theorem q1127 : Cond.instanceMethod yX11_sure ∈ kT := kT_in 1127 (by decide +kernel) (by decide +kernel)
theorem q1128 : Cond.selects RX11 yX11_sure yX11_sure ∈ kT := kT_in 1128 (by decide +kernel) (by decide +kernel)
theorem q1129 : Cond.code yX11_sure cX11_sure 2 (some .int) ∈ kT := kT_in 1129 (by decide +kernel) (by decide +kernel)
theorem q1131 : Cond.instanceMethod yX11_chance ∈ kT := kT_in 1131 (by decide +kernel) (by decide +kernel)
theorem q1132 : Cond.selects RX11 yX11_chance yX11_chance ∈ kT := kT_in 1132 (by decide +kernel) (by decide +kernel)
theorem q1133 : Cond.code yX11_chance cX11_chance 14 (some .long) ∈ kT := kT_in 1133 (by decide +kernel) (by decide +kernel)
theorem q1134 : Cond.constantLong RX11 197 (-1) ∈ kT := kT_in 1134 (by decide +kernel) (by decide +kernel)
theorem q1135 : Cond.constantLong RX11 199 (120) ∈ kT := kT_in 1135 (by decide +kernel) (by decide +kernel)
theorem q1137 : Cond.instanceMethod yX11_year ∈ kT := kT_in 1137 (by decide +kernel) (by decide +kernel)
theorem q1138 : Cond.selects RX11 yX11_year yX11_year ∈ kT := kT_in 1138 (by decide +kernel) (by decide +kernel)
theorem q1139 : Cond.code yX11_year cX11_year 11 (some .int) ∈ kT := kT_in 1139 (by decide +kernel) (by decide +kernel)
theorem q1140 : Cond.constantLong RX11 201 (7919) ∈ kT := kT_in 1140 (by decide +kernel) (by decide +kernel)
theorem q1141 : Cond.constantLong RX11 203 (6151) ∈ kT := kT_in 1141 (by decide +kernel) (by decide +kernel)
theorem q1142 : Cond.constantLong RX11 205 (65521) ∈ kT := kT_in 1142 (by decide +kernel) (by decide +kernel)
theorem q1144 : Cond.instanceMethod yX11_keep ∈ kT := kT_in 1144 (by decide +kernel) (by decide +kernel)
theorem q1145 : Cond.selects RX11 yX11_keep yX11_keep ∈ kT := kT_in 1145 (by decide +kernel) (by decide +kernel)
theorem q1146 : Cond.code yX11_keep cX11_keep 2 (some .int) ∈ kT := kT_in 1146 (by decide +kernel) (by decide +kernel)
theorem q1148 : Cond.instanceMethod yX11_back ∈ kT := kT_in 1148 (by decide +kernel) (by decide +kernel)
theorem q1149 : Cond.selects RX11 yX11_back yX11_back ∈ kT := kT_in 1149 (by decide +kernel) (by decide +kernel)
theorem q1150 : Cond.code yX11_back cX11_back 2 (some .int) ∈ kT := kT_in 1150 (by decide +kernel) (by decide +kernel)
theorem q1152 : Cond.instanceMethod yX11_count ∈ kT := kT_in 1152 (by decide +kernel) (by decide +kernel)
theorem q1153 : Cond.selects RX11 yX11_count yX11_count ∈ kT := kT_in 1153 (by decide +kernel) (by decide +kernel)
theorem q1154 : Cond.code yX11_count cX11_count 2 (some .int) ∈ kT := kT_in 1154 (by decide +kernel) (by decide +kernel)
theorem iwX0 : ∀ w ∈ u_ws RX0 TX0 1, w ∈ kT := fun w h => by
  have h2 : w ∈ [u_lay RX0 TX0 0] := h
  simp only [List.mem_cons, List.not_mem_nil, or_false] at h2
  subst h2
  exact q264
theorem iwX1 : ∀ w ∈ u_ws RX1 TX1 10, w ∈ kT := fun w h => by
  have h2 : w ∈ [u_lay RX1 TX1 0, u_lay RX1 TX1 1, u_lay RX1 TX1 2, u_lay RX1 TX1 3, u_lay RX1 TX1 4, u_lay RX1 TX1 5, u_lay RX1 TX1 6, u_lay RX1 TX1 7, u_lay RX1 TX1 8, u_lay RX1 TX1 9] := h
  simp only [List.mem_cons, List.not_mem_nil, or_false] at h2
  rcases h2 with rfl | rfl | rfl | rfl | rfl | rfl | rfl | rfl | rfl | rfl
  · exact q121
  · exact q123
  · exact q125
  · exact q127
  · exact q129
  · exact q131
  · exact q133
  · exact q135
  · exact q137
  · exact q139
theorem iwX2 : ∀ w ∈ u_ws RX2 TX2 3, w ∈ kT := fun w h => by
  have h2 : w ∈ [u_lay RX2 TX2 0, u_lay RX2 TX2 1, u_lay RX2 TX2 2] := h
  simp only [List.mem_cons, List.not_mem_nil, or_false] at h2
  rcases h2 with rfl | rfl | rfl
  · exact q223
  · exact q225
  · exact q227
theorem iwX3 : ∀ w ∈ u_ws RX3 TX3 3, w ∈ kT := fun w h => by
  have h2 : w ∈ [u_lay RX3 TX3 0, u_lay RX3 TX3 1, u_lay RX3 TX3 2] := h
  simp only [List.mem_cons, List.not_mem_nil, or_false] at h2
  rcases h2 with rfl | rfl | rfl
  · exact q162
  · exact q164
  · exact q166
theorem iwX4 : ∀ w ∈ u_ws RX4 TX4 4, w ∈ kT := fun w h => by
  have h2 : w ∈ [u_lay RX4 TX4 0, u_lay RX4 TX4 1, u_lay RX4 TX4 2, u_lay RX4 TX4 3] := h
  simp only [List.mem_cons, List.not_mem_nil, or_false] at h2
  rcases h2 with rfl | rfl | rfl | rfl
  · exact q179
  · exact q181
  · exact q183
  · exact q185
theorem iwX5 : ∀ w ∈ u_ws RX5 TX5 2, w ∈ kT := fun w h => by
  have h2 : w ∈ [u_lay RX5 TX5 0, u_lay RX5 TX5 1] := h
  simp only [List.mem_cons, List.not_mem_nil, or_false] at h2
  rcases h2 with rfl | rfl
  · exact q100
  · exact q102
theorem iwX6 : ∀ w ∈ u_ws RX6 TX6 1, w ∈ kT := fun w h => by
  have h2 : w ∈ [u_lay RX6 TX6 0] := h
  simp only [List.mem_cons, List.not_mem_nil, or_false] at h2
  subst h2
  exact q260
theorem iwX7 : ∀ w ∈ u_ws RX7 TX7 5, w ∈ kT := fun w h => by
  have h2 : w ∈ [u_lay RX7 TX7 0, u_lay RX7 TX7 1, u_lay RX7 TX7 2, u_lay RX7 TX7 3, u_lay RX7 TX7 4] := h
  simp only [List.mem_cons, List.not_mem_nil, or_false] at h2
  rcases h2 with rfl | rfl | rfl | rfl | rfl
  · exact q236
  · exact q238
  · exact q240
  · exact q242
  · exact q244
theorem iwX8 : ∀ w ∈ u_ws RX8 TX8 2, w ∈ kT := fun w h => by
  have h2 : w ∈ [u_lay RX8 TX8 0, u_lay RX8 TX8 1] := h
  simp only [List.mem_cons, List.not_mem_nil, or_false] at h2
  rcases h2 with rfl | rfl
  · exact q86
  · exact q88
theorem iwX9 : ∀ w ∈ u_ws RX9 TX9 3, w ∈ kT := fun w h => by
  have h2 : w ∈ [u_lay RX9 TX9 0, u_lay RX9 TX9 1, u_lay RX9 TX9 2] := h
  simp only [List.mem_cons, List.not_mem_nil, or_false] at h2
  rcases h2 with rfl | rfl | rfl
  · exact q197
  · exact q199
  · exact q201
theorem iwX10 : ∀ w ∈ u_ws RX10 TX10 11, w ∈ kT := fun w h => by
  have h2 : w ∈ [u_lay RX10 TX10 0, u_lay RX10 TX10 1, u_lay RX10 TX10 2, u_lay RX10 TX10 3, u_lay RX10 TX10 4, u_lay RX10 TX10 5, u_lay RX10 TX10 6, u_lay RX10 TX10 7, u_lay RX10 TX10 8, u_lay RX10 TX10 9, u_lay RX10 TX10 10] := h
  simp only [List.mem_cons, List.not_mem_nil, or_false] at h2
  rcases h2 with rfl | rfl | rfl | rfl | rfl | rfl | rfl | rfl | rfl | rfl | rfl
  · exact q433
  · exact q435
  · exact q437
  · exact q439
  · exact q441
  · exact q443
  · exact q445
  · exact q447
  · exact q449
  · exact q451
  · exact q453
theorem iwX11 : ∀ w ∈ u_ws RX11 TX11 24, w ∈ kT := fun w h => by
  have h2 : w ∈ [u_lay RX11 TX11 0, u_lay RX11 TX11 1, u_lay RX11 TX11 2, u_lay RX11 TX11 3, u_lay RX11 TX11 4, u_lay RX11 TX11 5, u_lay RX11 TX11 6, u_lay RX11 TX11 7, u_lay RX11 TX11 8, u_lay RX11 TX11 9, u_lay RX11 TX11 10, u_lay RX11 TX11 11, u_lay RX11 TX11 12, u_lay RX11 TX11 13, u_lay RX11 TX11 14, u_lay RX11 TX11 15, u_lay RX11 TX11 16, u_lay RX11 TX11 17, u_lay RX11 TX11 18, u_lay RX11 TX11 19, u_lay RX11 TX11 20, u_lay RX11 TX11 21, u_lay RX11 TX11 22, u_lay RX11 TX11 23] := h
  simp only [List.mem_cons, List.not_mem_nil, or_false] at h2
  rcases h2 with rfl | rfl | rfl | rfl | rfl | rfl | rfl | rfl | rfl | rfl | rfl | rfl | rfl | rfl | rfl | rfl | rfl | rfl | rfl | rfl | rfl | rfl | rfl | rfl
  · exact q882
  · exact q884
  · exact q886
  · exact q888
  · exact q890
  · exact q892
  · exact q894
  · exact q896
  · exact q898
  · exact q900
  · exact q902
  · exact q904
  · exact q906
  · exact q908
  · exact q910
  · exact q912
  · exact q914
  · exact q916
  · exact q918
  · exact q920
  · exact q922
  · exact q924
  · exact q926
  · exact q928
end
section
def kFm (b : Nat) : Prop := b = 4 ∨ b = 10
def kMs (b : Nat) : Prop := b = 17 ∨ b = 21
def kTd (b : Nat) : Prop := b = 25 ∨ b = 28
def kFr (b : Nat) : Prop := b = 32 ∨ b = 35
def flX0 (X : KX) (ri : Nat → Int32) (rr : Nat → Nat) (k : Nat) : List Value := [.ref (X.2.1 39)]
def flX1 (X : KX) (ri : Nat → Int32) (rr : Nat → Nat) (k : Nat) : List Value := [.ref (X.2.1 (k + 1)), .ref (X.2.1 (k + 2)), .ref (X.2.1 (k + 3)), .ref (X.2.1 (k + 4)), .ref (X.2.1 (k + 5)), .int (ri 5), .int (ri 6), .int (ri 7), .int (ri 8), .int (ri 9)]
def flX2 (X : KX) (ri : Nat → Int32) (rr : Nat → Nat) (k : Nat) : List Value := [.ref (X.2.1 (k + 1)), .ref (X.2.1 (k + 2)), .int (ri 2)]
def flX3 (X : KX) (ri : Nat → Int32) (rr : Nat → Nat) (k : Nat) : List Value := [.int (ri 0), .int (ri 1), .int (ri 2)]
def flX4 (X : KX) (ri : Nat → Int32) (rr : Nat → Nat) (k : Nat) : List Value := [.ref (X.2.1 (k + 1)), .ref (X.2.1 (k + 2)), .ref (X.2.1 (k + 3)), .int (ri 3)]
def flX5 (X : KX) (ri : Nat → Int32) (rr : Nat → Nat) (k : Nat) : List Value := [.ref (X.2.1 1), .int (ri 1)]
def flX6 (X : KX) (ri : Nat → Int32) (rr : Nat → Nat) (k : Nat) : List Value := [.ref (X.2.1 40)]
def flX7 (X : KX) (ri : Nat → Int32) (rr : Nat → Nat) (k : Nat) : List Value := [.ref (X.2.1 (rr 2)), .ref (X.2.1 (rr 3)), .int (ri 2), .int (ri 3), .int (ri 4)]
def flX8 (X : KX) (ri : Nat → Int32) (rr : Nat → Nat) (k : Nat) : List Value := [.ref (X.2.1 2), .int (ri 1)]
def flX9 (X : KX) (ri : Nat → Int32) (rr : Nat → Nat) (k : Nat) : List Value := [.ref (X.2.1 (k + 1)), .ref (X.2.1 (k + 2)), .int (ri 2)]
def flX10 (X : KX) (ri : Nat → Int32) (rr : Nat → Nat) (k : Nat) : List Value := [.ref (X.2.1 1), .ref (X.2.1 3), .ref (X.2.1 (rr 0)), .ref (X.2.1 (rr 1)), .ref (X.2.1 16), .ref (X.2.1 17), .ref (X.2.1 21), .ref (X.2.1 25), .ref (X.2.1 28), .ref (X.2.1 31), .ref (X.2.1 38)]
def flX11 (X : KX) (ri : Nat → Int32) (rr : Nat → Nat) (k : Nat) : List Value := [.ref (X.2.1 1), .ref (X.2.1 2), .ref (X.2.1 3), .int (ri 3), .int (ri 4), .int (ri 5), .int (ri 6), .ref (X.2.1 4), .ref (X.2.1 5), .int (ri 9), .ref (X.2.1 6), .int (ri 11), .ref (X.2.1 7), .ref (X.2.1 8), .int (ri 14), .ref (X.2.1 9), .ref (X.2.1 10), .ref (X.2.1 11), .ref (X.2.1 12), .ref (X.2.1 13), .ref (X.2.1 14), .int (ri 21), .ref (X.2.1 15), .ref (X.2.1 16)]
def cfC (X : KX) (ri : Nat → Int32) (rl : Nat → Int64) (rr : Nat → Nat) (k : Nat) : va_E := match k with
  | 0 => .inr (10, flX10 X ri rr 0)
  | 1 => .inr (8, flX8 X ri rr 1)
  | 2 => .inl (X.2.2.1, 300, .inl ri)
  | 3 => .inr (5, flX5 X ri rr 3)
  | 4 => .inr (1, flX1 X ri rr 4)
  | 5 => .inl (X.2.2.2.1, 64, .inl ri)
  | 6 => .inl (X.2.2.2.1, 64, .inl ri)
  | 7 => .inl (X.2.2.2.1, 5, .inl ri)
  | 8 => .inl (X.2.2.2.1, 60, .inl ri)
  | 9 => .inl (X.2.2.2.1, 5, .inl ri)
  | 10 => .inr (1, flX1 X ri rr 10)
  | 11 => .inl (X.2.2.2.1, 64, .inl ri)
  | 12 => .inl (X.2.2.2.1, 64, .inl ri)
  | 13 => .inl (X.2.2.2.1, 5, .inl ri)
  | 14 => .inl (X.2.2.2.1, 60, .inl ri)
  | 15 => .inl (X.2.2.2.1, 5, .inl ri)
  | 16 => .inr (3, flX3 X ri rr 16)
  | 17 => .inr (4, flX4 X ri rr 17)
  | 18 => .inl (X.2.2.2.1, 8, .inl ri)
  | 19 => .inl (X.2.2.2.1, 8, .inl ri)
  | 20 => .inl (X.2.2.2.1, 8, .inl ri)
  | 21 => .inr (4, flX4 X ri rr 21)
  | 22 => .inl (X.2.2.2.1, 8, .inl ri)
  | 23 => .inl (X.2.2.2.1, 8, .inl ri)
  | 24 => .inl (X.2.2.2.1, 8, .inl ri)
  | 25 => .inr (9, flX9 X ri rr 25)
  | 26 => .inl (X.2.2.2.1, 6, .inl ri)
  | 27 => .inl (X.2.2.2.1, 6, .inl ri)
  | 28 => .inr (9, flX9 X ri rr 28)
  | 29 => .inl (X.2.2.2.1, 6, .inl ri)
  | 30 => .inl (X.2.2.2.1, 6, .inl ri)
  | 31 => .inr (7, flX7 X ri rr 31)
  | 32 => .inr (2, flX2 X ri rr 32)
  | 33 => .inl (X.2.2.2.1, 960, .inl ri)
  | 34 => .inl (X.2.2.2.2.1, 960, .inr (.inl rl))
  | 35 => .inr (2, flX2 X ri rr 35)
  | 36 => .inl (X.2.2.2.1, 960, .inl ri)
  | 37 => .inl (X.2.2.2.2.1, 960, .inr (.inl rl))
  | 38 => .inr (0, flX0 X ri rr 38)
  | 39 => .inr (6, flX6 X ri rr 39)
  | 40 => .inl (X.2.2.2.1, 390, .inl ri)
  | _ => .inr (0, [])
def cfM (X : KX) (ri : Nat → Int32) (rl : Nat → Int64) (rr : Nat → Nat) (k : Nat) : va_E := match k with
  | 0 => .inr (11, flX11 X ri rr 0)
  | 1 => .inl (X.2.2.2.1, 164, .inl ri)
  | 2 => .inl (X.2.2.2.1, 64, .inl ri)
  | 3 => .inl (X.2.2.1, 300, .inl ri)
  | 4 => .inl (X.2.2.2.1, 3, .inl ri)
  | 5 => .inl (X.2.2.2.1, 24, .inl ri)
  | 6 => .inl (X.2.2.2.1, 6, .inl ri)
  | 7 => .inl (X.2.2.2.1, 6, .inl ri)
  | 8 => .inl (X.2.2.2.1, 6, .inl ri)
  | 9 => .inl (X.2.2.2.1, 1008, .inl ri)
  | 10 => .inl (X.2.2.2.1, 1008, .inl ri)
  | 11 => .inl (X.2.2.2.2.2, 1008, .inl ri)
  | 12 => .inl (X.2.2.2.2.2, 1008, .inl ri)
  | 13 => .inl (X.2.2.2.1, 6, .inl ri)
  | 14 => .inl (X.2.2.2.1, 6, .inl ri)
  | 15 => .inl (X.2.2.2.2.1, 1008, .inr (.inl rl))
  | 16 => .inl (X.2.2.2.2.1, 1008, .inr (.inl rl))
  | _ => .inr (0, [])
def okC (rr : Nat → Nat) : Prop := kFm (rr 0) ∧ kFm (rr 1) ∧ kFr (rr 2) ∧ kFr (rr 3)
abbrev kZC : KD := (41, cfC, okC)
abbrev kZM : KD := (17, cfM, fun _ => True)
theorem kOC_0 {X : KX} : kIsO kZC X 0 10 flX10 := ⟨by decide, fun _ _ _ => rfl⟩
theorem kOC_1 {X : KX} : kIsO kZC X 1 8 flX8 := ⟨by decide, fun _ _ _ => rfl⟩
theorem kBC_2 {X : KX} : kIsB kZC X 2 300 := ⟨by decide, fun _ _ _ => rfl⟩
theorem kOC_3 {X : KX} : kIsO kZC X 3 5 flX5 := ⟨by decide, fun _ _ _ => rfl⟩
theorem kIC_5 {X : KX} : kIsI kZC X 5 64 := ⟨by decide, fun _ _ _ => rfl⟩
theorem kIC_6 {X : KX} : kIsI kZC X 6 64 := ⟨by decide, fun _ _ _ => rfl⟩
theorem kIC_7 {X : KX} : kIsI kZC X 7 5 := ⟨by decide, fun _ _ _ => rfl⟩
theorem kIC_8 {X : KX} : kIsI kZC X 8 60 := ⟨by decide, fun _ _ _ => rfl⟩
theorem kIC_9 {X : KX} : kIsI kZC X 9 5 := ⟨by decide, fun _ _ _ => rfl⟩
theorem kIC_11 {X : KX} : kIsI kZC X 11 64 := ⟨by decide, fun _ _ _ => rfl⟩
theorem kIC_12 {X : KX} : kIsI kZC X 12 64 := ⟨by decide, fun _ _ _ => rfl⟩
theorem kIC_13 {X : KX} : kIsI kZC X 13 5 := ⟨by decide, fun _ _ _ => rfl⟩
theorem kIC_14 {X : KX} : kIsI kZC X 14 60 := ⟨by decide, fun _ _ _ => rfl⟩
theorem kIC_15 {X : KX} : kIsI kZC X 15 5 := ⟨by decide, fun _ _ _ => rfl⟩
theorem kOC_16 {X : KX} : kIsO kZC X 16 3 flX3 := ⟨by decide, fun _ _ _ => rfl⟩
theorem kIC_18 {X : KX} : kIsI kZC X 18 8 := ⟨by decide, fun _ _ _ => rfl⟩
theorem kIC_19 {X : KX} : kIsI kZC X 19 8 := ⟨by decide, fun _ _ _ => rfl⟩
theorem kIC_20 {X : KX} : kIsI kZC X 20 8 := ⟨by decide, fun _ _ _ => rfl⟩
theorem kIC_22 {X : KX} : kIsI kZC X 22 8 := ⟨by decide, fun _ _ _ => rfl⟩
theorem kIC_23 {X : KX} : kIsI kZC X 23 8 := ⟨by decide, fun _ _ _ => rfl⟩
theorem kIC_24 {X : KX} : kIsI kZC X 24 8 := ⟨by decide, fun _ _ _ => rfl⟩
theorem kIC_26 {X : KX} : kIsI kZC X 26 6 := ⟨by decide, fun _ _ _ => rfl⟩
theorem kIC_27 {X : KX} : kIsI kZC X 27 6 := ⟨by decide, fun _ _ _ => rfl⟩
theorem kIC_29 {X : KX} : kIsI kZC X 29 6 := ⟨by decide, fun _ _ _ => rfl⟩
theorem kIC_30 {X : KX} : kIsI kZC X 30 6 := ⟨by decide, fun _ _ _ => rfl⟩
theorem kOC_31 {X : KX} : kIsO kZC X 31 7 flX7 := ⟨by decide, fun _ _ _ => rfl⟩
theorem kIC_33 {X : KX} : kIsI kZC X 33 960 := ⟨by decide, fun _ _ _ => rfl⟩
theorem kJC_34 {X : KX} : kIsJ kZC X 34 960 := ⟨by decide, fun _ _ _ => rfl⟩
theorem kIC_36 {X : KX} : kIsI kZC X 36 960 := ⟨by decide, fun _ _ _ => rfl⟩
theorem kJC_37 {X : KX} : kIsJ kZC X 37 960 := ⟨by decide, fun _ _ _ => rfl⟩
theorem kOC_38 {X : KX} : kIsO kZC X 38 0 flX0 := ⟨by decide, fun _ _ _ => rfl⟩
theorem kOC_39 {X : KX} : kIsO kZC X 39 6 flX6 := ⟨by decide, fun _ _ _ => rfl⟩
theorem kIC_40 {X : KX} : kIsI kZC X 40 390 := ⟨by decide, fun _ _ _ => rfl⟩
theorem kOM_0 {X : KX} : kIsO kZM X 0 11 flX11 := ⟨by decide, fun _ _ _ => rfl⟩
theorem kIM_1 {X : KX} : kIsI kZM X 1 164 := ⟨by decide, fun _ _ _ => rfl⟩
theorem kIM_2 {X : KX} : kIsI kZM X 2 64 := ⟨by decide, fun _ _ _ => rfl⟩
theorem kBM_3 {X : KX} : kIsB kZM X 3 300 := ⟨by decide, fun _ _ _ => rfl⟩
theorem kIM_4 {X : KX} : kIsI kZM X 4 3 := ⟨by decide, fun _ _ _ => rfl⟩
theorem kIM_5 {X : KX} : kIsI kZM X 5 24 := ⟨by decide, fun _ _ _ => rfl⟩
theorem kIM_6 {X : KX} : kIsI kZM X 6 6 := ⟨by decide, fun _ _ _ => rfl⟩
theorem kIM_7 {X : KX} : kIsI kZM X 7 6 := ⟨by decide, fun _ _ _ => rfl⟩
theorem kIM_8 {X : KX} : kIsI kZM X 8 6 := ⟨by decide, fun _ _ _ => rfl⟩
theorem kIM_9 {X : KX} : kIsI kZM X 9 1008 := ⟨by decide, fun _ _ _ => rfl⟩
theorem kIM_10 {X : KX} : kIsI kZM X 10 1008 := ⟨by decide, fun _ _ _ => rfl⟩
theorem kZM_11 {X : KX} : kIsZ kZM X 11 1008 := ⟨by decide, fun _ _ _ => rfl⟩
theorem kZM_12 {X : KX} : kIsZ kZM X 12 1008 := ⟨by decide, fun _ _ _ => rfl⟩
theorem kIM_13 {X : KX} : kIsI kZM X 13 6 := ⟨by decide, fun _ _ _ => rfl⟩
theorem kIM_14 {X : KX} : kIsI kZM X 14 6 := ⟨by decide, fun _ _ _ => rfl⟩
theorem kJM_15 {X : KX} : kIsJ kZM X 15 1008 := ⟨by decide, fun _ _ _ => rfl⟩
theorem kJM_16 {X : KX} : kIsJ kZM X 16 1008 := ⟨by decide, fun _ _ _ => rfl⟩
theorem kO_X1 {X : KX} {b : Nat} (h : kFm b) : kIsO kZC X b 1 flX1 := by
  rcases h with rfl | rfl
  · exact ⟨by decide, fun _ _ _ => rfl⟩
  · exact ⟨by decide, fun _ _ _ => rfl⟩
theorem kA_X1_0 {X : KX} {b : Nat} (h : kFm b) : kIsI kZC X (b + 1) 64 := by
  rcases h with rfl | rfl
  · exact ⟨by decide, fun _ _ _ => rfl⟩
  · exact ⟨by decide, fun _ _ _ => rfl⟩
theorem kA_X1_1 {X : KX} {b : Nat} (h : kFm b) : kIsI kZC X (b + 2) 64 := by
  rcases h with rfl | rfl
  · exact ⟨by decide, fun _ _ _ => rfl⟩
  · exact ⟨by decide, fun _ _ _ => rfl⟩
theorem kA_X1_2 {X : KX} {b : Nat} (h : kFm b) : kIsI kZC X (b + 3) 5 := by
  rcases h with rfl | rfl
  · exact ⟨by decide, fun _ _ _ => rfl⟩
  · exact ⟨by decide, fun _ _ _ => rfl⟩
theorem kA_X1_3 {X : KX} {b : Nat} (h : kFm b) : kIsI kZC X (b + 4) 60 := by
  rcases h with rfl | rfl
  · exact ⟨by decide, fun _ _ _ => rfl⟩
  · exact ⟨by decide, fun _ _ _ => rfl⟩
theorem kA_X1_4 {X : KX} {b : Nat} (h : kFm b) : kIsI kZC X (b + 5) 5 := by
  rcases h with rfl | rfl
  · exact ⟨by decide, fun _ _ _ => rfl⟩
  · exact ⟨by decide, fun _ _ _ => rfl⟩
theorem kO_X4 {X : KX} {b : Nat} (h : kMs b) : kIsO kZC X b 4 flX4 := by
  rcases h with rfl | rfl
  · exact ⟨by decide, fun _ _ _ => rfl⟩
  · exact ⟨by decide, fun _ _ _ => rfl⟩
theorem kA_X4_0 {X : KX} {b : Nat} (h : kMs b) : kIsI kZC X (b + 1) 8 := by
  rcases h with rfl | rfl
  · exact ⟨by decide, fun _ _ _ => rfl⟩
  · exact ⟨by decide, fun _ _ _ => rfl⟩
theorem kA_X4_1 {X : KX} {b : Nat} (h : kMs b) : kIsI kZC X (b + 2) 8 := by
  rcases h with rfl | rfl
  · exact ⟨by decide, fun _ _ _ => rfl⟩
  · exact ⟨by decide, fun _ _ _ => rfl⟩
theorem kA_X4_2 {X : KX} {b : Nat} (h : kMs b) : kIsI kZC X (b + 3) 8 := by
  rcases h with rfl | rfl
  · exact ⟨by decide, fun _ _ _ => rfl⟩
  · exact ⟨by decide, fun _ _ _ => rfl⟩
theorem kO_X9 {X : KX} {b : Nat} (h : kTd b) : kIsO kZC X b 9 flX9 := by
  rcases h with rfl | rfl
  · exact ⟨by decide, fun _ _ _ => rfl⟩
  · exact ⟨by decide, fun _ _ _ => rfl⟩
theorem kA_X9_0 {X : KX} {b : Nat} (h : kTd b) : kIsI kZC X (b + 1) 6 := by
  rcases h with rfl | rfl
  · exact ⟨by decide, fun _ _ _ => rfl⟩
  · exact ⟨by decide, fun _ _ _ => rfl⟩
theorem kA_X9_1 {X : KX} {b : Nat} (h : kTd b) : kIsI kZC X (b + 2) 6 := by
  rcases h with rfl | rfl
  · exact ⟨by decide, fun _ _ _ => rfl⟩
  · exact ⟨by decide, fun _ _ _ => rfl⟩
theorem kO_X2 {X : KX} {b : Nat} (h : kFr b) : kIsO kZC X b 2 flX2 := by
  rcases h with rfl | rfl
  · exact ⟨by decide, fun _ _ _ => rfl⟩
  · exact ⟨by decide, fun _ _ _ => rfl⟩
theorem kA_X2_0 {X : KX} {b : Nat} (h : kFr b) : kIsI kZC X (b + 1) 960 := by
  rcases h with rfl | rfl
  · exact ⟨by decide, fun _ _ _ => rfl⟩
  · exact ⟨by decide, fun _ _ _ => rfl⟩
theorem kA_X2_1 {X : KX} {b : Nat} (h : kFr b) : kIsJ kZC X (b + 2) 960 := by
  rcases h with rfl | rfl
  · exact ⟨by decide, fun _ _ _ => rfl⟩
  · exact ⟨by decide, fun _ _ _ => rfl⟩
theorem cfC_rr {X : KX} {ri : Nat → Int32} {rl : Nat → Int64} {rr r2 : Nat → Nat} {q : Nat} (h0 : q = 0 → rr 0 = r2 0 ∧ rr 1 = r2 1) (h1 : q = 31 → rr 2 = r2 2 ∧ rr 3 = r2 3) : cfC X ri rl rr q = cfC X ri rl r2 q := by
  by_cases e0 : q = 0
  · subst e0
    obtain ⟨a, b⟩ := h0 rfl
    simp only [cfC, flX10, a, b]
  · by_cases e1 : q = 31
    · subst e1
      obtain ⟨a, b⟩ := h1 rfl
      simp only [cfC, flX7, a, b]
    · unfold cfC
      split <;> first | rfl | exact absurd rfl e0 | exact absurd rfl e1
theorem kwr_at (σ : Mm) (i v : Nat) : (kwr σ i v).2.2 i = v := if_pos rfl
theorem kwr_ne (σ : Mm) {i j : Nat} (v : Nat) (h : j ≠ i) : (kwr σ i v).2.2 j = σ.2.2 j := if_neg h
theorem okC_0 {σ : Mm} {v : Nat} (h : okC σ.2.2) (hv : kFm v) : okC (kwr σ 0 v).2.2 := ⟨hv, h.2.1, h.2.2.1, h.2.2.2⟩
theorem okC_1 {σ : Mm} {v : Nat} (h : okC σ.2.2) (hv : kFm v) : okC (kwr σ 1 v).2.2 := ⟨h.1, hv, h.2.2.1, h.2.2.2⟩
theorem okC_2 {σ : Mm} {v : Nat} (h : okC σ.2.2) (hv : kFr v) : okC (kwr σ 2 v).2.2 := ⟨h.1, h.2.1, hv, h.2.2.2⟩
theorem okC_3 {σ : Mm} {v : Nat} (h : okC σ.2.2) (hv : kFr v) : okC (kwr σ 3 v).2.2 := ⟨h.1, h.2.1, h.2.2.1, hv⟩
theorem rsC_0 {X : KX} {σ : Mm} {v : Nat} : ∀ q, q ≠ 0 → cfC X (σ.1 q) (σ.2.1 q) (kwr σ 0 v).2.2 q = cfC X (σ.1 q) (σ.2.1 q) σ.2.2 q := fun q hq => cfC_rr (fun h => absurd h hq) (fun _ => ⟨rfl, rfl⟩)
theorem rsC_1 {X : KX} {σ : Mm} {v : Nat} : ∀ q, q ≠ 0 → cfC X (σ.1 q) (σ.2.1 q) (kwr σ 1 v).2.2 q = cfC X (σ.1 q) (σ.2.1 q) σ.2.2 q := fun q hq => cfC_rr (fun h => absurd h hq) (fun _ => ⟨rfl, rfl⟩)
theorem rsC_2 {X : KX} {σ : Mm} {v : Nat} : ∀ q, q ≠ 31 → cfC X (σ.1 q) (σ.2.1 q) (kwr σ 2 v).2.2 q = cfC X (σ.1 q) (σ.2.1 q) σ.2.2 q := fun q hq => cfC_rr (fun _ => ⟨rfl, rfl⟩) (fun h => absurd h hq)
theorem rsC_3 {X : KX} {σ : Mm} {v : Nat} : ∀ q, q ≠ 31 → cfC X (σ.1 q) (σ.2.1 q) (kwr σ 3 v).2.2 q = cfC X (σ.1 q) (σ.2.1 q) σ.2.2 q := fun q hq => cfC_rr (fun _ => ⟨rfl, rfl⟩) (fun h => absurd h hq)
/-- a boolean's number -/
def kbit (v : Int32) : Prop := v = 0 ∨ v = 1
theorem kbit_n {v : Int32} (h : kbit v) : narrow .boolean (.int v) = .int v := by rcases h with rfl | rfl <;> rfl
theorem kbit_f {v : Int32} (h : kbit v) : fits .boolean (.int v) = true := by rcases h with rfl | rfl <;> rfl
theorem kbit_0 : kbit 0 := Or.inl rfl
theorem kbit_1 : kbit 1 := Or.inr rfl
end
section
theorem mf_X10_ageIn : kMS yX10_ageIn cX10_ageIn 1 (some .int) 1 := ⟨q553, q52, q552, ⟨by decide +kernel, by decide +kernel⟩, by decide +kernel⟩
theorem mf_X10_back : kMV yX10_back RX10 cX10_back 1 (some .int) 0 := ⟨q833, q52, q831, q832, ⟨by decide +kernel, by decide +kernel⟩, by decide +kernel⟩
theorem mf_X10_bars : kMV yX10_bars RX10 cX10_bars 1 (some .int) 0 := ⟨q707, q52, q705, q706, ⟨by decide +kernel, by decide +kernel⟩, by decide +kernel⟩
theorem mf_X10_calf : kMV yX10_calf RX10 cX10_calf 4 (some .int) 2 := ⟨q573, q52, q571, q572, ⟨by decide +kernel, by decide +kernel⟩, by decide +kernel⟩
theorem mf_X10_chance : kMV yX10_chance RX10 cX10_chance 10 (some .long) 3 := ⟨q802, q52, q800, q801, ⟨by decide +kernel, by decide +kernel⟩, by decide +kernel⟩
theorem mf_X10_commonDivisor : kMS yX10_commonDivisor cX10_commonDivisor 11 (some .long) 2 := ⟨q811, q52, q810, ⟨by decide +kernel, by decide +kernel⟩, by decide +kernel⟩
theorem mf_X10_count : kMV yX10_count RX10 cX10_count 2 (some .int) 1 := ⟨q837, q52, q835, q836, ⟨by decide +kernel, by decide +kernel⟩, by decide +kernel⟩
theorem mf_X10_drawnFeeder : kMS yX10_drawnFeeder cX10_drawnFeeder 7 (some .int) 3 := ⟨q819, q52, q818, ⟨by decide +kernel, by decide +kernel⟩, by decide +kernel⟩
theorem mf_X10_far : kMV yX10_far RX10 cX10_far 4 (some .int) 2 := ⟨q492, q52, q490, q491, ⟨by decide +kernel, by decide +kernel⟩, by decide +kernel⟩
theorem mf_X10_fault : kMV yX10_fault RX10 cX10_fault 1 (some .int) 0 := ⟨q468, q52, q466, q467, ⟨by decide +kernel, by decide +kernel⟩, by decide +kernel⟩
theorem mf_X10_fedState : kMS yX10_fedState cX10_fedState 2 (some .int) 2 := ⟨q533, q52, q532, ⟨by decide +kernel, by decide +kernel⟩, by decide +kernel⟩
theorem mf_X10_feed : kMV yX10_feed RX10 cX10_feed 2 (some .int) 1 := ⟨q514, q52, q512, q513, ⟨by decide +kernel, by decide +kernel⟩, by decide +kernel⟩
theorem mf_X10_first : kMV yX10_first RX10 cX10_first 1 (some .int) 0 := ⟨q699, q52, q697, q698, ⟨by decide +kernel, by decide +kernel⟩, by decide +kernel⟩
theorem mf_X10_followedIn : kMS yX10_followedIn cX10_followedIn 1 (some .int) 1 := ⟨q550, q52, q549, ⟨by decide +kernel, by decide +kernel⟩, by decide +kernel⟩
theorem mf_X10_forget : kMV yX10_forget RX10 cX10_forget 1 (some .int) 0 := ⟨q781, q52, q779, q780, ⟨by decide +kernel, by decide +kernel⟩, by decide +kernel⟩
theorem mf_X10_game : kMV yX10_game RX10 cX10_game 6 (some .int) 4 := ⟨q711, q52, q709, q710, ⟨by decide +kernel, by decide +kernel⟩, by decide +kernel⟩
theorem mf_X10_goal : kMV yX10_goal RX10 cX10_goal 3 (some .int) 2 := ⟨q584, q52, q582, q583, ⟨by decide +kernel, by decide +kernel⟩, by decide +kernel⟩
theorem mf_X10_how : kMV yX10_how RX10 cX10_how 1 (some .long) 0 := ⟨q785, q52, q783, q784, ⟨by decide +kernel, by decide +kernel⟩, by decide +kernel⟩
theorem mf_X10_isFlag : kMS yX10_isFlag cX10_isFlag 1 (some .boolean) 1 := ⟨q576, q52, q575, ⟨by decide +kernel, by decide +kernel⟩, by decide +kernel⟩
theorem mf_X10_keep : kMV yX10_keep RX10 cX10_keep 1 (some .int) 0 := ⟨q829, q52, q827, q828, ⟨by decide +kernel, by decide +kernel⟩, by decide +kernel⟩
theorem mf_X10_lay : kMV yX10_lay RX10 cX10_lay 2 (some .int) 0 := ⟨q472, q52, q470, q471, ⟨by decide +kernel, by decide +kernel⟩, by decide +kernel⟩
theorem mf_X10_noGoals : kMV yX10_noGoals RX10 cX10_noGoals 1 (some .int) 0 := ⟨q592, q52, q590, q591, ⟨by decide +kernel, by decide +kernel⟩, by decide +kernel⟩
theorem mf_X10_orNone : kMS yX10_orNone cX10_orNone 1 (some .int) 1 := ⟨q580, q52, q579, ⟨by decide +kernel, by decide +kernel⟩, by decide +kernel⟩
theorem mf_X10_packed : kMS yX10_packed cX10_packed 3 (some .int) 3 := ⟨q421, q52, q420, ⟨by decide +kernel, by decide +kernel⟩, by decide +kernel⟩
theorem mf_X10_pass : kMV yX10_pass RX10 cX10_pass 2 (some .int) 1 := ⟨q539, q52, q537, q538, ⟨by decide +kernel, by decide +kernel⟩, by decide +kernel⟩
theorem mf_X10_person : kMV yX10_person RX10 cX10_person 3 (some .int) 2 := ⟨q498, q52, q496, q497, ⟨by decide +kernel, by decide +kernel⟩, by decide +kernel⟩
theorem mf_X10_price : kMV yX10_price RX10 cX10_price 1 (some .int) 0 := ⟨q596, q52, q594, q595, ⟨by decide +kernel, by decide +kernel⟩, by decide +kernel⟩
theorem mf_X10_seen : kMV yX10_seen RX10 cX10_seen 3 (some .int) 2 := ⟨q777, q52, q775, q776, ⟨by decide +kernel, by decide +kernel⟩, by decide +kernel⟩
theorem mf_X10_sure : kMV yX10_sure RX10 cX10_sure 3 (some .int) 1 := ⟨q798, q52, q796, q797, ⟨by decide +kernel, by decide +kernel⟩, by decide +kernel⟩
theorem mf_X10_undo : kMV yX10_undo RX10 cX10_undo 1 (some .int) 0 := ⟨q561, q52, q559, q560, ⟨by decide +kernel, by decide +kernel⟩, by decide +kernel⟩
theorem mf_X10_wipe : kMV yX10_wipe RX10 cX10_wipe 2 (some .int) 0 := ⟨q464, q52, q462, q463, ⟨by decide +kernel, by decide +kernel⟩, by decide +kernel⟩
theorem mf_X10_write : kMV yX10_write RX10 cX10_write 5 (some .int) 2 := ⟨q459, q52, q457, q458, ⟨by decide +kernel, by decide +kernel⟩, by decide +kernel⟩
theorem mf_X10_yardOf : kMS yX10_yardOf cX10_yardOf 1 (some .int) 1 := ⟨q522, q52, q521, ⟨by decide +kernel, by decide +kernel⟩, by decide +kernel⟩
theorem mf_X10_year : kMV yX10_year RX10 cX10_year 8 (some .int) 3 := ⟨q815, q52, q813, q814, ⟨by decide +kernel, by decide +kernel⟩, by decide +kernel⟩
theorem mf_X0_addNext : kMV yX0_addNext RX0 cX0_addNext 7 none 5 := ⟨q752, q62, q751, q18, ⟨by decide +kernel, by decide +kernel⟩, by decide +kernel⟩
theorem mf_X0_choice : kMV yX0_choice RX0 cX0_choice 8 (some .int) 6 := ⟨q773, q62, q772, q21, ⟨by decide +kernel, by decide +kernel⟩, by decide +kernel⟩
theorem mf_X0_goBack : kMV yX0_goBack RX0 cX0_goBack 8 none 4 := ⟨q769, q62, q768, q20, ⟨by decide +kernel, by decide +kernel⟩, by decide +kernel⟩
theorem mf_X0_goForth : kMV yX0_goForth RX0 cX0_goForth 6 none 4 := ⟨q739, q62, q738, q17, ⟨by decide +kernel, by decide +kernel⟩, by decide +kernel⟩
theorem mf_X0_leaveThoseAt : kMV yX0_leaveThoseAt RX0 cX0_leaveThoseAt 5 none 3 := ⟨q760, q62, q759, q19, ⟨by decide +kernel, by decide +kernel⟩, by decide +kernel⟩
theorem mf_X0_moversIn : kMS yX0_moversIn cX0_moversIn 3 (some .int) 3 := ⟨q734, q62, q733, ⟨by decide +kernel, by decide +kernel⟩, by decide +kernel⟩
theorem mf_X0_opening : kMV yX0_opening RX0 cX0_opening 7 (some .int) 5 := ⟨q719, q62, q717, q718, ⟨by decide +kernel, by decide +kernel⟩, by decide +kernel⟩
theorem mf_X1_addToWay : kMV yX1_addToWay RX1 cX1_addToWay 3 none 1 := ⟨q378, q55, q376, q377, ⟨by decide +kernel, by decide +kernel⟩, by decide +kernel⟩
theorem mf_X1_beginWay : kMV yX1_beginWay RX1 cX1_beginWay 1 (some .boolean) 0 := ⟨q374, q55, q372, q373, ⟨by decide +kernel, by decide +kernel⟩, by decide +kernel⟩
theorem mf_X1_canBeLaid : kMV yX1_canBeLaid RX1 cX1_canBeLaid 3 (some .boolean) 0 := ⟨q476, q55, q474, q475, ⟨by decide +kernel, by decide +kernel⟩, by decide +kernel⟩
theorem mf_X1_canFeed : kMV yX1_canFeed RX1 cX1_canFeed 4 (some .boolean) 3 := ⟨q518, q55, q516, q517, ⟨by decide +kernel, by decide +kernel⟩, by decide +kernel⟩
theorem mf_X1_clear : kMV yX1_clear RX1 cX1_clear 2 none 0 := ⟨q327, q55, q325, q326, ⟨by decide +kernel, by decide +kernel⟩, by decide +kernel⟩
theorem mf_X1_cost : kMV yX1_cost RX1 cX1_cost 2 (some .int) 1 := ⟨q506, q55, q504, q505, ⟨by decide +kernel, by decide +kernel⟩, by decide +kernel⟩
theorem mf_X1_distance : kMV yX1_distance RX1 cX1_distance 3 (some .int) 2 := ⟨q402, q55, q400, q401, ⟨by decide +kernel, by decide +kernel⟩, by decide +kernel⟩
theorem mf_X1_everybody : kMV yX1_everybody RX1 cX1_everybody 1 (some .int) 0 := ⟨q715, q55, q713, q714, ⟨by decide +kernel, by decide +kernel⟩, by decide +kernel⟩
theorem mf_X1_firstState : kMV yX1_firstState RX1 cX1_firstState 1 (some .int) 0 := ⟨q418, q55, q416, q417, ⟨by decide +kernel, by decide +kernel⟩, by decide +kernel⟩
theorem mf_X1_hasPerson : kMV yX1_hasPerson RX1 cX1_hasPerson 2 (some .boolean) 1 := ⟨q502, q55, q500, q501, ⟨by decide +kernel, by decide +kernel⟩, by decide +kernel⟩
theorem mf_X1_hasYard : kMV yX1_hasYard RX1 cX1_hasYard 2 (some .boolean) 1 := ⟨q366, q55, q364, q365, ⟨by decide +kernel, by decide +kernel⟩, by decide +kernel⟩
theorem mf_X1_lowestNearer : kMV yX1_lowestNearer RX1 cX1_lowestNearer 5 (some .int) 2 := ⟨q406, q55, q405, q6, ⟨by decide +kernel, by decide +kernel⟩, by decide +kernel⟩
theorem mf_X1_measure : kMV yX1_measure RX1 cX1_measure 5 none 0 := ⟨q398, q55, q396, q397, ⟨by decide +kernel, by decide +kernel⟩, by decide +kernel⟩
theorem mf_X1_onward : kMV yX1_onward RX1 cX1_onward 6 (some .int) 2 := ⟨q547, q55, q545, q546, ⟨by decide +kernel, by decide +kernel⟩, by decide +kernel⟩
theorem mf_X1_persons : kMV yX1_persons RX1 cX1_persons 1 (some .int) 0 := ⟨q488, q55, q486, q487, ⟨by decide +kernel, by decide +kernel⟩, by decide +kernel⟩
theorem mf_X1_states : kMV yX1_states RX1 cX1_states 1 (some .int) 0 := ⟨q743, q55, q741, q742, ⟨by decide +kernel, by decide +kernel⟩, by decide +kernel⟩
theorem mf_X1_tellForgetting : kMV yX1_tellForgetting RX1 cX1_tellForgetting 2 (some .boolean) 1 := ⟨q390, q55, q388, q389, ⟨by decide +kernel, by decide +kernel⟩, by decide +kernel⟩
theorem mf_X1_tellLane : kMV yX1_tellLane RX1 cX1_tellLane 3 (some .boolean) 2 := ⟨q362, q55, q360, q361, ⟨by decide +kernel, by decide +kernel⟩, by decide +kernel⟩
theorem mf_X1_tellPerson : kMV yX1_tellPerson RX1 cX1_tellPerson 2 (some .boolean) 1 := ⟨q386, q55, q384, q385, ⟨by decide +kernel, by decide +kernel⟩, by decide +kernel⟩
theorem mf_X1_tellStart : kMV yX1_tellStart RX1 cX1_tellStart 2 (some .boolean) 1 := ⟨q394, q55, q392, q393, ⟨by decide +kernel, by decide +kernel⟩, by decide +kernel⟩
theorem mf_X1_tellYards : kMV yX1_tellYards RX1 cX1_tellYards 2 (some .boolean) 1 := ⟨q382, q55, q380, q381, ⟨by decide +kernel, by decide +kernel⟩, by decide +kernel⟩
theorem mf_X1_towards : kMV yX1_towards RX1 cX1_towards 3 (some .int) 2 := ⟨q557, q55, q556, q8, ⟨by decide +kernel, by decide +kernel⟩, by decide +kernel⟩
theorem mf_X1_unfed : kMV yX1_unfed RX1 cX1_unfed 6 (some .int) 3 := ⟨q543, q55, q541, q542, ⟨by decide +kernel, by decide +kernel⟩, by decide +kernel⟩
theorem mf_X1_yardAt : kMV yX1_yardAt RX1 cX1_yardAt 4 (some .int) 2 := ⟨q510, q55, q508, q509, ⟨by decide +kernel, by decide +kernel⟩, by decide +kernel⟩
theorem mf_X1_yards : kMV yX1_yards RX1 cX1_yards 1 (some .int) 0 := ⟨q841, q55, q839, q840, ⟨by decide +kernel, by decide +kernel⟩, by decide +kernel⟩
theorem mf_X2_clear : kMV yX2_clear RX2 cX2_clear 2 none 0 := ⟨q608, q60, q606, q607, ⟨by decide +kernel, by decide +kernel⟩, by decide +kernel⟩
theorem mf_X2_keepThoseAt : kMV yX2_keepThoseAt RX2 cX2_keepThoseAt 5 none 1 := ⟨q646, q60, q644, q645, ⟨by decide +kernel, by decide +kernel⟩, by decide +kernel⟩
theorem mf_X2_least : kMV yX2_least RX2 cX2_least 4 (some .long) 0 := ⟨q694, q60, q692, q693, ⟨by decide +kernel, by decide +kernel⟩, by decide +kernel⟩
theorem mf_X2_number : kMV yX2_number RX2 cX2_number 2 (some .long) 1 := ⟨q663, q60, q661, q662, ⟨by decide +kernel, by decide +kernel⟩, by decide +kernel⟩
theorem mf_X2_put : kMV yX2_put RX2 cX2_put 5 none 3 := ⟨q612, q60, q610, q611, ⟨by decide +kernel, by decide +kernel⟩, by decide +kernel⟩
theorem mf_X2_size : kMV yX2_size RX2 cX2_size 1 (some .int) 0 := ⟨q651, q60, q649, q650, ⟨by decide +kernel, by decide +kernel⟩, by decide +kernel⟩
theorem mf_X2_state : kMV yX2_state RX2 cX2_state 2 (some .int) 1 := ⟨q659, q60, q657, q658, ⟨by decide +kernel, by decide +kernel⟩, by decide +kernel⟩
theorem mf_X2_sum : kMV yX2_sum RX2 cX2_sum 4 (some .long) 0 := ⟨q794, q60, q792, q793, ⟨by decide +kernel, by decide +kernel⟩, by decide +kernel⟩
theorem mf_X3_begin : kMV yX3_begin RX3 cX3_begin 2 none 1 := ⟨q414, q56, q412, q413, ⟨by decide +kernel, by decide +kernel⟩, by decide +kernel⟩
theorem mf_X4_clear : kMV yX4_clear RX4 cX4_clear 1 none 0 := ⟨q484, q57, q482, q483, ⟨by decide +kernel, by decide +kernel⟩, by decide +kernel⟩
theorem mf_X4_dropLowest : kMV yX4_dropLowest RX4 cX4_dropLowest 2 none 0 := ⟨q530, q57, q529, q7, ⟨by decide +kernel, by decide +kernel⟩, by decide +kernel⟩
theorem mf_X4_pop : kMV yX4_pop RX4 cX4_pop 2 none 1 := ⟨q569, q57, q567, q568, ⟨by decide +kernel, by decide +kernel⟩, by decide +kernel⟩
theorem mf_X4_push : kMV yX4_push RX4 cX4_push 2 none 1 := ⟨q526, q57, q524, q525, ⟨by decide +kernel, by decide +kernel⟩, by decide +kernel⟩
theorem mf_X4_size : kMV yX4_size RX4 cX4_size 1 (some .int) 0 := ⟨q565, q57, q563, q564, ⟨by decide +kernel, by decide +kernel⟩, by decide +kernel⟩
theorem mf_X5_figureHere : kMV yX5_figureHere RX5 cX5_figureHere 2 (some .int) 0 := ⟨q354, q54, q353, q3, ⟨by decide +kernel, by decide +kernel⟩, by decide +kernel⟩
theorem mf_X5_readInto : kMV yX5_readInto RX5 cX5_readInto 4 (some .int) 1 := ⟨q323, q54, q321, q322, ⟨by decide +kernel, by decide +kernel⟩, by decide +kernel⟩
theorem mf_X5_readItem : kMV yX5_readItem RX5 cX5_readItem 4 (some .boolean) 1 := ⟨q338, q54, q337, q0, ⟨by decide +kernel, by decide +kernel⟩, by decide +kernel⟩
theorem mf_X5_readLane : kMV yX5_readLane RX5 cX5_readLane 4 (some .boolean) 1 := ⟨q346, q54, q345, q1, ⟨by decide +kernel, by decide +kernel⟩, by decide +kernel⟩
theorem mf_X5_readNumber : kMV yX5_readNumber RX5 cX5_readNumber 3 (some .int) 0 := ⟨q350, q54, q349, q2, ⟨by decide +kernel, by decide +kernel⟩, by decide +kernel⟩
theorem mf_X5_readWay : kMV yX5_readWay RX5 cX5_readWay 5 (some .boolean) 1 := ⟨q370, q54, q369, q5, ⟨by decide +kernel, by decide +kernel⟩, by decide +kernel⟩
theorem mf_X5_takes : kMV yX5_takes RX5 cX5_takes 2 (some .boolean) 1 := ⟨q358, q54, q357, q4, ⟨by decide +kernel, by decide +kernel⟩, by decide +kernel⟩
theorem mf_X6_add : kMV yX6_add RX6 cX6_add 3 none 2 := ⟨q728, q63, q726, q727, ⟨by decide +kernel, by decide +kernel⟩, by decide +kernel⟩
theorem mf_X6_clear : kMV yX6_clear RX6 cX6_clear 1 none 0 := ⟨q723, q63, q721, q722, ⟨by decide +kernel, by decide +kernel⟩, by decide +kernel⟩
theorem mf_X6_has : kMV yX6_has RX6 cX6_has 3 (some .boolean) 2 := ⟨q748, q63, q746, q747, ⟨by decide +kernel, by decide +kernel⟩, by decide +kernel⟩
theorem mf_X6_isOne : kMS yX6_isOne cX6_isOne 2 (some .boolean) 2 := ⟨q731, q63, q730, ⟨by decide +kernel, by decide +kernel⟩, by decide +kernel⟩
theorem mf_X6_remove : kMV yX6_remove RX6 cX6_remove 3 none 2 := ⟨q765, q63, q763, q764, ⟨by decide +kernel, by decide +kernel⟩, by decide +kernel⟩
theorem mf_X7_begin : kMV yX7_begin RX7 cX7_begin 3 none 2 := ⟨q604, q59, q603, q9, ⟨by decide +kernel, by decide +kernel⟩, by decide +kernel⟩
theorem mf_X7_branch : kMV yX7_branch RX7 cX7_branch 10 none 4 := ⟨q667, q59, q666, q13, ⟨by decide +kernel, by decide +kernel⟩, by decide +kernel⟩
theorem mf_X7_cheapest : kMV yX7_cheapest RX7 cX7_cheapest 4 (some .int) 3 := ⟨q600, q59, q598, q599, ⟨by decide +kernel, by decide +kernel⟩, by decide +kernel⟩
theorem mf_X7_feedersOf : kMV yX7_feedersOf RX7 cX7_feedersOf 6 (some .int) 3 := ⟨q671, q59, q670, q14, ⟨by decide +kernel, by decide +kernel⟩, by decide +kernel⟩
theorem mf_X7_firstFeeder : kMV yX7_firstFeeder RX7 cX7_firstFeeder 1 (some .int) 0 := ⟨q703, q59, q701, q702, ⟨by decide +kernel, by decide +kernel⟩, by decide +kernel⟩
theorem mf_X7_follow : kMV yX7_follow RX7 cX7_follow 7 (some .int) 3 := ⟨q619, q59, q618, q10, ⟨by decide +kernel, by decide +kernel⟩, by decide +kernel⟩
theorem mf_X7_leastCost : kMV yX7_leastCost RX7 cX7_leastCost 1 (some .int) 0 := ⟨q690, q59, q688, q689, ⟨by decide +kernel, by decide +kernel⟩, by decide +kernel⟩
theorem mf_X7_sieve : kMV yX7_sieve RX7 cX7_sieve 4 (some .int) 2 := ⟨q630, q59, q629, q11, ⟨by decide +kernel, by decide +kernel⟩, by decide +kernel⟩
theorem mf_X7_spread : kMV yX7_spread RX7 cX7_spread 4 none 2 := ⟨q655, q59, q654, q12, ⟨by decide +kernel, by decide +kernel⟩, by decide +kernel⟩
theorem mf_X7_ways : kMV yX7_ways RX7 cX7_ways 4 (some .long) 3 := ⟨q789, q59, q787, q788, ⟨by decide +kernel, by decide +kernel⟩, by decide +kernel⟩
theorem mf_X7_weight : kMV yX7_weight RX7 cX7_weight 6 (some .long) 4 := ⟨q807, q59, q805, q806, ⟨by decide +kernel, by decide +kernel⟩, by decide +kernel⟩
theorem mf_X7_whenFed : kMV yX7_whenFed RX7 cX7_whenFed 6 (some .long) 4 := ⟨q685, q59, q684, q16, ⟨by decide +kernel, by decide +kernel⟩, by decide +kernel⟩
theorem mf_X7_whenUnfed : kMV yX7_whenUnfed RX7 cX7_whenUnfed 4 (some .long) 2 := ⟨q678, q59, q677, q15, ⟨by decide +kernel, by decide +kernel⟩, by decide +kernel⟩
theorem mf_X8_append : kMV yX8_append RX8 cX8_append 2 none 1 := ⟨q319, q53, q317, q318, ⟨by decide +kernel, by decide +kernel⟩, by decide +kernel⟩
theorem mf_X8_byteAt : kMV yX8_byteAt RX8 cX8_byteAt 2 (some .int) 1 := ⟨q342, q53, q340, q341, ⟨by decide +kernel, by decide +kernel⟩, by decide +kernel⟩
theorem mf_X8_clear : kMV yX8_clear RX8 cX8_clear 1 none 0 := ⟨q410, q53, q408, q409, ⟨by decide +kernel, by decide +kernel⟩, by decide +kernel⟩
theorem mf_X8_length : kMV yX8_length RX8 cX8_length 1 (some .int) 0 := ⟨q334, q53, q332, q333, ⟨by decide +kernel, by decide +kernel⟩, by decide +kernel⟩
theorem mf_X9_add : kMV yX9_add RX9 cX9_add 3 (some .int) 2 := ⟨q588, q58, q586, q587, ⟨by decide +kernel, by decide +kernel⟩, by decide +kernel⟩
theorem mf_X9_clear : kMV yX9_clear RX9 cX9_clear 2 (some .int) 0 := ⟨q480, q58, q478, q479, ⟨by decide +kernel, by decide +kernel⟩, by decide +kernel⟩
theorem mf_X9_isOf : kMV yX9_isOf RX9 cX9_isOf 3 (some .boolean) 2 := ⟨q638, q58, q636, q637, ⟨by decide +kernel, by decide +kernel⟩, by decide +kernel⟩
theorem mf_X9_lastMinute : kMV yX9_lastMinute RX9 cX9_lastMinute 3 (some .int) 0 := ⟨q623, q58, q621, q622, ⟨by decide +kernel, by decide +kernel⟩, by decide +kernel⟩
theorem mf_X9_size : kMV yX9_size RX9 cX9_size 1 (some .int) 0 := ⟨q634, q58, q632, q633, ⟨by decide +kernel, by decide +kernel⟩, by decide +kernel⟩
theorem mf_X9_yard : kMV yX9_yard RX9 cX9_yard 2 (some .int) 1 := ⟨q642, q58, q640, q641, ⟨by decide +kernel, by decide +kernel⟩, by decide +kernel⟩
theorem mf_X11_after : kMV yX11_after RX11 cX11_after 9 (some .int) 2 := ⟨q1026, q68, q1025, q37, ⟨by decide +kernel, by decide +kernel⟩, by decide +kernel⟩
theorem mf_X11_back : kMV yX11_back RX11 cX11_back 2 (some .int) 0 := ⟨q1150, q68, q1148, q1149, ⟨by decide +kernel, by decide +kernel⟩, by decide +kernel⟩
theorem mf_X11_bar : kMV yX11_bar RX11 cX11_bar 4 none 1 := ⟨q1121, q68, q1120, q49, ⟨by decide +kernel, by decide +kernel⟩, by decide +kernel⟩
theorem mf_X11_bars : kMV yX11_bars RX11 cX11_bars 3 (some .int) 0 := ⟨q1085, q68, q1083, q1084, ⟨by decide +kernel, by decide +kernel⟩, by decide +kernel⟩
theorem mf_X11_begin : kMV yX11_begin RX11 cX11_begin 5 none 0 := ⟨q856, q68, q855, q23, ⟨by decide +kernel, by decide +kernel⟩, by decide +kernel⟩
theorem mf_X11_calf : kMV yX11_calf RX11 cX11_calf 4 (some .int) 2 := ⟨q1037, q68, q1035, q1036, ⟨by decide +kernel, by decide +kernel⟩, by decide +kernel⟩
theorem mf_X11_canWin : kMV yX11_canWin RX11 cX11_canWin 7 (some .boolean) 3 := ⟨q1093, q68, q1092, q45, ⟨by decide +kernel, by decide +kernel⟩, by decide +kernel⟩
theorem mf_X11_chance : kMV yX11_chance RX11 cX11_chance 14 (some .long) 3 := ⟨q1133, q68, q1131, q1132, ⟨by decide +kernel, by decide +kernel⟩, by decide +kernel⟩
theorem mf_X11_costBy : kMV yX11_costBy RX11 cX11_costBy 6 (some .int) 3 := ⟨q1077, q68, q1076, q44, ⟨by decide +kernel, by decide +kernel⟩, by decide +kernel⟩
theorem mf_X11_count : kMV yX11_count RX11 cX11_count 2 (some .int) 1 := ⟨q1154, q68, q1152, q1153, ⟨by decide +kernel, by decide +kernel⟩, by decide +kernel⟩
theorem mf_X11_due : kMV yX11_due RX11 cX11_due 2 none 1 := ⟨q967, q68, q966, q28, ⟨by decide +kernel, by decide +kernel⟩, by decide +kernel⟩
theorem mf_X11_far : kMV yX11_far RX11 cX11_far 3 (some .int) 2 := ⟨q979, q68, q977, q978, ⟨by decide +kernel, by decide +kernel⟩, by decide +kernel⟩
theorem mf_X11_fault : kMV yX11_fault RX11 cX11_fault 1 (some .int) 0 := ⟨q947, q68, q945, q946, ⟨by decide +kernel, by decide +kernel⟩, by decide +kernel⟩
theorem mf_X11_fedBy : kMV yX11_fedBy RX11 cX11_fedBy 3 (some .int) 2 := ⟨q1014, q68, q1013, q35, ⟨by decide +kernel, by decide +kernel⟩, by decide +kernel⟩
theorem mf_X11_feed : kMV yX11_feed RX11 cX11_feed 2 (some .int) 1 := ⟨q999, q68, q997, q998, ⟨by decide +kernel, by decide +kernel⟩, by decide +kernel⟩
theorem mf_X11_findFault : kMV yX11_findFault RX11 cX11_findFault 2 (some .int) 0 := ⟨q951, q68, q950, q24, ⟨by decide +kernel, by decide +kernel⟩, by decide +kernel⟩
theorem mf_X11_first : kMV yX11_first RX11 cX11_first 4 (some .int) 0 := ⟨q1081, q68, q1079, q1080, ⟨by decide +kernel, by decide +kernel⟩, by decide +kernel⟩
theorem mf_X11_fits : kMV yX11_fits RX11 cX11_fits 6 (some .boolean) 3 := ⟨q1069, q68, q1068, q42, ⟨by decide +kernel, by decide +kernel⟩, by decide +kernel⟩
theorem mf_X11_forget : kMV yX11_forget RX11 cX11_forget 2 (some .int) 0 := ⟨q1105, q68, q1103, q1104, ⟨by decide +kernel, by decide +kernel⟩, by decide +kernel⟩
theorem mf_X11_game : kMV yX11_game RX11 cX11_game 7 (some .int) 4 := ⟨q1089, q68, q1087, q1088, ⟨by decide +kernel, by decide +kernel⟩, by decide +kernel⟩
theorem mf_X11_goOn : kMV yX11_goOn RX11 cX11_goOn 7 none 3 := ⟨q1125, q68, q1124, q50, ⟨by decide +kernel, by decide +kernel⟩, by decide +kernel⟩
theorem mf_X11_goal : kMV yX11_goal RX11 cX11_goal 3 (some .int) 2 := ⟨q1041, q68, q1039, q1040, ⟨by decide +kernel, by decide +kernel⟩, by decide +kernel⟩
theorem mf_X11_gone : kMV yX11_gone RX11 cX11_gone 6 (some .int) 3 := ⟨q1022, q68, q1021, q36, ⟨by decide +kernel, by decide +kernel⟩, by decide +kernel⟩
theorem mf_X11_here : kMV yX11_here RX11 cX11_here 1 (some .int) 0 := ⟨q959, q68, q958, q26, ⟨by decide +kernel, by decide +kernel⟩, by decide +kernel⟩
theorem mf_X11_how : kMV yX11_how RX11 cX11_how 1 (some .long) 0 := ⟨q1109, q68, q1107, q1108, ⟨by decide +kernel, by decide +kernel⟩, by decide +kernel⟩
theorem mf_X11_howBut : kMV yX11_howBut RX11 cX11_howBut 6 (some .long) 1 := ⟨q1113, q68, q1112, q47, ⟨by decide +kernel, by decide +kernel⟩, by decide +kernel⟩
theorem mf_X11_in : kMS yX11_in cX11_in 3 (some .boolean) 3 := ⟨q938, q68, q937, ⟨by decide +kernel, by decide +kernel⟩, by decide +kernel⟩
theorem mf_X11_isPerson : kMV yX11_isPerson RX11 cX11_isPerson 2 (some .boolean) 1 := ⟨q991, q68, q990, q31, ⟨by decide +kernel, by decide +kernel⟩, by decide +kernel⟩
theorem mf_X11_isState : kMV yX11_isState RX11 cX11_isState 4 (some .boolean) 1 := ⟨q1065, q68, q1064, q41, ⟨by decide +kernel, by decide +kernel⟩, by decide +kernel⟩
theorem mf_X11_isUpTo : kMV yX11_isUpTo RX11 cX11_isUpTo 3 (some .boolean) 2 := ⟨q1057, q68, q1056, q39, ⟨by decide +kernel, by decide +kernel⟩, by decide +kernel⟩
theorem mf_X11_isWonBy : kMV yX11_isWonBy RX11 cX11_isWonBy 4 (some .boolean) 3 := ⟨q1097, q68, q1096, q46, ⟨by decide +kernel, by decide +kernel⟩, by decide +kernel⟩
theorem mf_X11_isYard : kMV yX11_isYard RX11 cX11_isYard 2 (some .boolean) 1 := ⟨q983, q68, q982, q30, ⟨by decide +kernel, by decide +kernel⟩, by decide +kernel⟩
theorem mf_X11_keep : kMV yX11_keep RX11 cX11_keep 2 (some .int) 0 := ⟨q1146, q68, q1144, q1145, ⟨by decide +kernel, by decide +kernel⟩, by decide +kernel⟩
theorem mf_X11_know : kMV yX11_know RX11 cX11_know 2 none 0 := ⟨q1010, q68, q1009, q34, ⟨by decide +kernel, by decide +kernel⟩, by decide +kernel⟩
theorem mf_X11_lastGoal : kMV yX11_lastGoal RX11 cX11_lastGoal 3 (some .int) 0 := ⟨q1053, q68, q1052, q38, ⟨by decide +kernel, by decide +kernel⟩, by decide +kernel⟩
theorem mf_X11_lay : kMV yX11_lay RX11 cX11_lay 4 (some .int) 0 := ⟨q975, q68, q973, q974, ⟨by decide +kernel, by decide +kernel⟩, by decide +kernel⟩
theorem mf_X11_leastOf : kMV yX11_leastOf RX11 cX11_leastOf 6 (some .int) 2 := ⟨q1073, q68, q1072, q43, ⟨by decide +kernel, by decide +kernel⟩, by decide +kernel⟩
theorem mf_X11_link : kMV yX11_link RX11 cX11_link 4 none 3 := ⟨q852, q68, q851, q22, ⟨by decide +kernel, by decide +kernel⟩, by decide +kernel⟩
theorem mf_X11_mayFeed : kMV yX11_mayFeed RX11 cX11_mayFeed 4 (some .boolean) 3 := ⟨q1003, q68, q1002, q33, ⟨by decide +kernel, by decide +kernel⟩, by decide +kernel⟩
theorem mf_X11_noGoals : kMV yX11_noGoals RX11 cX11_noGoals 2 (some .int) 0 := ⟨q1045, q68, q1043, q1044, ⟨by decide +kernel, by decide +kernel⟩, by decide +kernel⟩
theorem mf_X11_number : kMV yX11_number RX11 cX11_number 5 (some .int) 2 := ⟨q963, q68, q962, q27, ⟨by decide +kernel, by decide +kernel⟩, by decide +kernel⟩
theorem mf_X11_pass : kMV yX11_pass RX11 cX11_pass 2 (some .int) 1 := ⟨q1018, q68, q1016, q1017, ⟨by decide +kernel, by decide +kernel⟩, by decide +kernel⟩
theorem mf_X11_person : kMV yX11_person RX11 cX11_person 3 (some .int) 2 := ⟨q987, q68, q985, q986, ⟨by decide +kernel, by decide +kernel⟩, by decide +kernel⟩
theorem mf_X11_placeOf : kMV yX11_placeOf RX11 cX11_placeOf 3 (some .int) 2 := ⟨q995, q68, q994, q32, ⟨by decide +kernel, by decide +kernel⟩, by decide +kernel⟩
theorem mf_X11_price : kMV yX11_price RX11 cX11_price 2 (some .int) 0 := ⟨q1049, q68, q1047, q1048, ⟨by decide +kernel, by decide +kernel⟩, by decide +kernel⟩
theorem mf_X11_priceTo : kMV yX11_priceTo RX11 cX11_priceTo 5 (some .int) 1 := ⟨q1061, q68, q1060, q40, ⟨by decide +kernel, by decide +kernel⟩, by decide +kernel⟩
theorem mf_X11_readItem : kMV yX11_readItem RX11 cX11_readItem 7 none 0 := ⟨q955, q68, q954, q25, ⟨by decide +kernel, by decide +kernel⟩, by decide +kernel⟩
theorem mf_X11_readWay : kMV yX11_readWay RX11 cX11_readWay 3 none 0 := ⟨q971, q68, q970, q29, ⟨by decide +kernel, by decide +kernel⟩, by decide +kernel⟩
theorem mf_X11_seen : kMV yX11_seen RX11 cX11_seen 3 (some .int) 2 := ⟨q1101, q68, q1099, q1100, ⟨by decide +kernel, by decide +kernel⟩, by decide +kernel⟩
theorem mf_X11_startWays : kMV yX11_startWays RX11 cX11_startWays 3 none 1 := ⟨q1117, q68, q1116, q48, ⟨by decide +kernel, by decide +kernel⟩, by decide +kernel⟩
theorem mf_X11_sure : kMV yX11_sure RX11 cX11_sure 2 (some .int) 1 := ⟨q1129, q68, q1127, q1128, ⟨by decide +kernel, by decide +kernel⟩, by decide +kernel⟩
theorem mf_X11_undo : kMV yX11_undo RX11 cX11_undo 2 (some .int) 0 := ⟨q1033, q68, q1031, q1032, ⟨by decide +kernel, by decide +kernel⟩, by decide +kernel⟩
theorem mf_X11_whomOf : kMS yX11_whomOf cX11_whomOf 1 (some .int) 1 := ⟨q1029, q68, q1028, ⟨by decide +kernel, by decide +kernel⟩, by decide +kernel⟩
theorem mf_X11_wipe : kMV yX11_wipe RX11 cX11_wipe 2 (some .int) 0 := ⟨q943, q68, q941, q942, ⟨by decide +kernel, by decide +kernel⟩, by decide +kernel⟩
theorem mf_X11_write : kMV yX11_write RX11 cX11_write 5 (some .int) 2 := ⟨q935, q68, q933, q934, ⟨by decide +kernel, by decide +kernel⟩, by decide +kernel⟩
theorem mf_X11_yardOf : kMS yX11_yardOf cX11_yardOf 1 (some .int) 1 := ⟨q1006, q68, q1005, ⟨by decide +kernel, by decide +kernel⟩, by decide +kernel⟩
theorem mf_X11_year : kMV yX11_year RX11 cX11_year 11 (some .int) 3 := ⟨q1139, q68, q1137, q1138, ⟨by decide +kernel, by decide +kernel⟩, by decide +kernel⟩
theorem mf_J7_fill_53178 : kMS yJ7_fill_53178 cJ7_fill_53178 4 none 2 := ⟨q330, q61, q329, ⟨by decide +kernel, by decide +kernel⟩, by decide +kernel⟩
theorem ksw {x v : Int32} {k : Int} (h : x.toInt = k) (hv : v.toInt = k) : x = v := Int32.toInt_inj.mp (h.trans hv.symm)
theorem klk_c {x v : Int32} {a o d r : Int} {l : List (Int × Int)} (h : ¬ x = v) (hv : v.toInt = a) (hl : Op.lookupswitch.offset l d x.toInt = r) : Op.lookupswitch.offset ((a, o) :: l) d x.toInt = r := by
  rw [Op.lookupswitch.offset_cons, if_neg (fun e => h (ksw e.symm hv))]
  exact hl
theorem klk_4 {x a b c e : Int32} {A B C E o1 o2 o3 o4 d : Int} (h1 : ¬ x = a) (h2 : ¬ x = b) (h3 : ¬ x = c) (h4 : ¬ x = e) (e1 : a.toInt = A := by rfl) (e2 : b.toInt = B := by rfl) (e3 : c.toInt = C := by rfl) (e4 : e.toInt = E := by rfl) : Op.lookupswitch.offset [(A, o1), (B, o2), (C, o3), (E, o4)] d x.toInt = d :=
  klk_c h1 e1 (klk_c h2 e2 (klk_c h3 e3 (klk_c h4 e4 rfl)))
theorem klk_6 {x a b c e f g : Int32} {A B C E F G o1 o2 o3 o4 o5 o6 d : Int} (h1 : ¬ x = a) (h2 : ¬ x = b) (h3 : ¬ x = c) (h4 : ¬ x = e) (h5 : ¬ x = f) (h6 : ¬ x = g) (e1 : a.toInt = A := by rfl) (e2 : b.toInt = B := by rfl) (e3 : c.toInt = C := by rfl) (e4 : e.toInt = E := by rfl) (e5 : f.toInt = F := by rfl) (e6 : g.toInt = G := by rfl) : Op.lookupswitch.offset [(A, o1), (B, o2), (C, o3), (E, o4), (F, o5), (G, o6)] d x.toInt = d :=
  klk_c h1 e1 (klk_c h2 e2 (klk_c h3 e3 (klk_c h4 e4 (klk_c h5 e5 (klk_c h6 e6 rfl)))))
def kfillI (σ : Mm) (k n : Nat) (v : Int32) : Mm := (fun a => if a = k then (fun j => if j < n then v else σ.1 a j) else σ.1 a, σ.2)
theorem kfillI_0 (σ : Mm) (k : Nat) (v : Int32) : kfillI σ k 0 v = σ := by
  unfold kfillI
  refine Prod.ext (funext fun a => ?_) rfl
  dsimp only
  split
  · funext j
    simp
  · rfl
theorem kfillI_s (σ : Mm) (k i : Nat) (v : Int32) : kwi (kfillI σ k i v) k i v = kfillI σ k (i + 1) v := by
  unfold kfillI kwi
  refine Prod.ext (funext fun a => ?_) rfl
  dsimp only
  split
  · funext j
    simp only [upd]
    by_cases hj : j = i
    · subst hj; simp
    · have e : (j < i + 1) = (j < i) := propext (by omega)
      simp [hj, e]
  · rfl
abbrev rm_J7_fill_53178 : Room := { frames := 0, cells := 0, slots := 0, locals := 0 }
set_option maxHeartbeats 4000000 in
set_option maxRecDepth 100000 in
theorem c_fillI (l : Launch) (X : KX) (σ : Mm) (k n : Nat) (v : Int32) (hk : kIsI kZC X k n) (hn : n < 2 ^ 31) : Met l yJ7_fill_53178 (.code yJ7_fill_53178 cJ7_fill_53178 4 none :: kT) rm_J7_fill_53178 (va_Pc [.ref (X.2.1 k), .int v] (kPre kZC X σ)) (va_Qv (fun σ' => σ' = kfillI σ k n v) (fun σ' t => kPre kZC X σ' t) (kA kZC X)) 0 0 (kA kZC X) := by
  refine kofV (by decide) (Nat.le_of_ble_eq_true rfl) ?_
  intro p e s m args below meth c ls Q hx hcb hml hown hts hS hW hl hret
  have hl : lv_has ls 4 [(0, .ref (X.2.1 k)), (1, .int v)] := hl
  refine lv_iconst (v := 0) (pc := 0) hx hcb dJ7_fill_53178_0 rfl ?_
  refine lv_istore_n (lv' := [(2, .int 0), (0, .ref (X.2.1 k)), (1, .int v)]) (pc := 1) hx hcb dJ7_fill_53178_1 rfl hl (by decide) rfl (fun ls hl => ?_)
  refine lv_aload_n (pc := 2) hx hcb dJ7_fill_53178_2 rfl (lv_at hl 1 rfl) ?_
  refine kalenI (pc := 3) hx hcb hS hW hk dJ7_fill_53178_3 ?_
  refine lv_istore_n (lv' := [(3, .int (nI n)), (2, .int 0), (0, .ref (X.2.1 k)), (1, .int v)]) (pc := 4) hx hcb dJ7_fill_53178_4 rfl hl (by decide) rfl (fun ls hl => ?_)
  have hL : ∀ (g i : Nat) (σ1 : Mm) (H : Heap) (locs : List Loc) (ls : Array Slot), i ≤ n → n < i + g → σ1 = kfillI σ k i v → kW kZC X (kA kZC X) s σ1 H locs → lv_has ls 4 [(3, .int (nI n)), (2, .int (nI i)), (0, .ref (X.2.1 k)), (1, .int v)] → W p l e rm_J7_fill_53178 s m args below meth c H locs 0 0 Q (F0 m 5 ls []) := by
    intro g
    induction g with
    | zero => intro i σ1 H locs ls h1 h2; omega
    | succ g ih =>
      intro i σ1 H locs ls h1 h2 e1 hW hl
      refine lv_iload_n (pc := 5) hx hcb dJ7_fill_53178_5 rfl (lv_at hl 1 rfl) ?_
      refine lv_iload_n (pc := 6) hx hcb dJ7_fill_53178_6 rfl (lv_at hl 0 rfl) ?_
      refine lv_icmp_ge (tgt := 20) (pc := 7) hx hcb dJ7_fill_53178_7 (by decide) (fun c1 => ?_) (fun c1 => ?_)
      · have : i = n := by
          rcases Nat.lt_or_ge i n with q | q
          · exact absurd c1 (nI_ge q hn)
          · omega
        subst this
        exact hret _ _ _ _ _ e1 hW dJ7_fill_53178_20
      · have hlt : i < n := by
          rcases Nat.lt_or_ge i n with q | q
          · exact q
          · exact absurd (nI_le q (by omega)) c1
        refine lv_aload_n (pc := 10) hx hcb dJ7_fill_53178_10 rfl (lv_at hl 2 rfl) ?_
        refine lv_iload_n (pc := 11) hx hcb dJ7_fill_53178_11 rfl (lv_at hl 1 rfl) ?_
        refine lv_iload_n (pc := 12) hx hcb dJ7_fill_53178_12 rfl (lv_at hl 3 rfl) ?_
        refine kiast i (pc := 13) hx hcb hS hW hk (nI_clamp (by omega)) (vp_in_nI hlt hn) dJ7_fill_53178_13 (fun σ2 H locs e2 hW => ?_)
        refine lv_iinc (v := nI (i + 1)) (lv' := [(2, .int (nI (i + 1))), (3, .int (nI n)), (0, .ref (X.2.1 k)), (1, .int v)]) (pc := 14) hx hcb dJ7_fill_53178_14 hl (k := 1) rfl (nI_1 i) (by decide) rfl (fun ls hl => ?_)
        refine lv_goto (tgt := 5) (pc := 17) hx hcb dJ7_fill_53178_17 (by decide) ?_
        exact ih (i + 1) σ2 _ _ _ hlt (by omega) (by rw [e2, e1, kfillI_s]) hW (lv_sub hl [1, 0, 2, 3] rfl)
  exact hL (n + 1) 0 σ _ _ _ (Nat.zero_le n) (by omega) (kfillI_0 σ k v).symm hW (lv_sub hl [0, 1, 2, 3] rfl)
def kfillJ (σ : Mm) (k n : Nat) (v : Int64) : Mm := (σ.1, fun a => if a = k then (fun j => if j < n then v else σ.2.1 a j) else σ.2.1 a, σ.2.2)
theorem kfillJ_0 (σ : Mm) (k : Nat) (v : Int64) : kfillJ σ k 0 v = σ := by
  unfold kfillJ
  refine Prod.ext rfl (Prod.ext (funext fun a => ?_) rfl)
  dsimp only
  split
  · funext j
    simp
  · rfl
theorem kfillJ_s (σ : Mm) (k i : Nat) (v : Int64) : kwl (kfillJ σ k i v) k i v = kfillJ σ k (i + 1) v := by
  unfold kfillJ kwl
  refine Prod.ext rfl (Prod.ext (funext fun a => ?_) rfl)
  dsimp only
  split
  · funext j
    simp only [vp_updL]
    by_cases hj : j = i
    · subst hj; simp
    · have e : (j < i + 1) = (j < i) := propext (by omega)
      simp [hj, e]
  · rfl
abbrev rm_J7_fill_d0a16 : Room := { frames := 0, cells := 0, slots := 0, locals := 0 }
set_option maxHeartbeats 4000000 in
set_option maxRecDepth 100000 in
theorem c_fillJ (l : Launch) (X : KX) (σ : Mm) (k n : Nat) (v : Int64) (hk : kIsJ kZC X k n) (hn : n < 2 ^ 31) : Met l yJ7_fill_d0a16 (.code yJ7_fill_d0a16 cJ7_fill_d0a16 5 none :: kT) rm_J7_fill_d0a16 (va_Pc [.ref (X.2.1 k), .long v] (kPre kZC X σ)) (va_Qv (fun σ' => σ' = kfillJ σ k n v) (fun σ' t => kPre kZC X σ' t) (kA kZC X)) 0 0 (kA kZC X) := by
  refine kofV (by decide) (Nat.le_of_ble_eq_true rfl) ?_
  intro p e s m args below meth c ls Q hx hcb hml hown hts hS hW hl hret
  have hl : lv_has ls 5 [(0, .ref (X.2.1 k)), (1, .long v)] := hl
  refine lv_iconst (v := 0) (pc := 0) hx hcb dJ7_fill_d0a16_0 rfl ?_
  refine lv_istore_n (lv' := [(3, .int 0), (0, .ref (X.2.1 k)), (1, .long v)]) (pc := 1) hx hcb dJ7_fill_d0a16_1 rfl hl (by decide) rfl (fun ls hl => ?_)
  refine lv_aload_n (pc := 2) hx hcb dJ7_fill_d0a16_2 rfl (lv_at hl 1 rfl) ?_
  refine kalenJ (pc := 3) hx hcb hS hW hk dJ7_fill_d0a16_3 ?_
  refine lv_istore (lv' := [(4, .int (nI n)), (3, .int 0), (0, .ref (X.2.1 k)), (1, .long v)]) (pc := 4) hx hcb dJ7_fill_d0a16_4 hl (by decide) rfl (fun ls hl => ?_)
  have hL : ∀ (g i : Nat) (σ1 : Mm) (H : Heap) (locs : List Loc) (ls : Array Slot), i ≤ n → n < i + g → σ1 = kfillJ σ k i v → kW kZC X (kA kZC X) s σ1 H locs → lv_has ls 5 [(4, .int (nI n)), (3, .int (nI i)), (0, .ref (X.2.1 k)), (1, .long v)] → W p l e rm_J7_fill_d0a16 s m args below meth c H locs 0 0 Q (F0 m 6 ls []) := by
    intro g
    induction g with
    | zero => intro i σ1 H locs ls h1 h2; omega
    | succ g ih =>
      intro i σ1 H locs ls h1 h2 e1 hW hl
      refine lv_iload_n (pc := 6) hx hcb dJ7_fill_d0a16_6 rfl (lv_at hl 1 rfl) ?_
      refine lv_iload (pc := 7) hx hcb dJ7_fill_d0a16_7 (lv_at hl 0 rfl) ?_
      refine lv_icmp_ge (tgt := 22) (pc := 9) hx hcb dJ7_fill_d0a16_9 (by decide) (fun c1 => ?_) (fun c1 => ?_)
      · have : i = n := by
          rcases Nat.lt_or_ge i n with q | q
          · exact absurd c1 (nI_ge q hn)
          · omega
        subst this
        exact hret _ _ _ _ _ e1 hW dJ7_fill_d0a16_22
      · have hlt : i < n := by
          rcases Nat.lt_or_ge i n with q | q
          · exact q
          · exact absurd (nI_le q (by omega)) c1
        refine lv_aload_n (pc := 12) hx hcb dJ7_fill_d0a16_12 rfl (lv_at hl 2 rfl) ?_
        refine lv_iload_n (pc := 13) hx hcb dJ7_fill_d0a16_13 rfl (lv_at hl 1 rfl) ?_
        refine lv_lload_n (pc := 14) hx hcb dJ7_fill_d0a16_14 rfl (lv_at hl 3 rfl) ?_
        refine klast i (pc := 15) hx hcb hS hW hk (nI_clamp (by omega)) (vp_in_nI hlt hn) dJ7_fill_d0a16_15 (fun σ2 H locs e2 hW => ?_)
        refine lv_iinc (v := nI (i + 1)) (lv' := [(3, .int (nI (i + 1))), (4, .int (nI n)), (0, .ref (X.2.1 k)), (1, .long v)]) (pc := 16) hx hcb dJ7_fill_d0a16_16 hl (k := 1) rfl (nI_1 i) (by decide) rfl (fun ls hl => ?_)
        refine lv_goto (tgt := 6) (pc := 19) hx hcb dJ7_fill_d0a16_19 (by decide) ?_
        exact ih (i + 1) σ2 _ _ _ hlt (by omega) (by rw [e2, e1, kfillJ_s]) hW (lv_sub hl [1, 0, 2, 3] rfl)
  exact hL (n + 1) 0 σ _ _ _ (Nat.zero_le n) (by omega) (kfillJ_0 σ k v).symm hW (lv_sub hl [0, 1, 2, 3] rfl)
end
section
def wp_X10_yardOf (x0 : Int32) (Φ : Int32 → Prop) : Prop := Φ (x0 - x0 / 8 * 8)
def wp_X10_followedIn (x0 : Int32) (Φ : Int32 → Prop) : Prop := Φ (((x0 / 8) - (x0 / 8) / 6 * 6) - 1)
def wp_X10_ageIn (x0 : Int32) (Φ : Int32 → Prop) : Prop := Φ (x0 / 48)
def wp_X10_packed (x0 : Int32) (x1 : Int32) (x2 : Int32) (Φ : Int32 → Prop) : Prop := Φ (((((x2 * 6) + x1) + 1) * 8) + x0)
def wp_X1_yardAt (σ : Mm) (b0 : Nat) (x1 : Int32) (x2 : Int32) (Φ : Int32 → Prop) : Prop := (((x1 < 0 → Φ 0) ∧ (¬ (x1 < 0) → ((((σ.1 b0 6) ≤ x1 → Φ 0) ∧ (¬ ((σ.1 b0 6) ≤ x1) → (((0 ≤ x2 → ((0 ≤ x1 ∧ x1 < 5) ∧ ∀ x3_2 : Int32, x3_2 = (σ.1 (b0 + 5) (x1.toNatClampNeg)) → ((1 ≤ x3_2 → ((¬ x3_2 = 0) ∧ (0 ≤ ((x1 * 12) + (x2 - x2 / x3_2 * x3_2)) ∧ ((x1 * 12) + (x2 - x2 / x3_2 * x3_2)) < 60) ∧ Φ (σ.1 (b0 + 4) (((x1 * 12) + (x2 - x2 / x3_2 * x3_2)).toNatClampNeg)))) ∧ (¬ (1 ≤ x3_2) → Φ 0)))) ∧ (¬ (0 ≤ x2) → Φ 0)))))))))
def wp_X1_towards (σ : Mm) (b0 : Nat) (x1 : Int32) (x2 : Int32) (Φ : Int32 → Prop) : Prop := (((x1 < 0 → Φ x1) ∧ (¬ (x1 < 0) → (((8 ≤ x1 → Φ x1) ∧ (¬ (8 ≤ x1) → (((x2 < 0 → Φ x1) ∧ (¬ (x2 < 0) → (((x2 < 8 → ((0 ≤ ((x1 * 8) + x2) ∧ ((x1 * 8) + x2) < 64) ∧ Φ (σ.1 (b0 + 2) (((x1 * 8) + x2).toNatClampNeg)))) ∧ (¬ (x2 < 8) → Φ x1))))))))))))
def wp_X1_onward (σ : Mm) (b0 : Nat) (x1 : Int32) (x2 : Int32) (Φ : Int32 → Prop) : Prop := (wp_X10_yardOf x1 (fun r2 => wp_X10_followedIn x1 (fun r4 => ((¬ r4 = (-1) → (∃ K36 : Int32 → Prop, (∀ (v5 : Int32), K36 v5 → (∃ K61 : Prop, (K61 → (wp_X1_yardAt σ b0 r4 x2 (fun r7 => wp_X1_towards σ b0 r2 r7 (fun r9 => wp_X10_packed r9 r4 v5 (fun r11 => Φ r11))))) ∧ (((σ.1 b0 7) ≤ 0 → K61) ∧ (¬ ((σ.1 b0 7) ≤ 0) → (((v5 < (σ.1 b0 7) → K61) ∧ (¬ (v5 < (σ.1 b0 7)) → (wp_X10_packed r2 (-1) 0 (fun r13 => Φ r13))))))))) ∧ (((σ.1 b0 7) ≤ 0 → K36 0) ∧ (¬ ((σ.1 b0 7) ≤ 0) → (wp_X10_ageIn x1 (fun r15 => K36 (r15 + 1))))))) ∧ (r4 = (-1) → Φ x1)))))
def wp_X6_isOne (x0 : Int32) (x1 : Int32) (Φ : Int32 → Prop) : Prop := (((x0 < 0 → Φ 0) ∧ (¬ (x0 < 0) → (((12 < x0 → Φ 0) ∧ (¬ (12 < x0) → (((x1 < 0 → Φ 0) ∧ (¬ (x1 < 0) → (((960 ≤ x1 → Φ 0) ∧ (¬ (960 ≤ x1) → Φ 1))))))))))))
def wp_X6_add (σ : Mm) (x1 : Int32) (x2 : Int32) (Φ : Mm → Prop) : Prop := (wp_X6_isOne x1 x2 (fun r2 => ((r2 = 0 → Φ σ) ∧ (¬ (r2 = 0) → ((0 ≤ ((x1 * 30) + (x2 / 32)) ∧ ((x1 * 30) + (x2 / 32)) < 390) ∧ (0 ≤ ((x1 * 30) + (x2 / 32)) ∧ ((x1 * 30) + (x2 / 32)) < 390) ∧ ∀ σ5 : Mm, σ5 = kwi σ 40 (((x1 * 30) + (x2 / 32)).toNatClampNeg) ((σ.1 40 (((x1 * 30) + (x2 / 32)).toNatClampNeg)) ||| (1 <<< ((x2 - x2 / 32 * 32) &&& 31))) → Φ σ5)))))
def wp_X1_persons (σ : Mm) (b0 : Nat) (Φ : Int32 → Prop) : Prop := Φ (σ.1 b0 6)
def wp_X1_canFeed (σ : Mm) (b0 : Nat) (x1 : Int32) (x2 : Int32) (x3 : Int32) (Φ : Int32 → Prop) : Prop := (((x1 < 0 → Φ 0) ∧ (¬ (x1 < 0) → ((((σ.1 b0 6) ≤ x1 → Φ 0) ∧ (¬ ((σ.1 b0 6) ≤ x1) → (wp_X1_yardAt σ b0 x1 x3 (fun r2 => wp_X10_yardOf x2 (fun r4 => ((¬ r2 = r4 → Φ 0) ∧ (r2 = r4 → Φ 1)))))))))))
def wp_X10_fedState (x0 : Int32) (x1 : Int32) (Φ : Int32 → Prop) : Prop := (wp_X10_yardOf x0 (fun r2 => wp_X10_packed r2 x1 0 (fun r4 => Φ r4)))
def wp_X0_addNext_L22 (b1 : Nat) (x2 : Int32) (x3 : Int32) (x4 : Int32) (x5 : Int32) (Φ : Mm → Prop) : Nat → Mm → Int32 → Prop
  | 0, _, _ => False
  | n + 1, σ4, x6_5 => (wp_X1_persons σ4 b1 (fun r7 => ((r7 ≤ x6_5 → Φ σ4) ∧ (¬ (r7 ≤ x6_5) → (∃ K77 : Mm → Prop, (∀ (σ8 : Mm), K77 σ8 → wp_X0_addNext_L22 b1 x2 x3 x4 x5 Φ n σ8 (x6_5 + 1)) ∧ ((((x5 >>> (x6_5 &&& 31)) &&& 1) = 0 → K77 σ4) ∧ (¬ (((x5 >>> (x6_5 &&& 31)) &&& 1) = 0) → (wp_X1_canFeed σ4 b1 x6_5 x2 x4 (fun r10 => ((r10 = 0 → K77 σ4) ∧ (¬ (r10 = 0) → (wp_X10_fedState x2 x6_5 (fun r12 => wp_X1_onward σ4 b1 r12 (x4 + 1) (fun r14 => wp_X6_add σ4 (x3 + 1) r14 (fun σ15 => K77 σ15)))))))))))))))
def wp_X0_addNext (σ : Mm) (b1 : Nat) (x2 : Int32) (x3 : Int32) (x4 : Int32) (x5 : Int32) (Φ : Mm → Prop) : Prop := (wp_X1_onward σ b1 x2 (x4 + 1) (fun r2 => wp_X6_add σ (x3 + 1) r2 (fun σ3 => (∃ n : Nat, wp_X0_addNext_L22 b1 x2 x3 x4 x5 Φ n σ3 0))))
def wp_X6_has (σ : Mm) (x1 : Int32) (x2 : Int32) (Φ : Int32 → Prop) : Prop := (wp_X6_isOne x1 x2 (fun r2 => ((r2 = 0 → Φ 0) ∧ (¬ (r2 = 0) → ((0 ≤ ((x1 * 30) + (x2 / 32)) ∧ ((x1 * 30) + (x2 / 32)) < 390) ∧ ((((((σ.1 40 (((x1 * 30) + (x2 / 32)).toNatClampNeg)).toUInt32 >>> ((x2 - x2 / 32 * 32).toUInt32 &&& Int32.toUInt32 31)).toInt32) &&& 1) = 0 → Φ 0) ∧ (¬ (((((σ.1 40 (((x1 * 30) + (x2 / 32)).toNatClampNeg)).toUInt32 >>> ((x2 - x2 / 32 * 32).toUInt32 &&& Int32.toUInt32 31)).toInt32) &&& 1) = 0) → Φ 1)))))))
def wp_X0_choice_L29 (b1 : Nat) (x2 : Int32) (x3 : Int32) (x4 : Int32) (x5 : Int32) (x6 : Int32) (σ : Mm) (Φ : Int32 → Prop) : Nat → Int32 → Prop
  | 0, _ => False
  | n + 1, x7_5 => (wp_X1_persons σ b1 (fun r7 => ((r7 ≤ x7_5 → Φ (-2)) ∧ (¬ (r7 ≤ x7_5) → (∃ K92 : Prop, (K92 → wp_X0_choice_L29 b1 x2 x3 x4 x5 x6 σ Φ n (x7_5 + 1)) ∧ ((((x5 >>> (x7_5 &&& 31)) &&& 1) = 0 → K92) ∧ (¬ (((x5 >>> (x7_5 &&& 31)) &&& 1) = 0) → (wp_X1_canFeed σ b1 x7_5 x2 x4 (fun r9 => ((r9 = 0 → K92) ∧ (¬ (r9 = 0) → (wp_X10_fedState x2 x7_5 (fun r11 => wp_X1_onward σ b1 r11 (x4 + 1) (fun r13 => wp_X6_has σ (x3 + 1) r13 (fun r15 => ((¬ r15 = x6 → K92) ∧ (r15 = x6 → Φ x7_5)))))))))))))))))
def wp_X0_choice (σ : Mm) (b1 : Nat) (x2 : Int32) (x3 : Int32) (x4 : Int32) (x5 : Int32) (x6 : Int32) (Φ : Int32 → Prop) : Prop := (wp_X1_onward σ b1 x2 (x4 + 1) (fun r2 => wp_X6_has σ (x3 + 1) r2 (fun r4 => ((¬ r4 = x6 → (∃ n : Nat, wp_X0_choice_L29 b1 x2 x3 x4 x5 x6 σ Φ n 0)) ∧ (r4 = x6 → Φ (-1))))))
def wp_X1_states (σ : Mm) (b0 : Nat) (Φ : Int32 → Prop) : Prop := Φ (((if σ.1 b0 7 < 1 then 1 else σ.1 b0 7) * 6) * 8)
def wp_X6_remove (σ : Mm) (x1 : Int32) (x2 : Int32) (Φ : Mm → Prop) : Prop := (wp_X6_isOne x1 x2 (fun r2 => ((r2 = 0 → Φ σ) ∧ (¬ (r2 = 0) → ((0 ≤ ((x1 * 30) + (x2 / 32)) ∧ ((x1 * 30) + (x2 / 32)) < 390) ∧ (0 ≤ ((x1 * 30) + (x2 / 32)) ∧ ((x1 * 30) + (x2 / 32)) < 390) ∧ ∀ σ5 : Mm, σ5 = kwi σ 40 (((x1 * 30) + (x2 / 32)).toNatClampNeg) ((σ.1 40 (((x1 * 30) + (x2 / 32)).toNatClampNeg)) &&& ((1 <<< ((x2 - x2 / 32 * 32) &&& 31)) ^^^ (-1))) → Φ σ5)))))
def wp_X0_goBack_L16 (b1 : Nat) (x2 : Int32) (x3 : Int32) (x4 : Int32) (Φ : Mm → Prop) (v1 : Int32) : Nat → Mm → Int32 → Prop
  | 0, _, _ => False
  | n + 1, σ2, x6_3 => (wp_X1_states σ2 b1 (fun r5 => ((r5 ≤ x6_3 → Φ σ2) ∧ (¬ (r5 ≤ x6_3) → (wp_X6_has σ2 x2 x6_3 (fun r7 => ∃ K80 : Mm → Prop, (∀ (σ8 : Mm), K80 σ8 → wp_X0_goBack_L16 b1 x2 x3 x4 Φ v1 n σ8 (x6_3 + 1)) ∧ ((r7 = 0 → K80 σ2) ∧ (¬ (r7 = 0) → (wp_X0_choice σ2 b1 x6_3 x2 x3 x4 v1 (fun r10 => ∃ K61 : Int32 → Prop, (∀ (v11 : Int32), K61 v11 → (((v11 = v1 → K80 σ2) ∧ (¬ (v11 = v1) → (wp_X6_remove σ2 x2 x6_3 (fun σ12 => K80 σ12)))))) ∧ ((r10 = (-2) → K61 0) ∧ (¬ (r10 = (-2)) → K61 1))))))))))))
def wp_X0_goBack (σ : Mm) (b1 : Nat) (x2 : Int32) (x3 : Int32) (x4 : Int32) (Φ : Mm → Prop) : Prop := (∃ K11 : Int32 → Prop, (∀ (v1 : Int32), K11 v1 → (∃ n : Nat, wp_X0_goBack_L16 b1 x2 x3 x4 Φ v1 n σ 0)) ∧ ((¬ (x2 - x2 / 2 * 2) = 0 → K11 0) ∧ ((x2 - x2 / 2 * 2) = 0 → K11 1)))
def wp_X0_goForth_L3 (b1 : Nat) (x2 : Int32) (x3 : Int32) (x4 : Int32) (Φ : Mm → Prop) : Nat → Mm → Int32 → Prop
  | 0, _, _ => False
  | n + 1, σ1, x5_2 => (wp_X1_states σ1 b1 (fun r4 => ((r4 ≤ x5_2 → Φ σ1) ∧ (¬ (r4 ≤ x5_2) → (wp_X6_has σ1 x2 x5_2 (fun r6 => ∃ K36 : Mm → Prop, (∀ (σ7 : Mm), K36 σ7 → wp_X0_goForth_L3 b1 x2 x3 x4 Φ n σ7 (x5_2 + 1)) ∧ ((r6 = 0 → K36 σ1) ∧ (¬ (r6 = 0) → (wp_X0_addNext σ1 b1 x5_2 x2 x3 x4 (fun σ8 => K36 σ8))))))))))
def wp_X0_goForth (σ : Mm) (b1 : Nat) (x2 : Int32) (x3 : Int32) (x4 : Int32) (Φ : Mm → Prop) : Prop := (∃ n : Nat, wp_X0_goForth_L3 b1 x2 x3 x4 Φ n σ 0)
def wp_X0_leaveThoseAt_L3 (b1 : Nat) (x2 : Int32) (x3 : Int32) (Φ : Mm → Prop) : Nat → Mm → Int32 → Prop
  | 0, _, _ => False
  | n + 1, σ1, x4_2 => (wp_X1_states σ1 b1 (fun r4 => ((r4 ≤ x4_2 → Φ σ1) ∧ (¬ (r4 ≤ x4_2) → (wp_X10_yardOf x4_2 (fun r6 => ∃ K31 : Mm → Prop, (∀ (σ7 : Mm), K31 σ7 → wp_X0_leaveThoseAt_L3 b1 x2 x3 Φ n σ7 (x4_2 + 1)) ∧ ((r6 = x3 → K31 σ1) ∧ (¬ (r6 = x3) → (wp_X6_remove σ1 x2 x4_2 (fun σ8 => K31 σ8))))))))))
def wp_X0_leaveThoseAt (σ : Mm) (b1 : Nat) (x2 : Int32) (x3 : Int32) (Φ : Mm → Prop) : Prop := (∃ n : Nat, wp_X0_leaveThoseAt_L3 b1 x2 x3 Φ n σ 0)
def wp_X1_everybody (σ : Mm) (b0 : Nat) (Φ : Int32 → Prop) : Prop := Φ ((1 <<< ((σ.1 b0 6) &&& 31)) - 1)
def wp_X0_moversIn (σ : Mm) (b0 : Nat) (x1 : Int32) (x2 : Int32) (Φ : Int32 → Prop) : Prop := (((¬ (x1 - x1 / 2 * 2) = 0 → (wp_X1_everybody σ b0 (fun r2 => Φ (r2 &&& (x2 ^^^ (-1)))))) ∧ ((x1 - x1 / 2 * 2) = 0 → Φ x2)))
def wp_X6_clear (σ : Mm)  (Φ : Mm → Prop) : Prop := (∀ σ1 : Mm, σ1 = kfillI σ 40 390 0 → Φ σ1)
def wp_X0_opening_L69 (b1 : Nat) (x5 : Int32) (K102 : Mm → Prop) : Nat → Mm → Int32 → Prop
  | 0, _, _ => False
  | n + 1, σ9, x6_10 => (((x6_10 ≤ 0 → K102 σ9) ∧ (¬ (x6_10 ≤ 0) → (wp_X0_moversIn σ9 b1 x6_10 x5 (fun r12 => wp_X0_goBack σ9 b1 x6_10 ((σ9.1 16 0) + x6_10) r12 (fun σ13 => wp_X0_opening_L69 b1 x5 K102 n σ13 (x6_10 + (-1))))))))
def wp_X0_opening_L22 (b1 : Nat) (x3 : Int32) (x5 : Int32) (K56 : Mm → Prop) : Nat → Mm → Int32 → Prop
  | 0, _, _ => False
  | n + 1, σ14, x6_15 => (((x3 ≤ x6_15 → K56 σ14) ∧ (¬ (x3 ≤ x6_15) → (wp_X0_moversIn σ14 b1 x6_15 x5 (fun r17 => wp_X0_goForth σ14 b1 x6_15 ((σ14.1 16 0) + x6_15) r17 (fun σ18 => wp_X0_opening_L22 b1 x3 x5 K56 n σ18 (x6_15 + 1)))))))
def wp_X0_opening (σ : Mm) (b1 : Nat) (x3 : Int32) (x4 : Int32) (x5 : Int32) (Φ : Int32 → Mm → Prop) : Prop := (wp_X6_clear σ (fun σ1 => wp_X6_add σ1 0 (σ1.1 16 1) (fun σ2 => (∃ K56 : Mm → Prop, (∀ (σ3 : Mm), K56 σ3 → (wp_X0_leaveThoseAt σ3 b1 x3 x4 (fun σ4 => ∀ x6_5 : Int32, x6_5 = (x3 - 1) → (∃ K102 : Mm → Prop, (∀ (σ6 : Mm), K102 σ6 → (wp_X0_choice σ6 b1 (σ6.1 16 1) 0 (σ6.1 16 0) x5 1 (fun r8 => Φ r8 σ6))) ∧ ∃ n : Nat, wp_X0_opening_L69 b1 x5 K102 n σ4 x6_5)))) ∧ ∃ n : Nat, wp_X0_opening_L22 b1 x3 x5 K56 n σ2 0))))
def wp_X1_addToWay (σ : Mm) (b0 : Nat) (x1 : Int32) (Φ : Mm → Prop) : Prop := (((1 ≤ (σ.1 b0 6) → ((0 ≤ ((σ.1 b0 6) - 1) ∧ ((σ.1 b0 6) - 1) < 5) ∧ ∀ x2_2 : Int32, x2_2 = (σ.1 (b0 + 5) (((σ.1 b0 6) - 1).toNatClampNeg)) → ((12 ≤ x2_2 → Φ σ) ∧ (¬ (12 ≤ x2_2) → ((0 ≤ ((((σ.1 b0 6) - 1) * 12) + x2_2) ∧ ((((σ.1 b0 6) - 1) * 12) + x2_2) < 60) ∧ ∀ σ4 : Mm, σ4 = kwi σ (b0 + 4) (((((σ.1 b0 6) - 1) * 12) + x2_2).toNatClampNeg) x1 → (0 ≤ ((σ4.1 b0 6) - 1) ∧ ((σ4.1 b0 6) - 1) < 5) ∧ ∀ σ6 : Mm, σ6 = kwi σ4 (b0 + 5) (((σ4.1 b0 6) - 1).toNatClampNeg) (x2_2 + 1) → Φ σ6))))) ∧ (¬ (1 ≤ (σ.1 b0 6)) → Φ σ)))
def wp_X1_beginWay (σ : Mm) (b0 : Nat) (Φ : Int32 → Mm → Prop) : Prop := (((1 ≤ (σ.1 b0 6) → ((0 ≤ ((σ.1 b0 6) - 1) ∧ ((σ.1 b0 6) - 1) < 5) ∧ ∀ σ2 : Mm, σ2 = kwi σ (b0 + 5) (((σ.1 b0 6) - 1).toNatClampNeg) 0 → Φ 1 σ2)) ∧ (¬ (1 ≤ (σ.1 b0 6)) → Φ 0 σ)))
def wp_X1_canBeLaid_L33 (b0 : Nat) (σ : Mm) (Φ : Int32 → Prop) (x1_1 : Int32) (K69 : Prop) : Nat → Int32 → Prop
  | 0, _ => False
  | n + 1, x2_2 => ((0 ≤ x1_1 ∧ x1_1 < 5) ∧ (((σ.1 (b0 + 5) (x1_1.toNatClampNeg)) ≤ x2_2 → K69) ∧ (¬ ((σ.1 (b0 + 5) (x1_1.toNatClampNeg)) ≤ x2_2) → ((0 ≤ ((x1_1 * 12) + x2_2) ∧ ((x1_1 * 12) + x2_2) < 60) ∧ (((σ.1 (b0 + 4) (((x1_1 * 12) + x2_2).toNatClampNeg)) < (σ.1 b0 5) → wp_X1_canBeLaid_L33 b0 σ Φ x1_1 K69 n (x2_2 + 1)) ∧ (¬ ((σ.1 (b0 + 4) (((x1_1 * 12) + x2_2).toNatClampNeg)) < (σ.1 b0 5)) → Φ 0))))))
def wp_X1_canBeLaid_L23 (b0 : Nat) (σ : Mm) (Φ : Int32 → Prop) : Nat → Int32 → Prop
  | 0, _ => False
  | n + 1, x1_1 => ((((σ.1 b0 6) ≤ x1_1 → Φ 1) ∧ (¬ ((σ.1 b0 6) ≤ x1_1) → (∃ K69 : Prop, (K69 → wp_X1_canBeLaid_L23 b0 σ Φ n (x1_1 + 1)) ∧ ∃ n : Nat, wp_X1_canBeLaid_L33 b0 σ Φ x1_1 K69 n 0))))
def wp_X1_canBeLaid (σ : Mm) (b0 : Nat) (Φ : Int32 → Prop) : Prop := ((((σ.1 b0 6) < 1 → Φ 0) ∧ (¬ ((σ.1 b0 6) < 1) → ((((σ.1 b0 8) < (σ.1 b0 5) → (∃ n : Nat, wp_X1_canBeLaid_L23 b0 σ Φ n 0)) ∧ (¬ ((σ.1 b0 8) < (σ.1 b0 5)) → Φ 0))))))
def wp_X1_clear_L36 (b0 : Nat) (Φ : Mm → Prop) : Nat → Mm → Int32 → Prop
  | 0, _, _ => False
  | n + 1, σ7, x1_8 => (((8 ≤ x1_8 → Φ σ7) ∧ (¬ (8 ≤ x1_8) → ((0 ≤ ((x1_8 * 8) + x1_8) ∧ ((x1_8 * 8) + x1_8) < 64) ∧ ∀ σ10 : Mm, σ10 = kwi σ7 (b0 + 1) (((x1_8 * 8) + x1_8).toNatClampNeg) 0 → wp_X1_clear_L36 b0 Φ n σ10 (x1_8 + 1)))))
def wp_X1_clear (σ : Mm) (b0 : Nat) (Φ : Mm → Prop) : Prop := (∀ σ1 : Mm, σ1 = kwi σ b0 5 4 → ∀ σ2 : Mm, σ2 = kwi σ1 b0 6 0 → ∀ σ3 : Mm, σ3 = kwi σ2 b0 7 0 → ∀ σ4 : Mm, σ4 = kwi σ3 b0 8 0 → ∀ σ5 : Mm, σ5 = kwi σ4 b0 9 0 → ∀ σ6 : Mm, σ6 = kfillI σ5 (b0 + 1) 64 99 → (∃ n : Nat, wp_X1_clear_L36 b0 Φ n σ6 0))
def wp_X1_cost (σ : Mm) (b0 : Nat) (x1 : Int32) (Φ : Int32 → Prop) : Prop := (((x1 < 0 → Φ 0) ∧ (¬ (x1 < 0) → ((((σ.1 b0 6) ≤ x1 → Φ 0) ∧ (¬ ((σ.1 b0 6) ≤ x1) → ((0 ≤ x1 ∧ x1 < 5) ∧ Φ (σ.1 (b0 + 3) (x1.toNatClampNeg)))))))))
def wp_X1_distance (σ : Mm) (b0 : Nat) (x1 : Int32) (x2 : Int32) (Φ : Int32 → Prop) : Prop := (((x1 < 0 → Φ 99) ∧ (¬ (x1 < 0) → (((8 ≤ x1 → Φ 99) ∧ (¬ (8 ≤ x1) → (((x2 < 0 → Φ 99) ∧ (¬ (x2 < 0) → (((x2 < 8 → ((0 ≤ ((x1 * 8) + x2) ∧ ((x1 * 8) + x2) < 64) ∧ Φ (σ.1 (b0 + 1) (((x1 * 8) + x2).toNatClampNeg)))) ∧ (¬ (x2 < 8) → Φ 99))))))))))))
def wp_X1_firstState (σ : Mm) (b0 : Nat) (Φ : Int32 → Prop) : Prop := (wp_X10_packed (σ.1 b0 8) (-1) 0 (fun r2 => Φ r2))
def wp_X1_hasPerson (σ : Mm) (b0 : Nat) (x1 : Int32) (Φ : Int32 → Prop) : Prop := (((x1 < 0 → Φ 0) ∧ (¬ (x1 < 0) → ((((σ.1 b0 6) ≤ x1 → Φ 0) ∧ (¬ ((σ.1 b0 6) ≤ x1) → Φ 1))))))
def wp_X1_hasYard (σ : Mm) (b0 : Nat) (x1 : Int32) (Φ : Int32 → Prop) : Prop := (((x1 < 0 → Φ 0) ∧ (¬ (x1 < 0) → ((((σ.1 b0 5) ≤ x1 → Φ 0) ∧ (¬ ((σ.1 b0 5) ≤ x1) → Φ 1))))))
def wp_X1_lowestNearer_L18 (b0 : Nat) (x1 : Int32) (x2 : Int32) (σ : Mm) (Φ : Int32 → Prop) (r2 : Int32) : Nat → Int32 → Prop
  | 0, _ => False
  | n + 1, x4_3 => (((8 ≤ x4_3 → Φ x1) ∧ (¬ (8 ≤ x4_3) → (wp_X1_distance σ b0 x1 x4_3 (fun r5 => ∃ K52 : Prop, (K52 → wp_X1_lowestNearer_L18 b0 x1 x2 σ Φ r2 n (x4_3 + 1)) ∧ ((¬ r5 = 1 → K52) ∧ (r5 = 1 → (wp_X1_distance σ b0 x4_3 x2 (fun r7 => ((¬ r7 = (r2 - 1) → K52) ∧ (r7 = (r2 - 1) → Φ x4_3)))))))))))
def wp_X1_lowestNearer (σ : Mm) (b0 : Nat) (x1 : Int32) (x2 : Int32) (Φ : Int32 → Prop) : Prop := (wp_X1_distance σ b0 x1 x2 (fun r2 => ((¬ r2 = 99 → (∃ n : Nat, wp_X1_lowestNearer_L18 b0 x1 x2 σ Φ r2 n 0)) ∧ (r2 = 99 → Φ x1))))
def wp_X1_measure_L96 (b0 : Nat) (x1_3 : Int32) (K125 : Mm → Prop) : Nat → Mm → Int32 → Prop
  | 0, _, _ => False
  | n + 1, σ5, x2_6 => (((8 ≤ x2_6 → K125 σ5) ∧ (¬ (8 ≤ x2_6) → (wp_X1_lowestNearer σ5 b0 x1_3 x2_6 (fun r8 => (0 ≤ ((x1_3 * 8) + x2_6) ∧ ((x1_3 * 8) + x2_6) < 64) ∧ ∀ σ10 : Mm, σ10 = kwi σ5 (b0 + 2) (((x1_3 * 8) + x2_6).toNatClampNeg) r8 → wp_X1_measure_L96 b0 x1_3 K125 n σ10 (x2_6 + 1))))))
def wp_X1_measure_L88 (b0 : Nat) (Φ : Mm → Prop) : Nat → Mm → Int32 → Prop
  | 0, _, _ => False
  | n + 1, σ2, x1_3 => (((8 ≤ x1_3 → Φ σ2) ∧ (¬ (8 ≤ x1_3) → (∃ K125 : Mm → Prop, (∀ (σ4 : Mm), K125 σ4 → wp_X1_measure_L88 b0 Φ n σ4 (x1_3 + 1)) ∧ ∃ n : Nat, wp_X1_measure_L96 b0 x1_3 K125 n σ2 0))))
def wp_X1_measure_L18 (b0 : Nat) (x1_12 : Int32) (x2_15 : Int32) (K74 : Mm → Prop) : Nat → Mm → Int32 → Prop
  | 0, _, _ => False
  | n + 1, σ17, x3_18 => (((8 ≤ x3_18 → K74 σ17) ∧ (¬ (8 ≤ x3_18) → (wp_X1_distance σ17 b0 x2_15 x1_12 (fun r20 => wp_X1_distance σ17 b0 x1_12 x3_18 (fun r22 => ∀ x4_23 : Int32, x4_23 = (r20 + r22) → (0 ≤ ((x2_15 * 8) + x3_18) ∧ ((x2_15 * 8) + x3_18) < 64) ∧ ∃ K68 : Mm → Prop, (∀ (σ25 : Mm), K68 σ25 → wp_X1_measure_L18 b0 x1_12 x2_15 K74 n σ25 (x3_18 + 1)) ∧ (((σ17.1 (b0 + 1) (((x2_15 * 8) + x3_18).toNatClampNeg)) ≤ x4_23 → K68 σ17) ∧ (¬ ((σ17.1 (b0 + 1) (((x2_15 * 8) + x3_18).toNatClampNeg)) ≤ x4_23) → ((0 ≤ ((x2_15 * 8) + x3_18) ∧ ((x2_15 * 8) + x3_18) < 64) ∧ ∀ σ27 : Mm, σ27 = kwi σ17 (b0 + 1) (((x2_15 * 8) + x3_18).toNatClampNeg) x4_23 → K68 σ27)))))))))
def wp_X1_measure_L10 (b0 : Nat) (x1_12 : Int32) (K80 : Mm → Prop) : Nat → Mm → Int32 → Prop
  | 0, _, _ => False
  | n + 1, σ14, x2_15 => (((8 ≤ x2_15 → K80 σ14) ∧ (¬ (8 ≤ x2_15) → (∃ K74 : Mm → Prop, (∀ (σ16 : Mm), K74 σ16 → wp_X1_measure_L10 b0 x1_12 K80 n σ16 (x2_15 + 1)) ∧ ∃ n : Nat, wp_X1_measure_L18 b0 x1_12 x2_15 K74 n σ14 0))))
def wp_X1_measure_L2 (b0 : Nat) (K86 : Mm → Prop) : Nat → Mm → Int32 → Prop
  | 0, _, _ => False
  | n + 1, σ11, x1_12 => (((8 ≤ x1_12 → K86 σ11) ∧ (¬ (8 ≤ x1_12) → (∃ K80 : Mm → Prop, (∀ (σ13 : Mm), K80 σ13 → wp_X1_measure_L2 b0 K86 n σ13 (x1_12 + 1)) ∧ ∃ n : Nat, wp_X1_measure_L10 b0 x1_12 K80 n σ11 0))))
def wp_X1_measure (σ : Mm) (b0 : Nat) (Φ : Mm → Prop) : Prop := (∃ K86 : Mm → Prop, (∀ (σ1 : Mm), K86 σ1 → (∃ n : Nat, wp_X1_measure_L88 b0 Φ n σ1 0)) ∧ ∃ n : Nat, wp_X1_measure_L2 b0 K86 n σ 0)
def wp_X1_tellForgetting (σ : Mm) (b0 : Nat) (x1 : Int32) (Φ : Int32 → Mm → Prop) : Prop := (((x1 < 0 → Φ 0 σ) ∧ (¬ (x1 < 0) → (((x1 ≤ 20 → (∀ σ1 : Mm, σ1 = kwi σ b0 7 x1 → Φ 1 σ1)) ∧ (¬ (x1 ≤ 20) → Φ 0 σ))))))
def wp_X1_tellLane (σ : Mm) (b0 : Nat) (x1 : Int32) (x2 : Int32) (Φ : Int32 → Mm → Prop) : Prop := (wp_X1_hasYard σ b0 x1 (fun r2 => ((r2 = 0 → Φ 0 σ) ∧ (¬ (r2 = 0) → (wp_X1_hasYard σ b0 x2 (fun r4 => ((r4 = 0 → Φ 0 σ) ∧ (¬ (r4 = 0) → (((¬ x1 = x2 → ((0 ≤ ((x1 * 8) + x2) ∧ ((x1 * 8) + x2) < 64) ∧ ∀ σ6 : Mm, σ6 = kwi σ (b0 + 1) (((x1 * 8) + x2).toNatClampNeg) 1 → (0 ≤ ((x2 * 8) + x1) ∧ ((x2 * 8) + x1) < 64) ∧ ∀ σ8 : Mm, σ8 = kwi σ6 (b0 + 1) (((x2 * 8) + x1).toNatClampNeg) 1 → ∀ σ9 : Mm, σ9 = kwi σ8 b0 9 1 → Φ 1 σ9)) ∧ (x1 = x2 → Φ 0 σ)))))))))))
def wp_X1_tellPerson (σ : Mm) (b0 : Nat) (x1 : Int32) (Φ : Int32 → Mm → Prop) : Prop := (((5 ≤ (σ.1 b0 6) → Φ 0 σ) ∧ (¬ (5 ≤ (σ.1 b0 6)) → (((x1 < 0 → Φ 0 σ) ∧ (¬ (x1 < 0) → (((x1 ≤ 99 → ((0 ≤ (σ.1 b0 6) ∧ (σ.1 b0 6) < 5) ∧ ∀ σ2 : Mm, σ2 = kwi σ (b0 + 3) ((σ.1 b0 6).toNatClampNeg) x1 → (0 ≤ (σ2.1 b0 6) ∧ (σ2.1 b0 6) < 5) ∧ ∀ σ4 : Mm, σ4 = kwi σ2 (b0 + 5) ((σ2.1 b0 6).toNatClampNeg) 0 → ∀ σ5 : Mm, σ5 = kwi σ4 b0 6 ((σ4.1 b0 6) + 1) → Φ 1 σ5)) ∧ (¬ (x1 ≤ 99) → Φ 0 σ)))))))))
def wp_X1_tellStart (σ : Mm) (b0 : Nat) (x1 : Int32) (Φ : Int32 → Mm → Prop) : Prop := (((x1 < 0 → Φ 0 σ) ∧ (¬ (x1 < 0) → (((x1 < 8 → (∀ σ1 : Mm, σ1 = kwi σ b0 8 x1 → Φ 1 σ1)) ∧ (¬ (x1 < 8) → Φ 0 σ))))))
def wp_X1_tellYards (σ : Mm) (b0 : Nat) (x1 : Int32) (Φ : Int32 → Mm → Prop) : Prop := (((x1 < 2 → Φ 0 σ) ∧ (¬ (x1 < 2) → (((8 < x1 → Φ 0 σ) ∧ (¬ (8 < x1) → ((((σ.1 b0 9) = 0 → (∀ σ1 : Mm, σ1 = kwi σ b0 5 x1 → Φ 1 σ1)) ∧ (¬ ((σ.1 b0 9) = 0) → Φ 0 σ)))))))))
def wp_X1_unfed_L6 (b0 : Nat) (x2 : Int32) (x3 : Int32) (σ : Mm) (Φ : Int32 → Prop) : Nat → Int32 → Int32 → Prop
  | 0, _, _ => False
  | n + 1, x4_1, x5_2 => (((x3 < x5_2 → Φ x4_1) ∧ (¬ (x3 < x5_2) → (wp_X1_onward σ b0 x4_1 (x2 + x5_2) (fun r4 => wp_X1_unfed_L6 b0 x2 x3 σ Φ n r4 (x5_2 + 1))))))
def wp_X1_unfed (σ : Mm) (b0 : Nat) (x1 : Int32) (x2 : Int32) (x3 : Int32) (Φ : Int32 → Prop) : Prop := (∃ n : Nat, wp_X1_unfed_L6 b0 x2 x3 σ Φ n x1 1)
def wp_X1_yards (σ : Mm) (b0 : Nat) (Φ : Int32 → Prop) : Prop := Φ (σ.1 b0 5)
def wp_X2_clear_L2 (b0 : Nat) (K30 : Mm → Prop) : Nat → Mm → Int32 → Prop
  | 0, _, _ => False
  | n + 1, σ3, x1_4 => ((((σ3.1 b0 2) ≤ x1_4 → K30 σ3) ∧ (¬ ((σ3.1 b0 2) ≤ x1_4) → ((0 ≤ x1_4 ∧ x1_4 < 960) ∧ (0 ≤ (σ3.1 (b0 + 1) (x1_4.toNatClampNeg)) ∧ (σ3.1 (b0 + 1) (x1_4.toNatClampNeg)) < 960) ∧ ∀ σ7 : Mm, σ7 = kwl σ3 (b0 + 2) ((σ3.1 (b0 + 1) (x1_4.toNatClampNeg)).toNatClampNeg) (-1) → wp_X2_clear_L2 b0 K30 n σ7 (x1_4 + 1)))))
def wp_X2_clear (σ : Mm) (b0 : Nat) (Φ : Mm → Prop) : Prop := (∃ K30 : Mm → Prop, (∀ (σ1 : Mm), K30 σ1 → (∀ σ2 : Mm, σ2 = kwi σ1 b0 2 0 → Φ σ2)) ∧ ∃ n : Nat, wp_X2_clear_L2 b0 K30 n σ 0)
def wp_X2_keepThoseAt_L4 (b0 : Nat) (x1 : Int32) (K59 : Mm → Int32 → Prop) : Nat → Mm → Int32 → Int32 → Prop
  | 0, _, _, _ => False
  | n + 1, σ4, x2_5, x3_6 => ((((σ4.1 b0 2) ≤ x3_6 → K59 σ4 x2_5) ∧ (¬ ((σ4.1 b0 2) ≤ x3_6) → ((0 ≤ x3_6 ∧ x3_6 < 960) ∧ ∀ x4_8 : Int32, x4_8 = (σ4.1 (b0 + 1) (x3_6.toNatClampNeg)) → wp_X10_yardOf x4_8 (fun r10 => ∃ K53 : Mm → Int32 → Prop, (∀ (σ11 : Mm) (x2_12 : Int32), K53 σ11 x2_12 → wp_X2_keepThoseAt_L4 b0 x1 K59 n σ11 x2_12 (x3_6 + 1)) ∧ ((¬ r10 = x1 → ((0 ≤ x4_8 ∧ x4_8 < 960) ∧ ∀ σ14 : Mm, σ14 = kwl σ4 (b0 + 2) (x4_8.toNatClampNeg) (-1) → K53 σ14 x2_5)) ∧ (r10 = x1 → ((0 ≤ x2_5 ∧ x2_5 < 960) ∧ ∀ σ16 : Mm, σ16 = kwi σ4 (b0 + 1) (x2_5.toNatClampNeg) x4_8 → K53 σ16 (x2_5 + 1)))))))))
def wp_X2_keepThoseAt (σ : Mm) (b0 : Nat) (x1 : Int32) (Φ : Mm → Prop) : Prop := (∃ K59 : Mm → Int32 → Prop, (∀ (σ1 : Mm) (x2_2 : Int32), K59 σ1 x2_2 → (∀ σ3 : Mm, σ3 = kwi σ1 b0 2 x2_2 → Φ σ3)) ∧ ∃ n : Nat, wp_X2_keepThoseAt_L4 b0 x1 K59 n σ 0 0)
def wp_X2_least_L6 (b0 : Nat) (σ : Mm) (Φ : Int64 → Prop) : Nat → Int64 → Int32 → Prop
  | 0, _, _ => False
  | n + 1, x1_1, x3_2 => ((((σ.1 b0 2) ≤ x3_2 → Φ x1_1) ∧ (¬ ((σ.1 b0 2) ≤ x3_2) → (∃ K50 : Int64 → Prop, (∀ (x1_3 : Int64), K50 x1_3 → wp_X2_least_L6 b0 σ Φ n x1_3 (x3_2 + 1)) ∧ ∃ K38 : Prop, (K38 → ((0 ≤ x3_2 ∧ x3_2 < 960) ∧ (0 ≤ (σ.1 (b0 + 1) (x3_2.toNatClampNeg)) ∧ (σ.1 (b0 + 1) (x3_2.toNatClampNeg)) < 960) ∧ ∀ x1_6 : Int64, x1_6 = (σ.2.1 (b0 + 2) ((σ.1 (b0 + 1) (x3_2.toNatClampNeg)).toNatClampNeg)) → K50 x1_6)) ∧ (((lg_cmp x1_1 (-1)) = 0 → K38) ∧ (¬ ((lg_cmp x1_1 (-1)) = 0) → ((0 ≤ x3_2 ∧ x3_2 < 960) ∧ (0 ≤ (σ.1 (b0 + 1) (x3_2.toNatClampNeg)) ∧ (σ.1 (b0 + 1) (x3_2.toNatClampNeg)) < 960) ∧ ((0 ≤ (lg_cmp (σ.2.1 (b0 + 2) ((σ.1 (b0 + 1) (x3_2.toNatClampNeg)).toNatClampNeg)) x1_1) → K50 x1_1) ∧ (¬ (0 ≤ (lg_cmp (σ.2.1 (b0 + 2) ((σ.1 (b0 + 1) (x3_2.toNatClampNeg)).toNatClampNeg)) x1_1)) → K38)))))))))
def wp_X2_least (σ : Mm) (b0 : Nat) (Φ : Int64 → Prop) : Prop := (∃ n : Nat, wp_X2_least_L6 b0 σ Φ n (-1) 0)
def wp_X2_number (σ : Mm) (b0 : Nat) (x1 : Int32) (Φ : Int64 → Prop) : Prop := (((x1 < 0 → Φ 0) ∧ (¬ (x1 < 0) → ((((σ.1 b0 2) ≤ x1 → Φ 0) ∧ (¬ ((σ.1 b0 2) ≤ x1) → ((0 ≤ x1 ∧ x1 < 960) ∧ (0 ≤ (σ.1 (b0 + 1) (x1.toNatClampNeg)) ∧ (σ.1 (b0 + 1) (x1.toNatClampNeg)) < 960) ∧ Φ (σ.2.1 (b0 + 2) ((σ.1 (b0 + 1) (x1.toNatClampNeg)).toNatClampNeg)))))))))
def wp_X2_put (σ : Mm) (b0 : Nat) (x1 : Int32) (x2 : Int64) (x4 : Int32) (Φ : Mm → Prop) : Prop := (((x1 < 0 → Φ σ) ∧ (¬ (x1 < 0) → (((x1 < 960 → ((0 ≤ x1 ∧ x1 < 960) ∧ (((lg_cmp (σ.2.1 (b0 + 2) (x1.toNatClampNeg)) (-1)) = 0 → (((960 ≤ (σ.1 b0 2) → Φ σ) ∧ (¬ (960 ≤ (σ.1 b0 2)) → ((0 ≤ (σ.1 b0 2) ∧ (σ.1 b0 2) < 960) ∧ ∀ σ3 : Mm, σ3 = kwi σ (b0 + 1) ((σ.1 b0 2).toNatClampNeg) x1 → (0 ≤ x1 ∧ x1 < 960) ∧ ∀ σ5 : Mm, σ5 = kwl σ3 (b0 + 2) (x1.toNatClampNeg) x2 → ∀ σ6 : Mm, σ6 = kwi σ5 b0 2 ((σ5.1 b0 2) + 1) → Φ σ6))))) ∧ (¬ ((lg_cmp (σ.2.1 (b0 + 2) (x1.toNatClampNeg)) (-1)) = 0) → (∃ K56 : Int64 → Prop, (∀ (v7 : Int64), K56 v7 → ((0 ≤ x1 ∧ x1 < 960) ∧ ∀ σ9 : Mm, σ9 = kwl σ (b0 + 2) (x1.toNatClampNeg) v7 → Φ σ9)) ∧ ((x4 = 0 → ((0 ≤ x1 ∧ x1 < 960) ∧ K56 ((σ.2.1 (b0 + 2) (x1.toNatClampNeg)) + x2))) ∧ (¬ (x4 = 0) → ((0 ≤ x1 ∧ x1 < 960) ∧ K56 (if x2 < σ.2.1 (b0 + 2) (x1.toNatClampNeg) then x2 else σ.2.1 (b0 + 2) (x1.toNatClampNeg)))))))))) ∧ (¬ (x1 < 960) → Φ σ))))))
def wp_X2_size (σ : Mm) (b0 : Nat) (Φ : Int32 → Prop) : Prop := Φ (σ.1 b0 2)
def wp_X2_state (σ : Mm) (b0 : Nat) (x1 : Int32) (Φ : Int32 → Prop) : Prop := (((x1 < 0 → Φ 0) ∧ (¬ (x1 < 0) → ((((σ.1 b0 2) ≤ x1 → Φ 0) ∧ (¬ ((σ.1 b0 2) ≤ x1) → ((0 ≤ x1 ∧ x1 < 960) ∧ Φ (σ.1 (b0 + 1) (x1.toNatClampNeg)))))))))
def wp_X2_sum_L4 (b0 : Nat) (σ : Mm) (Φ : Int64 → Prop) : Nat → Int64 → Int32 → Prop
  | 0, _, _ => False
  | n + 1, x1_1, x3_2 => ((((σ.1 b0 2) ≤ x3_2 → Φ x1_1) ∧ (¬ ((σ.1 b0 2) ≤ x3_2) → ((0 ≤ x3_2 ∧ x3_2 < 960) ∧ (0 ≤ (σ.1 (b0 + 1) (x3_2.toNatClampNeg)) ∧ (σ.1 (b0 + 1) (x3_2.toNatClampNeg)) < 960) ∧ ∀ x1_5 : Int64, x1_5 = (x1_1 + (σ.2.1 (b0 + 2) ((σ.1 (b0 + 1) (x3_2.toNatClampNeg)).toNatClampNeg))) → wp_X2_sum_L4 b0 σ Φ n x1_5 (x3_2 + 1)))))
def wp_X2_sum (σ : Mm) (b0 : Nat) (Φ : Int64 → Prop) : Prop := (∃ n : Nat, wp_X2_sum_L4 b0 σ Φ n 0 0)
def wp_X3_begin (σ : Mm) (b1 : Nat) (Φ : Mm → Prop) : Prop := (∀ σ1 : Mm, σ1 = kwi σ 16 0 0 → wp_X1_firstState σ1 b1 (fun r3 => ∀ σ4 : Mm, σ4 = kwi σ1 16 1 r3 → ∀ σ5 : Mm, σ5 = kwi σ4 16 2 0 → Φ σ5))
def wp_X4_clear (σ : Mm) (b0 : Nat) (Φ : Mm → Prop) : Prop := (∀ σ1 : Mm, σ1 = kwi σ b0 3 0 → Φ σ1)
def wp_X4_dropLowest_L2 (b0 : Nat) (K56 : Mm → Prop) : Nat → Mm → Int32 → Prop
  | 0, _, _ => False
  | n + 1, σ3, x1_4 => (((8 ≤ x1_4 → K56 σ3) ∧ (¬ (8 ≤ x1_4) → ((0 ≤ x1_4 ∧ x1_4 < 8) ∧ (0 ≤ (x1_4 - 1) ∧ (x1_4 - 1) < 8) ∧ ∀ σ7 : Mm, σ7 = kwi σ3 (b0 + 1) ((x1_4 - 1).toNatClampNeg) (σ3.1 (b0 + 1) (x1_4.toNatClampNeg)) → (0 ≤ x1_4 ∧ x1_4 < 8) ∧ (0 ≤ (x1_4 - 1) ∧ (x1_4 - 1) < 8) ∧ ∀ σ10 : Mm, σ10 = kwi σ7 (b0 + 2) ((x1_4 - 1).toNatClampNeg) (σ7.1 (b0 + 2) (x1_4.toNatClampNeg)) → (0 ≤ x1_4 ∧ x1_4 < 8) ∧ (0 ≤ (x1_4 - 1) ∧ (x1_4 - 1) < 8) ∧ ∀ σ13 : Mm, σ13 = kwi σ10 (b0 + 3) ((x1_4 - 1).toNatClampNeg) (σ10.1 (b0 + 3) (x1_4.toNatClampNeg)) → wp_X4_dropLowest_L2 b0 K56 n σ13 (x1_4 + 1)))))
def wp_X4_dropLowest (σ : Mm) (b0 : Nat) (Φ : Mm → Prop) : Prop := (∃ K56 : Mm → Prop, (∀ (σ1 : Mm), K56 σ1 → (∀ σ2 : Mm, σ2 = kwi σ1 b0 3 7 → Φ σ2)) ∧ ∃ n : Nat, wp_X4_dropLowest_L2 b0 K56 n σ 1)
def wp_X4_pop (σ : Mm) (b0 : Nat) (Φ : Mm → Prop) : Prop := ((((σ.1 b0 3) ≤ 0 → Φ σ) ∧ (¬ ((σ.1 b0 3) ≤ 0) → (∀ σ1 : Mm, σ1 = kwi σ b0 3 ((σ.1 b0 3) - 1) → (0 ≤ (σ1.1 b0 3) ∧ (σ1.1 b0 3) < 8) ∧ ∀ σ3 : Mm, σ3 = kwi σ1 16 0 (σ1.1 (b0 + 1) ((σ1.1 b0 3).toNatClampNeg)) → (0 ≤ (σ3.1 b0 3) ∧ (σ3.1 b0 3) < 8) ∧ ∀ σ5 : Mm, σ5 = kwi σ3 16 1 (σ3.1 (b0 + 2) ((σ3.1 b0 3).toNatClampNeg)) → (0 ≤ (σ5.1 b0 3) ∧ (σ5.1 b0 3) < 8) ∧ ∀ σ7 : Mm, σ7 = kwi σ5 16 2 (σ5.1 (b0 + 3) ((σ5.1 b0 3).toNatClampNeg)) → Φ σ7))))
def wp_X4_push (σ : Mm) (b0 : Nat) (Φ : Mm → Prop) : Prop := (∃ K13 : Mm → Prop, (∀ (σ1 : Mm), K13 σ1 → ((0 ≤ (σ1.1 b0 3) ∧ (σ1.1 b0 3) < 8) ∧ ∀ σ3 : Mm, σ3 = kwi σ1 (b0 + 1) ((σ1.1 b0 3).toNatClampNeg) (σ1.1 16 0) → (0 ≤ (σ3.1 b0 3) ∧ (σ3.1 b0 3) < 8) ∧ ∀ σ5 : Mm, σ5 = kwi σ3 (b0 + 2) ((σ3.1 b0 3).toNatClampNeg) (σ3.1 16 1) → (0 ≤ (σ5.1 b0 3) ∧ (σ5.1 b0 3) < 8) ∧ ∀ σ7 : Mm, σ7 = kwi σ5 (b0 + 3) ((σ5.1 b0 3).toNatClampNeg) (σ5.1 16 2) → ∀ σ8 : Mm, σ8 = kwi σ7 b0 3 ((σ7.1 b0 3) + 1) → Φ σ8)) ∧ (((σ.1 b0 3) < 8 → K13 σ) ∧ (¬ ((σ.1 b0 3) < 8) → (wp_X4_dropLowest σ b0 (fun σ9 => K13 σ9)))))
def wp_X4_size (σ : Mm) (b0 : Nat) (Φ : Int32 → Prop) : Prop := Φ (σ.1 b0 3)
def wp_X8_byteAt (σ : Mm) (x1 : Int32) (Φ : Int32 → Prop) : Prop := (((x1 < 0 → Φ (-1)) ∧ (¬ (x1 < 0) → ((((σ.1 1 1) ≤ x1 → Φ (-1)) ∧ (¬ ((σ.1 1 1) ≤ x1) → ((0 ≤ x1 ∧ x1 < 300) ∧ Φ ((σ.1 2 (x1.toNatClampNeg)) &&& 255))))))))
def wp_X5_figureHere (σ : Mm)  (Φ : Int32 → Prop) : Prop := (wp_X8_byteAt σ (σ.1 3 1) (fun r2 => ((r2 < 48 → Φ (-1)) ∧ (¬ (r2 < 48) → (((57 < r2 → Φ (-1)) ∧ (¬ (57 < r2) → Φ (r2 - 48))))))))
def wp_X8_length (σ : Mm)  (Φ : Int32 → Prop) : Prop := Φ (σ.1 1 1)
def wp_X5_readNumber (σ : Mm)  (Φ : Int32 → Mm → Prop) : Prop := (wp_X5_figureHere σ (fun r2 => ((0 ≤ r2 → (∀ σ3 : Mm, σ3 = kwi σ 3 1 ((σ.1 3 1) + 1) → wp_X5_figureHere σ3 (fun r5 => ((0 ≤ r5 → (∀ σ6 : Mm, σ6 = kwi σ3 3 1 ((σ3.1 3 1) + 1) → Φ ((r2 * 10) + r5) σ6)) ∧ (¬ (0 ≤ r5) → Φ r2 σ3))))) ∧ (¬ (0 ≤ r2) → Φ (-1) σ))))
def wp_X5_takes (σ : Mm) (x1 : Int32) (Φ : Int32 → Mm → Prop) : Prop := (wp_X8_byteAt σ (σ.1 3 1) (fun r2 => ((r2 = x1 → (∀ σ3 : Mm, σ3 = kwi σ 3 1 ((σ.1 3 1) + 1) → Φ 1 σ3)) ∧ (¬ (r2 = x1) → Φ 0 σ))))
def wp_X5_readLane (σ : Mm) (b1 : Nat) (Φ : Int32 → Mm → Prop) : Prop := (wp_X5_readNumber σ (fun r2 σ1 => ((r2 < 0 → Φ 0 σ1) ∧ (¬ (r2 < 0) → (wp_X5_takes σ1 44 (fun r4 σ3 => ((¬ r4 = 0 → (wp_X5_readNumber σ3 (fun r6 σ5 => ((r6 < 0 → Φ 0 σ5) ∧ (¬ (r6 < 0) → (wp_X5_takes σ5 59 (fun r8 σ7 => ((r8 = 0 → Φ 0 σ7) ∧ (¬ (r8 = 0) → (wp_X1_tellLane σ7 b1 r2 r6 (fun r10 σ9 => ((r10 = 0 → Φ 0 σ9) ∧ (¬ (r10 = 0) → Φ 1 σ9))))))))))))) ∧ (r4 = 0 → Φ 0 σ3))))))))
def wp_X5_readWay_L13 (b1 : Nat) (K75 : Mm → Int32 → Prop) (K47 : Mm → Int32 → Prop) : Nat → Mm → Int32 → Int32 → Prop
  | 0, _, _, _ => False
  | n + 1, σ9, x2_10, x3_11 => (((12 ≤ x3_11 → K75 σ9 x2_10) ∧ (¬ (12 ≤ x3_11) → (wp_X8_byteAt σ9 (σ9.1 3 1) (fun r13 => ∀ x4_14 : Int32, x4_14 = (r13 - 48) → ((x4_14 < 0 → K75 σ9 x2_10) ∧ (¬ (x4_14 < 0) → (((x4_14 < 8 → (wp_X1_addToWay σ9 b1 x4_14 (fun σ15 => ∀ σ16 : Mm, σ16 = kwi σ15 3 1 ((σ15.1 3 1) + 1) → wp_X5_readWay_L13 b1 K75 K47 n σ16 (x2_10 + 1) (x3_11 + 1)))) ∧ (¬ (x4_14 < 8) → K47 σ9 x2_10))))))))))
def wp_X5_readWay (σ : Mm) (b1 : Nat) (Φ : Int32 → Mm → Prop) : Prop := (wp_X1_beginWay σ b1 (fun r2 σ1 => ((¬ r2 = 0 → (∃ K75 : Mm → Int32 → Prop, (∀ (σ3 : Mm) (x2_4 : Int32), K75 σ3 x2_4 → (((x2_4 ≤ 0 → Φ 0 σ3) ∧ (¬ (x2_4 ≤ 0) → (wp_X5_takes σ3 59 (fun r6 σ5 => ((r6 = 0 → Φ 0 σ5) ∧ (¬ (r6 = 0) → Φ 1 σ5)))))))) ∧ ∃ K47 : Mm → Int32 → Prop, (∀ (σ7 : Mm) (x2_8 : Int32), K47 σ7 x2_8 → K75 σ7 x2_8) ∧ ∃ n : Nat, wp_X5_readWay_L13 b1 K75 K47 n σ1 0 0)) ∧ (r2 = 0 → Φ 0 σ1))))
def wp_X5_readItem (σ : Mm) (b1 : Nat) (Φ : Int32 → Mm → Prop) : Prop := (wp_X8_byteAt σ (σ.1 3 1) (fun r2 => ∀ σ3 : Mm, σ3 = kwi σ 3 1 ((σ.1 3 1) + 1) → ((¬ r2 = 108 → (((¬ r2 = 119 → (wp_X5_readNumber σ3 (fun r5 σ4 => ((r5 < 0 → Φ 0 σ4) ∧ (¬ (r5 < 0) → (wp_X5_takes σ4 59 (fun r7 σ6 => ((¬ r7 = 0 → (∀ w8 : Int32, w8 = r2 → (((w8 = 99 → (wp_X1_tellStart σ6 b1 r5 (fun r10 σ9 => kbit r10 ∧ Φ r10 σ9))) ∧ (¬ w8 = 99 → ((w8 = 102 → (wp_X1_tellForgetting σ6 b1 r5 (fun r12 σ11 => kbit r12 ∧ Φ r12 σ11))) ∧ (¬ w8 = 102 → ((w8 = 112 → (wp_X1_tellPerson σ6 b1 r5 (fun r14 σ13 => kbit r14 ∧ Φ r14 σ13))) ∧ (¬ w8 = 112 → ((w8 = 121 → (wp_X1_tellYards σ6 b1 r5 (fun r16 σ15 => kbit r16 ∧ Φ r16 σ15))) ∧ (¬ w8 = 121 → Φ 0 σ6))))))))))) ∧ (r7 = 0 → Φ 0 σ6))))))))) ∧ (r2 = 119 → (wp_X5_readWay σ3 b1 (fun r18 σ17 => kbit r18 ∧ Φ r18 σ17)))))) ∧ (r2 = 108 → (wp_X5_readLane σ3 b1 (fun r20 σ19 => kbit r20 ∧ Φ r20 σ19))))))
def wp_X5_readInto_L11 (b1 : Nat) (Φ : Int32 → Mm → Prop) : Nat → Mm → Int32 → Prop
  | 0, _, _ => False
  | n + 1, σ3, x2_4 => (((300 ≤ x2_4 → Φ (-4) σ3) ∧ (¬ (300 ≤ x2_4) → (wp_X8_length σ3 (fun r6 => ((r6 ≤ (σ3.1 3 1) → Φ (-4) σ3) ∧ (¬ (r6 ≤ (σ3.1 3 1)) → (∀ x3_7 : Int32, x3_7 = (σ3.1 3 1) → wp_X5_readItem σ3 b1 (fun r9 σ8 => ((¬ r9 = 0 → wp_X5_readInto_L11 b1 Φ n σ8 (x2_4 + 1)) ∧ (r9 = 0 → Φ x3_7 σ8)))))))))))
def wp_X5_readInto (σ : Mm) (b1 : Nat) (Φ : Int32 → Mm → Prop) : Prop := (wp_X1_clear σ b1 (fun σ1 => ∀ σ2 : Mm, σ2 = kwi σ1 3 1 0 → (∃ n : Nat, wp_X5_readInto_L11 b1 Φ n σ2 0)))
def wp_X7_begin (σ : Mm) (x1 : Int32) (x2 : Int32) (Φ : Mm → Prop) : Prop := (∀ σ1 : Mm, σ1 = kwi σ 31 2 x1 → ∀ σ2 : Mm, σ2 = kwi σ1 31 3 x2 → ∀ σ3 : Mm, σ3 = kwi σ2 31 4 1 → wp_X2_clear σ3 (σ3.2.2 2) (fun σ5 => wp_X2_clear σ5 (σ5.2.2 3) (fun σ7 => Φ σ7)))
def wp_X7_feedersOf_L6 (b1 : Nat) (x2 : Int32) (x3 : Int32) (σ : Mm) (Φ : Int32 → Prop) : Nat → Int32 → Int32 → Prop
  | 0, _, _ => False
  | n + 1, x4_1, x5_2 => (wp_X1_persons σ b1 (fun r4 => ((r4 ≤ x5_2 → Φ x4_1) ∧ (¬ (r4 ≤ x5_2) → (wp_X1_canFeed σ b1 x5_2 x2 x3 (fun r6 => ∃ K29 : Int32 → Prop, (∀ (x4_7 : Int32), K29 x4_7 → wp_X7_feedersOf_L6 b1 x2 x3 σ Φ n x4_7 (x5_2 + 1)) ∧ ((r6 = 0 → K29 x4_1) ∧ (¬ (r6 = 0) → K29 (x4_1 + 1)))))))))
def wp_X7_feedersOf (σ : Mm) (b1 : Nat) (x2 : Int32) (x3 : Int32) (Φ : Int32 → Prop) : Prop := (∃ n : Nat, wp_X7_feedersOf_L6 b1 x2 x3 σ Φ n 0 0)
def wp_X7_whenUnfed (σ : Mm) (x1 : Int64) (x3 : Int32) (Φ : Int64 → Prop) : Prop := ((((σ.1 31 2) = 2 → (((¬ x3 = 0 → Φ (x1 * 60)) ∧ (x3 = 0 → Φ (x1 * 120))))) ∧ (¬ ((σ.1 31 2) = 2) → Φ x1)))
def wp_X7_whenFed (σ : Mm) (b1 : Nat) (x2 : Int64) (x4 : Int32) (x5 : Int32) (Φ : Int64 → Prop) : Prop := (((¬ (σ.1 31 2) = 0 → (((x5 ≤ 0 → Φ x2) ∧ (¬ (x5 ≤ 0) → ((¬ x5 = 0) ∧ Φ (x2 * ((60 / x5 : Int32).toInt64))))))) ∧ ((σ.1 31 2) = 0 → (wp_X1_cost σ b1 x4 (fun r2 => ∃ K34 : Int32 → Prop, (∀ (v3 : Int32), K34 v3 → Φ ((x2 + ((r2 * 8).toInt64)) + (v3.toInt64))) ∧ (((σ.1 31 4) = 0 → K34 0) ∧ (¬ ((σ.1 31 4) = 0) → K34 (x4 + 1))))))))
def wp_X7_branch_L64 (b1 : Nat) (x2 : Int32) (x3 : Int64) (x5 : Int32) (Φ : Mm → Prop) (v1 : Int32) (v2 : Int32) : Nat → Mm → Int32 → Prop
  | 0, _, _ => False
  | n + 1, σ9, x8_10 => (wp_X1_persons σ9 b1 (fun r12 => ((r12 ≤ x8_10 → Φ σ9) ∧ (¬ (r12 ≤ x8_10) → (∃ K131 : Mm → Prop, (∀ (σ13 : Mm), K131 σ13 → wp_X7_branch_L64 b1 x2 x3 x5 Φ v1 v2 n σ13 (x8_10 + 1)) ∧ ((x8_10 = (σ9.1 31 3) → K131 σ9) ∧ (¬ (x8_10 = (σ9.1 31 3)) → (wp_X1_canFeed σ9 b1 x8_10 x2 x5 (fun r15 => ((r15 = 0 → K131 σ9) ∧ (¬ (r15 = 0) → (wp_X10_fedState x2 x8_10 (fun r17 => wp_X1_onward σ9 b1 r17 (x5 + 1) (fun r19 => wp_X7_whenFed σ9 b1 x3 x8_10 v2 (fun r22 => wp_X2_put σ9 (σ9.2.2 3) r19 r22 v1 (fun σ23 => K131 σ23))))))))))))))))
def wp_X7_branch (σ : Mm) (b1 : Nat) (x2 : Int32) (x3 : Int64) (x5 : Int32) (Φ : Mm → Prop) : Prop := (∃ K12 : Int32 → Prop, (∀ (v1 : Int32), K12 v1 → (∃ K34 : Int32 → Prop, (∀ (v2 : Int32), K34 v2 → (wp_X1_onward σ b1 x2 (x5 + 1) (fun r5 => wp_X7_whenUnfed σ x3 v2 (fun r7 => wp_X2_put σ (σ.2.2 3) r5 r7 v1 (fun σ8 => (∃ n : Nat, wp_X7_branch_L64 b1 x2 x3 x5 Φ v1 v2 n σ8 0)))))) ∧ ((¬ (σ.1 31 2) = 2 → K34 0) ∧ ((σ.1 31 2) = 2 → (wp_X7_feedersOf σ b1 x2 x5 (fun r25 => K34 r25)))))) ∧ ((¬ (σ.1 31 2) = 0 → K12 0) ∧ ((σ.1 31 2) = 0 → K12 1)))
def wp_X9_lastMinute_L4 (b0 : Nat) (σ : Mm) (Φ : Int32 → Prop) : Nat → Int32 → Int32 → Prop
  | 0, _, _ => False
  | n + 1, x1_1, x2_2 => ((((σ.1 b0 2) ≤ x2_2 → Φ x1_1) ∧ (¬ ((σ.1 b0 2) ≤ x2_2) → ((0 ≤ x2_2 ∧ x2_2 < 6) ∧ ∀ x1_4 : Int32, x1_4 = (if x1_1 < σ.1 (b0 + 2) (x2_2.toNatClampNeg) then σ.1 (b0 + 2) (x2_2.toNatClampNeg) else x1_1) → wp_X9_lastMinute_L4 b0 σ Φ n x1_4 (x2_2 + 1)))))
def wp_X9_lastMinute (σ : Mm) (b0 : Nat) (Φ : Int32 → Prop) : Prop := (∃ n : Nat, wp_X9_lastMinute_L4 b0 σ Φ n 0 0)
def wp_X9_size (σ : Mm) (b0 : Nat) (Φ : Int32 → Prop) : Prop := Φ (σ.1 b0 2)
def wp_X9_isOf (σ : Mm) (b0 : Nat) (x1 : Int32) (x2 : Int32) (Φ : Int32 → Prop) : Prop := (((x1 < 0 → Φ 0) ∧ (¬ (x1 < 0) → ((((σ.1 b0 2) ≤ x1 → Φ 0) ∧ (¬ ((σ.1 b0 2) ≤ x1) → ((0 ≤ x1 ∧ x1 < 6) ∧ ((¬ (σ.1 (b0 + 2) (x1.toNatClampNeg)) = x2 → Φ 0) ∧ ((σ.1 (b0 + 2) (x1.toNatClampNeg)) = x2 → Φ 1)))))))))
def wp_X9_yard (σ : Mm) (b0 : Nat) (x1 : Int32) (Φ : Int32 → Prop) : Prop := (((x1 < 0 → Φ 0) ∧ (¬ (x1 < 0) → ((((σ.1 b0 2) ≤ x1 → Φ 0) ∧ (¬ ((σ.1 b0 2) ≤ x1) → ((0 ≤ x1 ∧ x1 < 6) ∧ Φ (σ.1 (b0 + 1) (x1.toNatClampNeg)))))))))
def wp_X7_sieve_L2 (b1 : Nat) (x2 : Int32) (Φ : Int32 → Mm → Prop) : Nat → Mm → Int32 → Prop
  | 0, _, _ => False
  | n + 1, σ1, x3_2 => (wp_X9_size σ1 b1 (fun r4 => ((r4 ≤ x3_2 → Φ (-4) σ1) ∧ (¬ (r4 ≤ x3_2) → (wp_X9_isOf σ1 b1 x3_2 x2 (fun r6 => ∃ K43 : Mm → Prop, (∀ (σ7 : Mm), K43 σ7 → wp_X7_sieve_L2 b1 x2 Φ n σ7 (x3_2 + 1)) ∧ ((r6 = 0 → K43 σ1) ∧ (¬ (r6 = 0) → (wp_X9_yard σ1 b1 x3_2 (fun r10 => wp_X2_keepThoseAt σ1 (σ1.2.2 2) r10 (fun σ11 => wp_X2_size σ11 (σ11.2.2 2) (fun r14 => ((¬ r14 = 0 → K43 σ11) ∧ (r14 = 0 → Φ x3_2 σ11))))))))))))))
def wp_X7_sieve (σ : Mm) (b1 : Nat) (x2 : Int32) (Φ : Int32 → Mm → Prop) : Prop := (∃ n : Nat, wp_X7_sieve_L2 b1 x2 Φ n σ 0)
def wp_X7_spread_L2 (b1 : Nat) (x2 : Int32) (K41 : Mm → Prop) : Nat → Mm → Int32 → Prop
  | 0, _, _ => False
  | n + 1, σ9, x3_10 => (wp_X2_size σ9 (σ9.2.2 2) (fun r13 => ((r13 ≤ x3_10 → K41 σ9) ∧ (¬ (r13 ≤ x3_10) → (wp_X2_state σ9 (σ9.2.2 2) x3_10 (fun r16 => wp_X2_number σ9 (σ9.2.2 2) x3_10 (fun r19 => wp_X7_branch σ9 b1 r16 r19 x2 (fun σ20 => wp_X7_spread_L2 b1 x2 K41 n σ20 (x3_10 + 1)))))))))
def wp_X7_spread (σ : Mm) (b1 : Nat) (x2 : Int32) (Φ : Mm → Prop) : Prop := (∃ K41 : Mm → Prop, (∀ (σ1 : Mm), K41 σ1 → (wp_X2_clear σ1 (σ1.2.2 2) (fun σ3 => ∀ σ6 : Mm, σ6 = kwr σ3 2 (σ3.2.2 3) → ∀ σ7 : Mm, σ7 = kwr σ6 3 (σ3.2.2 2) → ∀ σ8 : Mm, σ8 = kwi σ7 31 4 0 → Φ σ8))) ∧ ∃ n : Nat, wp_X7_spread_L2 b1 x2 K41 n σ 0)
def wp_X7_follow_L9 (b1 : Nat) (x2 : Int32) (b3 : Nat) (Φ : Int32 → Mm → Prop) (r2 : Int32) : Nat → Mm → Int32 → Prop
  | 0, _, _ => False
  | n + 1, σ3, x5_4 => (((r2 < x5_4 → Φ (-4) σ3) ∧ (¬ (r2 < x5_4) → (wp_X7_sieve σ3 b3 x5_4 (fun r6 σ5 => ((r6 = (-4) → (∃ K51 : Mm → Prop, (∀ (σ7 : Mm), K51 σ7 → wp_X7_follow_L9 b1 x2 b3 Φ r2 n σ7 (x5_4 + 1)) ∧ ((r2 ≤ x5_4 → K51 σ5) ∧ (¬ (r2 ≤ x5_4) → (wp_X7_spread σ5 b1 (x2 + x5_4) (fun σ8 => K51 σ8)))))) ∧ (¬ (r6 = (-4)) → Φ r6 σ5)))))))
def wp_X7_follow (σ : Mm) (b1 : Nat) (x2 : Int32) (b3 : Nat) (Φ : Int32 → Mm → Prop) : Prop := (wp_X9_lastMinute σ b3 (fun r2 => (∃ n : Nat, wp_X7_follow_L9 b1 x2 b3 Φ r2 n σ 0)))
def wp_X7_cheapest (σ : Mm) (b1 : Nat) (b3 : Nat) (Φ : Int32 → Mm → Prop) : Prop := (wp_X7_begin σ 0 (-1) (fun σ1 => wp_X2_put σ1 (σ1.2.2 2) (σ1.1 16 1) 0 1 (fun σ3 => wp_X7_follow σ3 b1 (σ3.1 16 0) b3 (fun r5 σ4 => Φ r5 σ4))))
def wp_X7_firstFeeder (σ : Mm)  (Φ : Int32 → Prop) : Prop := (wp_X2_least σ (σ.2.2 2) (fun r3 => Φ (((r3 - r3 / 8 * 8).toInt32) - 1)))
def wp_X7_leastCost (σ : Mm)  (Φ : Int32 → Prop) : Prop := (wp_X2_least σ (σ.2.2 2) (fun r3 => Φ ((r3 / 8).toInt32)))
def wp_X7_ways (σ : Mm) (b1 : Nat) (b2 : Nat) (x3 : Int32) (Φ : Int64 → Mm → Prop) : Prop := (wp_X7_begin σ 1 x3 (fun σ1 => wp_X1_firstState σ1 b1 (fun r4 => wp_X2_put σ1 (σ1.2.2 2) r4 1 0 (fun σ5 => wp_X7_follow σ5 b1 0 b2 (fun r7 σ6 => wp_X2_sum σ6 (σ6.2.2 2) (fun r10 => Φ r10 σ6))))))
def wp_X7_weight_L22 (b1 : Nat) (x3 : Int32) (K46 : Mm → Prop) : Nat → Mm → Int32 → Prop
  | 0, _, _ => False
  | n + 1, σ10, x5_11 => (((x3 ≤ x5_11 → K46 σ10) ∧ (¬ (x3 ≤ x5_11) → (wp_X7_spread σ10 b1 ((σ10.1 16 0) + x5_11) (fun σ12 => wp_X7_weight_L22 b1 x3 K46 n σ12 (x5_11 + 1))))))
def wp_X7_weight (σ : Mm) (b1 : Nat) (x3 : Int32) (x4 : Int32) (Φ : Int64 → Mm → Prop) : Prop := (wp_X7_begin σ 2 (-1) (fun σ1 => wp_X2_put σ1 (σ1.2.2 2) (σ1.1 16 1) 1 0 (fun σ3 => (∃ K46 : Mm → Prop, (∀ (σ4 : Mm), K46 σ4 → (wp_X2_keepThoseAt σ4 (σ4.2.2 2) x4 (fun σ6 => wp_X2_sum σ6 (σ6.2.2 2) (fun r9 => Φ r9 σ6)))) ∧ ∃ n : Nat, wp_X7_weight_L22 b1 x3 K46 n σ3 0))))
def wp_X8_append (σ : Mm) (x1 : Int32) (Φ : Mm → Prop) : Prop := (((300 ≤ (σ.1 1 1) → Φ σ) ∧ (¬ (300 ≤ (σ.1 1 1)) → ((0 ≤ (σ.1 1 1) ∧ (σ.1 1 1) < 300) ∧ ∀ σ2 : Mm, σ2 = kwi σ 2 ((σ.1 1 1).toNatClampNeg) (vp_nar .byte (x1.toInt8.toInt32)) → ∀ σ3 : Mm, σ3 = kwi σ2 1 1 ((σ2.1 1 1) + 1) → Φ σ3))))
def wp_X8_clear (σ : Mm)  (Φ : Mm → Prop) : Prop := (∀ σ1 : Mm, σ1 = kwi σ 1 1 0 → Φ σ1)
def wp_X9_add (σ : Mm) (b0 : Nat) (x1 : Int32) (x2 : Int32) (Φ : Int32 → Mm → Prop) : Prop := ((((σ.1 b0 2) < 6 → ((0 ≤ (σ.1 b0 2) ∧ (σ.1 b0 2) < 6) ∧ ∀ σ2 : Mm, σ2 = kwi σ (b0 + 1) ((σ.1 b0 2).toNatClampNeg) x1 → (0 ≤ (σ2.1 b0 2) ∧ (σ2.1 b0 2) < 6) ∧ ∀ σ4 : Mm, σ4 = kwi σ2 (b0 + 2) ((σ2.1 b0 2).toNatClampNeg) x2 → ∀ σ5 : Mm, σ5 = kwi σ4 b0 2 ((σ4.1 b0 2) + 1) → Φ (σ5.1 b0 2) σ5)) ∧ (¬ ((σ.1 b0 2) < 6) → Φ (-3) σ)))
def wp_X9_clear (σ : Mm) (b0 : Nat) (Φ : Int32 → Mm → Prop) : Prop := (∀ x1_1 : Int32, x1_1 = (σ.1 b0 2) → ∀ σ2 : Mm, σ2 = kwi σ b0 2 0 → Φ x1_1 σ2)
def wp_X10_back (σ : Mm)  (Φ : Int32 → Mm → Prop) : Prop := (wp_X4_size σ 21 (fun r2 => ((¬ r2 = 0 → (wp_X4_pop σ 21 (fun σ3 => wp_X4_clear σ3 17 (fun σ4 => wp_X4_size σ4 21 (fun r6 => Φ r6 σ4))))) ∧ (r2 = 0 → Φ (-2) σ))))
def wp_X10_bars (σ : Mm)  (Φ : Int32 → Mm → Prop) : Prop := (wp_X7_cheapest σ (σ.2.2 0) 25 (fun r3 σ2 => Φ r3 σ2))
def wp_X10_isFlag (x0 : Int32) (Φ : Int32 → Prop) : Prop := (((x0 = 0 → Φ 1) ∧ (¬ (x0 = 0) → (((¬ x0 = 1 → Φ 0) ∧ (x0 = 1 → Φ 1))))))
def wp_X10_orNone (x0 : Int32) (Φ : Int32 → Prop) : Prop := (((x0 < 0 → Φ (-4)) ∧ (¬ (x0 < 0) → Φ x0)))
def wp_X10_calf (σ : Mm) (x1 : Int32) (x2 : Int32) (Φ : Int32 → Prop) : Prop := (((x1 < 0 → Φ (-1)) ∧ (¬ (x1 < 0) → (((400 < x1 → Φ (-1)) ∧ (¬ (400 < x1) → (wp_X10_isFlag x2 (fun r2 => ((¬ r2 = 0 → (wp_X1_unfed σ (σ.2.2 0) (σ.1 16 1) (σ.1 16 0) x1 (fun r5 => ((¬ x2 = 0 → (wp_X10_followedIn r5 (fun r7 => wp_X10_orNone r7 (fun r9 => Φ r9)))) ∧ (x2 = 0 → (wp_X10_yardOf r5 (fun r11 => Φ r11))))))) ∧ (r2 = 0 → Φ (-1)))))))))))
def wp_X10_commonDivisor_L9 (Φ : Int64 → Prop) : Nat → Int64 → Int64 → Int32 → Prop
  | 0, _, _, _ => False
  | n + 1, x4_1, x6_2, x8_3 => (((200 ≤ x8_3 → Φ x4_1) ∧ (¬ (200 ≤ x8_3) → ((((lg_cmp x6_2 0) = 0 → Φ x4_1) ∧ (¬ ((lg_cmp x6_2 0) = 0) → ((¬ x6_2 = 0) ∧ ∀ x9_4 : Int64, x9_4 = (x4_1 - x4_1 / x6_2 * x6_2) → wp_X10_commonDivisor_L9 Φ n x6_2 x9_4 (x8_3 + 1))))))))
def wp_X10_commonDivisor (x0 : Int64) (x2 : Int64) (Φ : Int64 → Prop) : Prop := (∃ n : Nat, wp_X10_commonDivisor_L9 Φ n x0 x2 0)
def wp_X10_chance_L57 (x2 : Int32) (K77 : Int64 → Prop) : Nat → Int64 → Int32 → Prop
  | 0, _, _ => False
  | n + 1, x6_12, x8_13 => (((x2 ≤ x8_13 → K77 x6_12) ∧ (¬ (x2 ≤ x8_13) → (∀ x6_14 : Int64, x6_14 = (x6_12 * 120) → wp_X10_chance_L57 x2 K77 n x6_14 (x8_13 + 1)))))
def wp_X10_chance (σ : Mm) (x1 : Int32) (x2 : Int32) (x3 : Int32) (Φ : Int64 → Mm → Prop) : Prop := (wp_X1_hasYard σ (σ.2.2 0) x1 (fun r3 => ((r3 = 0 → Φ (-1) σ) ∧ (¬ (r3 = 0) → (((x2 < 0 → Φ (-1) σ) ∧ (¬ (x2 < 0) → (((6 < x2 → Φ (-1) σ) ∧ (¬ (6 < x2) → (wp_X10_isFlag x3 (fun r5 => ((¬ r5 = 0 → (wp_X7_weight σ (σ.2.2 0) x2 x1 (fun r8 σ7 => (∃ K77 : Int64 → Prop, (∀ (x6_9 : Int64), K77 x6_9 → (wp_X10_commonDivisor x6_9 r8 (fun r11 => ((0 ≤ (lg_cmp r11 1) → (((¬ x3 = 0 → ((¬ r11 = 0) ∧ Φ (x6_9 / r11) σ7)) ∧ (x3 = 0 → ((¬ r11 = 0) ∧ Φ (r8 / r11) σ7))))) ∧ (¬ (0 ≤ (lg_cmp r11 1)) → (((¬ x3 = 0 → Φ x6_9 σ7) ∧ (x3 = 0 → Φ r8 σ7)))))))) ∧ ∃ n : Nat, wp_X10_chance_L57 x2 K77 n 1 0)))) ∧ (r5 = 0 → Φ (-1) σ))))))))))))))
def wp_X10_count (σ : Mm) (x1 : Int32) (Φ : Int32 → Prop) : Prop := (∀ w1 : Int32, w1 = x1 → ((w1 = 0 → (wp_X1_yards σ (σ.2.2 0) (fun r4 => Φ r4))) ∧ (w1 = 1 → (wp_X1_persons σ (σ.2.2 0) (fun r7 => Φ r7))) ∧ (w1 = 2 → Φ (σ.1 16 0)) ∧ (w1 = 3 → (wp_X9_size σ 25 (fun r9 => Φ r9))) ∧ (w1 = 4 → (wp_X9_size σ 28 (fun r11 => Φ r11))) ∧ (w1 = 5 → (wp_X4_size σ 17 (fun r13 => Φ r13))) ∧ (w1 = 6 → (wp_X4_size σ 21 (fun r15 => Φ r15))) ∧ (w1 = 7 → (wp_X8_length σ (fun r17 => Φ r17))) ∧ ((w1.toInt < 0 ∨ 7 < w1.toInt) → Φ (-1))))
def wp_X10_drawnFeeder (x0 : Int32) (x1 : Int32) (x2 : Int32) (Φ : Int32 → Prop) : Prop := (∀ x3_1 : Int64, x3_1 = (((7919 * (x0.toInt64)) + (6151 * (x1.toInt64))) + 1) → ∀ x5_2 : Int64, x5_2 = ((x3_1 * x3_1) - (x3_1 * x3_1) / 65521 * 65521) → ((x2 < 1 → Φ (-1)) ∧ (¬ (x2 < 1) → (((¬ (lg_cmp ((x5_2 / 8) - (x5_2 / 8) / 2 * 2) 0) = 0 → ((¬ (x2.toInt64) = 0) ∧ Φ ((x5_2 - x5_2 / (x2.toInt64) * (x2.toInt64)).toInt32))) ∧ ((lg_cmp ((x5_2 / 8) - (x5_2 / 8) / 2 * 2) 0) = 0 → Φ (-1)))))))
def wp_X10_far (σ : Mm) (x1 : Int32) (x2 : Int32) (Φ : Int32 → Prop) : Prop := (wp_X1_hasYard σ (σ.2.2 0) x1 (fun r3 => ((r3 = 0 → Φ (-1)) ∧ (¬ (r3 = 0) → (wp_X1_hasYard σ (σ.2.2 0) x2 (fun r6 => ((¬ r6 = 0 → (wp_X1_distance σ (σ.2.2 0) x1 x2 (fun r9 => ((¬ r9 = 99 → Φ r9) ∧ (r9 = 99 → Φ (-4)))))) ∧ (r6 = 0 → Φ (-1)))))))))
def wp_X10_fault (σ : Mm)  (Φ : Int32 → Mm → Prop) : Prop := (wp_X5_readInto σ (σ.2.2 1) (fun r3 σ2 => Φ r3 σ2))
def wp_X10_feed (σ : Mm) (x1 : Int32) (Φ : Int32 → Mm → Prop) : Prop := (wp_X1_hasPerson σ (σ.2.2 0) x1 (fun r3 => ((¬ r3 = 0 → (wp_X1_canFeed σ (σ.2.2 0) x1 (σ.1 16 1) (σ.1 16 0) (fun r6 => ((¬ r6 = 0 → (wp_X4_push σ 17 (fun σ7 => wp_X10_fedState (σ7.1 16 1) x1 (fun r9 => ∀ σ10 : Mm, σ10 = kwi σ7 16 1 r9 → ∀ σ11 : Mm, σ11 = kwi σ10 16 2 ((σ10.1 16 2) + 1) → Φ (σ11.1 16 2) σ11)))) ∧ (r6 = 0 → Φ (-2) σ))))) ∧ (r3 = 0 → Φ (-1) σ))))
def wp_X10_first (σ : Mm)  (Φ : Int32 → Mm → Prop) : Prop := (wp_X7_cheapest σ (σ.2.2 0) 25 (fun r3 σ2 => ((¬ r3 = (-4) → Φ (-4) σ2) ∧ (r3 = (-4) → (wp_X7_firstFeeder σ2 (fun r5 => wp_X10_orNone r5 (fun r7 => Φ r7 σ2)))))))
def wp_X10_forget (σ : Mm)  (Φ : Int32 → Mm → Prop) : Prop := (wp_X9_clear σ 28 (fun r2 σ1 => Φ r2 σ1))
def wp_X10_game (σ : Mm) (x1 : Int32) (x2 : Int32) (x3 : Int32) (x4 : Int32) (Φ : Int32 → Mm → Prop) : Prop := (((x1 < 1 → Φ (-1) σ) ∧ (¬ (x1 < 1) → (((12 < x1 → Φ (-1) σ) ∧ (¬ (12 < x1) → (wp_X1_hasYard σ (σ.2.2 0) x2 (fun r3 => ((r3 = 0 → Φ (-1) σ) ∧ (¬ (r3 = 0) → (wp_X10_isFlag x4 (fun r5 => ((¬ r5 = 0 → (((x3 < 0 → Φ (-1) σ) ∧ (¬ (x3 < 0) → (wp_X1_everybody σ (σ.2.2 0) (fun r8 => ((x3 ≤ r8 → (wp_X0_opening σ (σ.2.2 0) x1 x2 x3 (fun r11 σ10 => ((¬ x4 = 0 → (wp_X10_orNone r11 (fun r13 => Φ r13 σ10))) ∧ (x4 = 0 → (((¬ r11 = (-2) → Φ 1 σ10) ∧ (r11 = (-2) → Φ 0 σ10)))))))) ∧ (¬ (x3 ≤ r8) → Φ (-1) σ)))))))) ∧ (r5 = 0 → Φ (-1) σ))))))))))))))
def wp_X10_goal (σ : Mm) (x1 : Int32) (x2 : Int32) (Φ : Int32 → Mm → Prop) : Prop := (wp_X1_hasYard σ (σ.2.2 0) x1 (fun r3 => ((r3 = 0 → Φ (-1) σ) ∧ (¬ (r3 = 0) → (((x2 < 0 → Φ (-1) σ) ∧ (¬ (x2 < 0) → (((x2 ≤ 40 → (wp_X9_add σ 25 x1 x2 (fun r5 σ4 => Φ r5 σ4))) ∧ (¬ (x2 ≤ 40) → Φ (-1) σ))))))))))
def wp_X10_how (σ : Mm)  (Φ : Int64 → Mm → Prop) : Prop := (wp_X7_ways σ (σ.2.2 0) 28 (-1) (fun r3 σ2 => Φ r3 σ2))
def wp_X10_keep (σ : Mm)  (Φ : Int32 → Mm → Prop) : Prop := (wp_X4_size σ 21 (fun r2 => ((r2 < 2 → (wp_X4_push σ 21 (fun σ3 => wp_X4_size σ3 21 (fun r5 => Φ r5 σ3)))) ∧ (¬ (r2 < 2) → Φ (-3) σ))))
def wp_X10_lay (σ : Mm)  (Φ : Int32 → Mm → Prop) : Prop := (wp_X5_readInto σ (σ.2.2 1) (fun r3 σ2 => ((¬ r3 = (-4) → Φ (-2) σ2) ∧ (r3 = (-4) → (wp_X1_canBeLaid σ2 (σ2.2.2 1) (fun r6 => ((¬ r6 = 0 → (∀ σ9 : Mm, σ9 = kwr σ2 0 (σ2.2.2 1) → ∀ σ10 : Mm, σ10 = kwr σ9 1 (σ2.2.2 0) → wp_X1_measure σ10 (σ10.2.2 0) (fun σ12 => wp_X3_begin σ12 (σ12.2.2 0) (fun σ14 => wp_X9_clear σ14 25 (fun r16 σ15 => wp_X9_clear σ15 28 (fun r18 σ17 => wp_X4_clear σ17 17 (fun σ19 => wp_X4_clear σ19 21 (fun σ20 => wp_X1_persons σ20 (σ20.2.2 0) (fun r23 => Φ r23 σ20))))))))) ∧ (r6 = 0 → Φ (-2) σ2))))))))
def wp_X10_noGoals (σ : Mm)  (Φ : Int32 → Mm → Prop) : Prop := (wp_X9_clear σ 25 (fun r2 σ1 => Φ r2 σ1))
def wp_X10_pass (σ : Mm) (x1 : Int32) (Φ : Int32 → Mm → Prop) : Prop := (((x1 < 1 → Φ (-1) σ) ∧ (¬ (x1 < 1) → (((x1 ≤ 99 → (((((σ.1 16 0) + x1) ≤ 9999 → (wp_X4_push σ 17 (fun σ1 => wp_X1_unfed σ1 (σ1.2.2 0) (σ1.1 16 1) (σ1.1 16 0) x1 (fun r4 => ∀ σ5 : Mm, σ5 = kwi σ1 16 1 r4 → ∀ σ6 : Mm, σ6 = kwi σ5 16 0 ((σ5.1 16 0) + x1) → wp_X10_yardOf (σ6.1 16 1) (fun r8 => Φ r8 σ6))))) ∧ (¬ (((σ.1 16 0) + x1) ≤ 9999) → Φ (-2) σ)))) ∧ (¬ (x1 ≤ 99) → Φ (-1) σ))))))
def wp_X10_person (σ : Mm) (x1 : Int32) (x2 : Int32) (Φ : Int32 → Prop) : Prop := (wp_X1_hasPerson σ (σ.2.2 0) x1 (fun r3 => ((r3 = 0 → Φ (-1)) ∧ (¬ (r3 = 0) → (((x2 < (-1) → Φ (-1)) ∧ (¬ (x2 < (-1)) → (((x2 ≤ 9999 → (((¬ x2 = (-1) → (wp_X1_yardAt σ (σ.2.2 0) x1 x2 (fun r6 => Φ r6))) ∧ (x2 = (-1) → (wp_X1_cost σ (σ.2.2 0) x1 (fun r9 => Φ r9)))))) ∧ (¬ (x2 ≤ 9999) → Φ (-1)))))))))))
def wp_X10_price (σ : Mm)  (Φ : Int32 → Mm → Prop) : Prop := (wp_X7_cheapest σ (σ.2.2 0) 25 (fun r3 σ2 => ((¬ r3 = (-4) → Φ (-4) σ2) ∧ (r3 = (-4) → (wp_X7_leastCost σ2 (fun r5 => Φ r5 σ2))))))
def wp_X10_seen (σ : Mm) (x1 : Int32) (x2 : Int32) (Φ : Int32 → Mm → Prop) : Prop := (wp_X1_hasYard σ (σ.2.2 0) x1 (fun r3 => ((r3 = 0 → Φ (-1) σ) ∧ (¬ (r3 = 0) → (((x2 < 0 → Φ (-1) σ) ∧ (¬ (x2 < 0) → (((x2 ≤ 20 → (wp_X9_add σ 28 x1 x2 (fun r5 σ4 => Φ r5 σ4))) ∧ (¬ (x2 ≤ 20) → Φ (-1) σ))))))))))
def wp_X10_sure (σ : Mm) (x1 : Int32) (Φ : Int32 → Mm → Prop) : Prop := (wp_X1_hasPerson σ (σ.2.2 0) x1 (fun r3 => ((¬ r3 = 0 → (wp_X7_ways σ (σ.2.2 0) 28 (-1) (fun r6 σ5 => ∃ K39 : Int32 → Prop, (∀ (v7 : Int32), K39 v7 → (((¬ v7 = 0 → Φ 0 σ5) ∧ (v7 = 0 → (wp_X7_ways σ5 (σ5.2.2 0) 28 x1 (fun r10 σ9 => ((¬ (lg_cmp r10 0) = 0 → Φ 0 σ9) ∧ ((lg_cmp r10 0) = 0 → Φ 1 σ9)))))))) ∧ ((¬ (lg_cmp r6 0) = 0 → K39 0) ∧ ((lg_cmp r6 0) = 0 → K39 1))))) ∧ (r3 = 0 → Φ (-1) σ))))
def wp_X10_undo (σ : Mm)  (Φ : Int32 → Mm → Prop) : Prop := (wp_X4_size σ 17 (fun r2 => ((¬ r2 = 0 → (wp_X4_pop σ 17 (fun σ3 => wp_X4_size σ3 17 (fun r5 => Φ r5 σ3)))) ∧ (r2 = 0 → Φ (-2) σ))))
def wp_X10_wipe (σ : Mm)  (Φ : Int32 → Mm → Prop) : Prop := (wp_X8_length σ (fun r2 => wp_X8_clear σ (fun σ3 => Φ r2 σ3)))
def wp_X10_write_L36 (x2 : Int64) (K62 : Mm → Prop) : Nat → Mm → Int32 → Prop
  | 0, _, _ => False
  | n + 1, σ7, x4_8 => (((x4_8 < 0 → K62 σ7) ∧ (¬ (x4_8 < 0) → (wp_X8_append σ7 (((x2.toUInt64 >>> ((8 * x4_8 : Int32).toInt64.toUInt64 &&& Int64.toUInt64 63)).toInt64).toInt32) (fun σ9 => wp_X10_write_L36 x2 K62 n σ9 (x4_8 + (-1)))))))
def wp_X10_write (σ : Mm) (x1 : Int32) (x2 : Int64) (Φ : Int32 → Mm → Prop) : Prop := (((x1 < 1 → Φ (-1) σ) ∧ (¬ (x1 < 1) → (((x1 ≤ 8 → (wp_X8_length σ (fun r2 => (((r2 + x1) ≤ 300 → (∀ x4_3 : Int32, x4_3 = (x1 - 1) → (∃ K62 : Mm → Prop, (∀ (σ4 : Mm), K62 σ4 → (wp_X8_length σ4 (fun r6 => Φ r6 σ4))) ∧ ∃ n : Nat, wp_X10_write_L36 x2 K62 n σ x4_3))) ∧ (¬ ((r2 + x1) ≤ 300) → Φ (-3) σ))))) ∧ (¬ (x1 ≤ 8) → Φ (-1) σ))))))
def wp_X10_year_L47 (x1 : Int32) (x2 : Int32) (σ : Mm) (K123 : Int32 → Int32 → Prop) : Nat → Int32 → Int32 → Int32 → Prop
  | 0, _, _, _ => False
  | n + 1, x4_10, x5_11, x6_12 => (((x2 ≤ x6_12 → K123 x4_10 x5_11) ∧ (¬ (x2 ≤ x6_12) → (wp_X1_persons σ (σ.2.2 0) (fun r15 => wp_X10_drawnFeeder x1 x6_12 r15 (fun r17 => ∃ K102 : Int32 → Int32 → Prop, (∀ (x4_18 : Int32) (x5_19 : Int32), K102 x4_18 x5_19 → (wp_X1_onward σ (σ.2.2 0) x4_18 (x6_12 + 1) (fun r22 => wp_X10_year_L47 x1 x2 σ K123 n r22 x5_19 (x6_12 + 1)))) ∧ ((r17 = (-1) → K102 x4_10 x5_11) ∧ (¬ (r17 = (-1)) → (wp_X1_canFeed σ (σ.2.2 0) r17 x4_10 x6_12 (fun r25 => ((r25 = 0 → K102 x4_10 x5_11) ∧ (¬ (r25 = 0) → (wp_X10_fedState x4_10 r17 (fun r27 => K102 r27 (x5_11 + 1)))))))))))))))
def wp_X10_year (σ : Mm) (x1 : Int32) (x2 : Int32) (x3 : Int32) (Φ : Int32 → Prop) : Prop := (((x1 < 0 → Φ (-1)) ∧ (¬ (x1 < 0) → (((9999 < x1 → Φ (-1)) ∧ (¬ (9999 < x1) → (((x2 < 1 → Φ (-1)) ∧ (¬ (x2 < 1) → (((400 < x2 → Φ (-1)) ∧ (¬ (400 < x2) → (wp_X10_isFlag x3 (fun r2 => ((¬ r2 = 0 → (wp_X1_firstState σ (σ.2.2 0) (fun r5 => (∃ K123 : Int32 → Int32 → Prop, (∀ (x4_6 : Int32) (x5_7 : Int32), K123 x4_6 x5_7 → (((¬ x3 = 0 → (wp_X10_yardOf x4_6 (fun r9 => Φ r9))) ∧ (x3 = 0 → Φ x5_7)))) ∧ ∃ n : Nat, wp_X10_year_L47 x1 x2 σ K123 n r5 0 0)))) ∧ (r2 = 0 → Φ (-1)))))))))))))))))
end
section
def wp_X11_whomOf (x0 : Int32) (Φ : Int32 → Prop) : Prop := Φ (((x0 / 8) - (x0 / 8) / 6 * 6) - 1)
def wp_X11_yardOf (x0 : Int32) (Φ : Int32 → Prop) : Prop := Φ (x0 - x0 / 8 * 8)
def wp_X11_placeOf (σ : Mm) (x1 : Int32) (x2 : Int32) (Φ : Int32 → Prop) : Prop := ((0 ≤ (17 + x1) ∧ (17 + x1) < 164) ∧ (¬ (σ.1 1 ((17 + x1).toNatClampNeg)) = 0) ∧ (0 ≤ ((22 + (12 * x1)) + (x2 - x2 / (σ.1 1 ((17 + x1).toNatClampNeg)) * (σ.1 1 ((17 + x1).toNatClampNeg)))) ∧ ((22 + (12 * x1)) + (x2 - x2 / (σ.1 1 ((17 + x1).toNatClampNeg)) * (σ.1 1 ((17 + x1).toNatClampNeg)))) < 164) ∧ Φ (σ.1 1 (((22 + (12 * x1)) + (x2 - x2 / (σ.1 1 ((17 + x1).toNatClampNeg)) * (σ.1 1 ((17 + x1).toNatClampNeg)))).toNatClampNeg)))
def wp_X11_after_L82 (σ : Mm) (r4 : Int32) (r8 : Int32) (x7_10 : Int32) (K125 : Int32 → Prop) : Nat → Int32 → Prop
  | 0, _ => False
  | n + 1, x8_13 => ((0 ≤ (4 + r4) ∧ (4 + r4) < 164) ∧ ∃ K119 : Prop, (K119 → wp_X11_after_L82 σ r4 r8 x7_10 K125 n (x8_13 + 1)) ∧ (((((σ.1 1 ((4 + r4).toNatClampNeg)) >>> (x8_13 &&& 31)) &&& 1) = 0 → K119) ∧ (¬ ((((σ.1 1 ((4 + r4).toNatClampNeg)) >>> (x8_13 &&& 31)) &&& 1) = 0) → ((0 ≤ ((8 * x8_13) + r8) ∧ ((8 * x8_13) + r8) < 64) ∧ (((σ.1 2 (((8 * x8_13) + r8).toNatClampNeg)) = (x7_10 - 1) → K125 x8_13) ∧ (¬ ((σ.1 2 (((8 * x8_13) + r8).toNatClampNeg)) = (x7_10 - 1)) → K119))))))
def wp_X11_after (σ : Mm) (x1 : Int32) (x2 : Int32) (Φ : Int32 → Prop) : Prop := (wp_X11_whomOf x1 (fun r2 => wp_X11_yardOf x1 (fun r4 => ((0 ≤ r2 → (∀ x5_5 : Int32, x5_5 = (x1 / 48) → ∃ K44 : Int32 → Prop, (∀ (x5_6 : Int32), K44 x5_6 → (wp_X11_placeOf σ r2 x2 (fun r8 => (0 ≤ ((8 * r4) + r8) ∧ ((8 * r4) + r8) < 64) ∧ ∀ x7_10 : Int32, x7_10 = (σ.1 2 (((8 * r4) + r8).toNatClampNeg)) → ∃ K129 : Int32 → Prop, (∀ (x4_11 : Int32), K129 x4_11 → Φ ((x4_11 + (8 * (r2 + 1))) + (48 * x5_6))) ∧ ((x7_10 ≤ 0 → K129 r4) ∧ (¬ (x7_10 ≤ 0) → (((999999 ≤ x7_10 → K129 r4) ∧ (¬ (999999 ≤ x7_10) → (∃ K125 : Int32 → Prop, (∀ (x8_12 : Int32), K125 x8_12 → K129 x8_12) ∧ ∃ n : Nat, wp_X11_after_L82 σ r4 r8 x7_10 K125 n 0))))))))) ∧ (((σ.1 1 2) ≤ 0 → K44 x5_5) ∧ (¬ ((σ.1 1 2) ≤ 0) → (((¬ (x5_5 + (-1)) = 0 → K44 (x5_5 + (-1))) ∧ ((x5_5 + (-1)) = 0 → Φ r4))))))) ∧ (¬ (0 ≤ r2) → Φ r4)))))
def wp_X11_back_L22 (K52 : Mm → Prop) : Nat → Mm → Int32 → Prop
  | 0, _, _ => False
  | n + 1, σ4, x1_5 => (((3 ≤ x1_5 → K52 σ4) ∧ (¬ (3 ≤ x1_5) → ((0 ≤ ((3 * (σ4.1 0 11)) + x1_5) ∧ ((3 * (σ4.1 0 11)) + x1_5) < 6) ∧ (0 ≤ x1_5 ∧ x1_5 < 3) ∧ ∀ σ8 : Mm, σ8 = kwi σ4 4 (x1_5.toNatClampNeg) (σ4.1 6 (((3 * (σ4.1 0 11)) + x1_5).toNatClampNeg)) → wp_X11_back_L22 K52 n σ8 (x1_5 + 1)))))
def wp_X11_back (σ : Mm)  (Φ : Int32 → Mm → Prop) : Prop := (((¬ (σ.1 0 11) = 0 → (∀ σ1 : Mm, σ1 = kwi σ 0 11 ((σ.1 0 11) - 1) → (∃ K52 : Mm → Prop, (∀ (σ2 : Mm), K52 σ2 → (∀ σ3 : Mm, σ3 = kwi σ2 0 9 0 → Φ (σ3.1 0 11) σ3)) ∧ ∃ n : Nat, wp_X11_back_L22 K52 n σ1 0))) ∧ ((σ.1 0 11) = 0 → Φ (-2) σ)))
def wp_X11_bar_L12 (x1 : Int32) (x2_2 : Int32) (K64 : Mm → Prop) : Nat → Mm → Int32 → Prop
  | 0, _, _ => False
  | n + 1, σ4, x3_5 => (((1008 ≤ x3_5 → K64 σ4) ∧ (¬ (1008 ≤ x3_5) → ((0 ≤ x2_2 ∧ x2_2 < 6) ∧ ∃ K57 : Int64 → Prop, (∀ (v7 : Int64), K57 v7 → ((0 ≤ x3_5 ∧ x3_5 < 1008) ∧ ∀ σ9 : Mm, σ9 = kwl σ4 15 (x3_5.toNatClampNeg) v7 → wp_X11_bar_L12 x1 x2_2 K64 n σ9 (x3_5 + 1))) ∧ ∃ K51 : Prop, (K51 → ((0 ≤ x3_5 ∧ x3_5 < 1008) ∧ K57 (σ4.2.1 15 (x3_5.toNatClampNeg)))) ∧ ((¬ (σ4.1 14 (x2_2.toNatClampNeg)) = x1 → K51) ∧ ((σ4.1 14 (x2_2.toNatClampNeg)) = x1 → (wp_X11_yardOf x3_5 (fun r12 => (0 ≤ x2_2 ∧ x2_2 < 6) ∧ ((r12 = (σ4.1 13 (x2_2.toNatClampNeg)) → K51) ∧ (¬ (r12 = (σ4.1 13 (x2_2.toNatClampNeg))) → K57 0))))))))))
def wp_X11_bar_L2 (x1 : Int32) (Φ : Mm → Prop) : Nat → Mm → Int32 → Prop
  | 0, _, _ => False
  | n + 1, σ1, x2_2 => ((((σ1.1 0 21) ≤ x2_2 → Φ σ1) ∧ (¬ ((σ1.1 0 21) ≤ x2_2) → (∃ K64 : Mm → Prop, (∀ (σ3 : Mm), K64 σ3 → wp_X11_bar_L2 x1 Φ n σ3 (x2_2 + 1)) ∧ ∃ n : Nat, wp_X11_bar_L12 x1 x2_2 K64 n σ1 0))))
def wp_X11_bar (σ : Mm) (x1 : Int32) (Φ : Mm → Prop) : Prop := (∃ n : Nat, wp_X11_bar_L2 x1 Φ n σ 0)
def wp_X11_in (x0 : Int32) (x1 : Int32) (x2 : Int32) (Φ : Int32 → Prop) : Prop := (((x0 < x1 → Φ 0) ∧ (¬ (x0 < x1) → (((x2 < x0 → Φ 0) ∧ (¬ (x2 < x0) → Φ 1))))))
def wp_X11_isState (σ : Mm) (x1 : Int32) (Φ : Int32 → Prop) : Prop := (∀ x2_1 : Int32, x2_1 = (x1 / 48) → wp_X11_whomOf x1 (fun r3 => ∃ K44 : Int32 → Prop, (∀ (v4 : Int32), K44 v4 → (wp_X11_yardOf x1 (fun r6 => (((σ.1 1 0) ≤ r6 → Φ 0) ∧ (¬ ((σ.1 1 0) ≤ r6) → (wp_X11_whomOf x1 (fun r8 => (((σ.1 1 1) ≤ r8 → Φ 0) ∧ (¬ ((σ.1 1 1) ≤ r8) → (((v4 = 0 → Φ 0) ∧ (¬ (v4 = 0) → Φ 1)))))))))))) ∧ ∃ K21 : Prop, (K21 → (((¬ x2_1 = 0 → K44 0) ∧ (x2_1 = 0 → K44 1)))) ∧ ((r3 < 0 → K21) ∧ (¬ (r3 < 0) → (((¬ (σ.1 1 2) = 0 → (wp_X11_in x2_1 1 (σ.1 1 2) (fun r10 => K44 r10))) ∧ ((σ.1 1 2) = 0 → K21)))))))
def wp_X11_isUpTo (σ : Mm) (x1 : Int32) (x2 : Int32) (Φ : Int32 → Prop) : Prop := ((0 ≤ x1 ∧ x1 < 6) ∧ (0 ≤ x2 ∧ x2 < 6) ∧ (((σ.1 8 (x1.toNatClampNeg)) < (σ.1 8 (x2.toNatClampNeg)) → Φ 1) ∧ (¬ ((σ.1 8 (x1.toNatClampNeg)) < (σ.1 8 (x2.toNatClampNeg))) → ((0 ≤ x1 ∧ x1 < 6) ∧ (0 ≤ x2 ∧ x2 < 6) ∧ ((¬ (σ.1 8 (x1.toNatClampNeg)) = (σ.1 8 (x2.toNatClampNeg)) → Φ 0) ∧ ((σ.1 8 (x1.toNatClampNeg)) = (σ.1 8 (x2.toNatClampNeg)) → (((x2 < x1 → Φ 0) ∧ (¬ (x2 < x1) → Φ 1)))))))))
def wp_X11_fits_L6 (x1 : Int32) (x2 : Int32) (x3 : Int32) (σ : Mm) (Φ : Int32 → Prop) : Nat → Int32 → Int32 → Prop
  | 0, _, _ => False
  | n + 1, x4_1, x5_2 => ((((σ.1 0 14) ≤ x5_2 → (kbit x4_1 ∧ Φ x4_1)) ∧ (¬ ((σ.1 0 14) ≤ x5_2) → (∃ K60 : Int32 → Prop, (∀ (v3 : Int32), K60 v3 → wp_X11_fits_L6 x1 x2 x3 σ Φ n v3 (x5_2 + 1)) ∧ ∃ K59 : Prop, (K59 → K60 0) ∧ ((x4_1 = 0 → K59) ∧ (¬ (x4_1 = 0) → ((0 ≤ x5_2 ∧ x5_2 < 6) ∧ ∃ K55 : Prop, (K55 → K60 1) ∧ ((¬ (σ.1 8 (x5_2.toNatClampNeg)) = x2 → K55) ∧ ((σ.1 8 (x5_2.toNatClampNeg)) = x2 → (wp_X11_isUpTo σ x5_2 x3 (fun r6 => ((r6 = 0 → K55) ∧ (¬ (r6 = 0) → ((0 ≤ x5_2 ∧ x5_2 < 6) ∧ wp_X11_yardOf x1 (fun r9 => ((¬ (σ.1 7 (x5_2.toNatClampNeg)) = r9 → K59) ∧ ((σ.1 7 (x5_2.toNatClampNeg)) = r9 → K55)))))))))))))))))
def wp_X11_fits (σ : Mm) (x1 : Int32) (x2 : Int32) (x3 : Int32) (Φ : Int32 → Prop) : Prop := (∃ n : Nat, wp_X11_fits_L6 x1 x2 x3 σ Φ n 1 0)
def wp_X11_fedBy (σ : Mm) (x1 : Int32) (x2 : Int32) (Φ : Int32 → Prop) : Prop := (wp_X11_yardOf x1 (fun r2 => Φ ((r2 + (8 * (x2 + 1))) + (48 * (σ.1 1 2)))))
def wp_X11_costBy (σ : Mm) (x1 : Int32) (x2 : Int32) (x3 : Int32) (Φ : Int32 → Prop) : Prop := (∃ K14 : Int32 → Prop, (∀ (v1 : Int32), K14 v1 → (wp_X11_after σ v1 (((σ.1 4 0) + x2) + 1) (fun r3 => (0 ≤ r3 ∧ r3 < 1008) ∧ ∀ x5_5 : Int32, x5_5 = (σ.1 9 (r3.toNatClampNeg)) → ((x5_5 < 999999 → (∃ K70 : Int32 → Prop, (∀ (v6 : Int32), K70 v6 → Φ (x5_5 + v6)) ∧ ((0 ≤ x3 → ((0 ≤ (12 + x3) ∧ (12 + x3) < 164) ∧ K70 (σ.1 1 ((12 + x3).toNatClampNeg)))) ∧ (¬ (0 ≤ x3) → K70 0)))) ∧ (¬ (x5_5 < 999999) → Φ 999999))))) ∧ ((0 ≤ x3 → (wp_X11_fedBy σ x1 x3 (fun r9 => K14 r9))) ∧ (¬ (0 ≤ x3) → K14 x1)))
def wp_X11_mayFeed (σ : Mm) (x1 : Int32) (x2 : Int32) (x3 : Int32) (Φ : Int32 → Prop) : Prop := (wp_X11_placeOf σ x2 x3 (fun r2 => wp_X11_yardOf x1 (fun r4 => ((¬ r2 = r4 → Φ 0) ∧ (r2 = r4 → Φ 1)))))
def wp_X11_leastOf_L11 (x1 : Int32) (x2 : Int32) (σ : Mm) (Φ : Int32 → Prop) : Nat → Int32 → Int32 → Prop
  | 0, _, _ => False
  | n + 1, x3_3, x4_4 => ((((σ.1 1 1) ≤ x4_4 → Φ x3_3) ∧ (¬ ((σ.1 1 1) ≤ x4_4) → (wp_X11_mayFeed σ x1 x4_4 ((σ.1 4 0) + x2) (fun r6 => ∃ K53 : Int32 → Prop, (∀ (v7 : Int32), K53 v7 → (∃ K67 : Int32 → Prop, (∀ (v8 : Int32), K67 v8 → wp_X11_leastOf_L11 x1 x2 σ Φ n v8 (x4_4 + 1)) ∧ ((x3_3 ≤ v7 → K67 x3_3) ∧ (¬ (x3_3 ≤ v7) → K67 v7)))) ∧ ((r6 = 0 → K53 999999) ∧ (¬ (r6 = 0) → (wp_X11_costBy σ x1 x2 x4_4 (fun r10 => K53 r10)))))))))
def wp_X11_leastOf (σ : Mm) (x1 : Int32) (x2 : Int32) (Φ : Int32 → Prop) : Prop := (wp_X11_costBy σ x1 x2 (-1) (fun r2 => (∃ n : Nat, wp_X11_leastOf_L11 x1 x2 σ Φ n r2 0)))
def wp_X11_priceTo_L109 (K137 : Mm → Prop) : Nat → Mm → Int32 → Prop
  | 0, _, _ => False
  | n + 1, σ13, x4_14 => (((1008 ≤ x4_14 → K137 σ13) ∧ (¬ (1008 ≤ x4_14) → ((0 ≤ x4_14 ∧ x4_14 < 1008) ∧ (0 ≤ x4_14 ∧ x4_14 < 1008) ∧ ∀ σ17 : Mm, σ17 = kwi σ13 9 (x4_14.toNatClampNeg) (σ13.1 10 (x4_14.toNatClampNeg)) → wp_X11_priceTo_L109 K137 n σ17 (x4_14 + 1)))))
def wp_X11_priceTo_L44 (x1 : Int32) (x2_2 : Int32) (x3_10 : Int32) (K106 : Mm → Prop) : Nat → Mm → Int32 → Prop
  | 0, _, _ => False
  | n + 1, σ18, x4_19 => (((1008 ≤ x4_19 → K106 σ18) ∧ (¬ (1008 ≤ x4_19) → (wp_X11_isState σ18 x4_19 (fun r21 => ∃ K99 : Int32 → Prop, (∀ (v22 : Int32), K99 v22 → ((0 ≤ x4_19 ∧ x4_19 < 1008) ∧ ∀ σ24 : Mm, σ24 = kwi σ18 10 (x4_19.toNatClampNeg) v22 → wp_X11_priceTo_L44 x1 x2_2 x3_10 K106 n σ24 (x4_19 + 1))) ∧ ∃ K97 : Prop, (K97 → K99 999999) ∧ ((r21 = 0 → K97) ∧ (¬ (r21 = 0) → (wp_X11_fits σ18 x4_19 x3_10 x1 (fun r26 => ((r26 = 0 → K97) ∧ (¬ (r26 = 0) → (((¬ x3_10 = x2_2 → (wp_X11_leastOf σ18 x4_19 x3_10 (fun r28 => K99 r28))) ∧ (x3_10 = x2_2 → K99 0))))))))))))))
def wp_X11_priceTo_L37 (x1 : Int32) (x2_2 : Int32) (K143 : Mm → Prop) : Nat → Mm → Int32 → Prop
  | 0, _, _ => False
  | n + 1, σ9, x3_10 => (((x3_10 ≤ 0 → K143 σ9) ∧ (¬ (x3_10 ≤ 0) → (∃ K106 : Mm → Prop, (∀ (σ11 : Mm), K106 σ11 → (∃ K137 : Mm → Prop, (∀ (σ12 : Mm), K137 σ12 → wp_X11_priceTo_L37 x1 x2_2 K143 n σ12 (x3_10 + (-1))) ∧ ∃ n : Nat, wp_X11_priceTo_L109 K137 n σ11 0)) ∧ ∃ n : Nat, wp_X11_priceTo_L44 x1 x2_2 x3_10 K106 n σ9 0))))
def wp_X11_priceTo_L15 (K35 : Mm → Prop) : Nat → Mm → Int32 → Prop
  | 0, _, _ => False
  | n + 1, σ29, x3_30 => (((1008 ≤ x3_30 → K35 σ29) ∧ (¬ (1008 ≤ x3_30) → ((0 ≤ x3_30 ∧ x3_30 < 1008) ∧ ∀ σ32 : Mm, σ32 = kwi σ29 9 (x3_30.toNatClampNeg) 0 → wp_X11_priceTo_L15 K35 n σ32 (x3_30 + 1)))))
def wp_X11_priceTo (σ : Mm) (x1 : Int32) (Φ : Int32 → Mm → Prop) : Prop := (((0 ≤ x1 → ((0 ≤ x1 ∧ x1 < 6) ∧ ∀ x2_2 : Int32, x2_2 = (σ.1 8 (x1.toNatClampNeg)) → (∃ K35 : Mm → Prop, (∀ (σ3 : Mm), K35 σ3 → (∃ K143 : Mm → Prop, (∀ (σ4 : Mm), K143 σ4 → (wp_X11_fits σ4 (σ4.1 4 1) 0 x1 (fun r6 => ((¬ r6 = 0 → (((¬ x2_2 = 0 → (wp_X11_leastOf σ4 (σ4.1 4 1) 0 (fun r8 => Φ r8 σ4))) ∧ (x2_2 = 0 → Φ 0 σ4)))) ∧ (r6 = 0 → Φ 999999 σ4))))) ∧ ∃ n : Nat, wp_X11_priceTo_L37 x1 x2_2 K143 n σ3 x2_2)) ∧ ∃ n : Nat, wp_X11_priceTo_L15 K35 n σ 0))) ∧ (¬ (0 ≤ x1) → Φ 0 σ)))
def wp_X11_bars_L5 (Φ : Int32 → Mm → Prop) : Nat → Mm → Int32 → Int32 → Prop
  | 0, _, _, _ => False
  | n + 1, σ1, x1_2, x2_3 => ((((σ1.1 0 14) ≤ x2_3 → Φ x1_2 σ1) ∧ (¬ ((σ1.1 0 14) ≤ x2_3) → (wp_X11_priceTo σ1 x2_3 (fun r5 σ4 => ∃ K40 : Int32 → Prop, (∀ (x1_6 : Int32), K40 x1_6 → wp_X11_bars_L5 Φ n σ4 x1_6 (x2_3 + 1)) ∧ ((r5 < 999999 → K40 x1_2) ∧ (¬ (r5 < 999999) → (∃ K38 : Prop, (K38 → K40 x2_3) ∧ ((x1_2 = (-4) → K38) ∧ (¬ (x1_2 = (-4)) → (wp_X11_isUpTo σ4 x2_3 x1_2 (fun r8 => ((r8 = 0 → K40 x1_2) ∧ (¬ (r8 = 0) → K38))))))))))))))
def wp_X11_bars (σ : Mm)  (Φ : Int32 → Mm → Prop) : Prop := (∃ n : Nat, wp_X11_bars_L5 Φ n σ (-4) 0)
def wp_X11_begin_L88 (x1_11 : Int32) (x2_14 : Int32) (K168 : Mm → Prop) : Nat → Mm → Int32 → Prop
  | 0, _, _ => False
  | n + 1, σ16, x3_17 => (((8 ≤ x3_17 → K168 σ16) ∧ (¬ (8 ≤ x3_17) → ((0 ≤ ((8 * x2_14) + x1_11) ∧ ((8 * x2_14) + x1_11) < 64) ∧ (0 ≤ ((8 * x1_11) + x3_17) ∧ ((8 * x1_11) + x3_17) < 64) ∧ ∀ x4_20 : Int32, x4_20 = ((σ16.1 2 (((8 * x2_14) + x1_11).toNatClampNeg)) + (σ16.1 2 (((8 * x1_11) + x3_17).toNatClampNeg))) → (0 ≤ ((8 * x2_14) + x3_17) ∧ ((8 * x2_14) + x3_17) < 64) ∧ ∃ K161 : Int32 → Prop, (∀ (v22 : Int32), K161 v22 → ((0 ≤ ((8 * x2_14) + x3_17) ∧ ((8 * x2_14) + x3_17) < 64) ∧ ∀ σ24 : Mm, σ24 = kwi σ16 2 (((8 * x2_14) + x3_17).toNatClampNeg) v22 → wp_X11_begin_L88 x1_11 x2_14 K168 n σ24 (x3_17 + 1))) ∧ (((σ16.1 2 (((8 * x2_14) + x3_17).toNatClampNeg)) ≤ x4_20 → ((0 ≤ ((8 * x2_14) + x3_17) ∧ ((8 * x2_14) + x3_17) < 64) ∧ K161 (σ16.1 2 (((8 * x2_14) + x3_17).toNatClampNeg)))) ∧ (¬ ((σ16.1 2 (((8 * x2_14) + x3_17).toNatClampNeg)) ≤ x4_20) → K161 x4_20))))))
def wp_X11_begin_L80 (x1_11 : Int32) (K174 : Mm → Prop) : Nat → Mm → Int32 → Prop
  | 0, _, _ => False
  | n + 1, σ13, x2_14 => (((8 ≤ x2_14 → K174 σ13) ∧ (¬ (8 ≤ x2_14) → (∃ K168 : Mm → Prop, (∀ (σ15 : Mm), K168 σ15 → wp_X11_begin_L80 x1_11 K174 n σ15 (x2_14 + 1)) ∧ ∃ n : Nat, wp_X11_begin_L88 x1_11 x2_14 K168 n σ13 0))))
def wp_X11_begin_L72 (K180 : Mm → Prop) : Nat → Mm → Int32 → Prop
  | 0, _, _ => False
  | n + 1, σ10, x1_11 => (((8 ≤ x1_11 → K180 σ10) ∧ (¬ (8 ≤ x1_11) → (∃ K174 : Mm → Prop, (∀ (σ12 : Mm), K174 σ12 → wp_X11_begin_L72 K180 n σ12 (x1_11 + 1)) ∧ ∃ n : Nat, wp_X11_begin_L80 x1_11 K174 n σ10 0))))
def wp_X11_begin_L10 (x1_27 : Int32) (K64 : Mm → Prop) : Nat → Mm → Int32 → Prop
  | 0, _, _ => False
  | n + 1, σ29, x2_30 => (((8 ≤ x2_30 → K64 σ29) ∧ (¬ (8 ≤ x2_30) → (∃ K57 : Int32 → Prop, (∀ (v31 : Int32), K57 v31 → ((0 ≤ ((8 * x1_27) + x2_30) ∧ ((8 * x1_27) + x2_30) < 64) ∧ ∀ σ33 : Mm, σ33 = kwi σ29 2 (((8 * x1_27) + x2_30).toNatClampNeg) v31 → wp_X11_begin_L10 x1_27 K64 n σ33 (x2_30 + 1))) ∧ ((¬ x1_27 = x2_30 → ((0 ≤ (4 + x1_27) ∧ (4 + x1_27) < 164) ∧ ((¬ (((σ29.1 1 ((4 + x1_27).toNatClampNeg)) >>> (x2_30 &&& 31)) &&& 1) = 1 → K57 999999) ∧ ((((σ29.1 1 ((4 + x1_27).toNatClampNeg)) >>> (x2_30 &&& 31)) &&& 1) = 1 → K57 1)))) ∧ (x1_27 = x2_30 → K57 0))))))
def wp_X11_begin_L2 (K70 : Mm → Prop) : Nat → Mm → Int32 → Prop
  | 0, _, _ => False
  | n + 1, σ26, x1_27 => (((8 ≤ x1_27 → K70 σ26) ∧ (¬ (8 ≤ x1_27) → (∃ K64 : Mm → Prop, (∀ (σ28 : Mm), K64 σ28 → wp_X11_begin_L2 K70 n σ28 (x1_27 + 1)) ∧ ∃ n : Nat, wp_X11_begin_L10 x1_27 K64 n σ26 0))))
def wp_X11_begin (σ : Mm)  (Φ : Mm → Prop) : Prop := (∃ K70 : Mm → Prop, (∀ (σ1 : Mm), K70 σ1 → (∃ K180 : Mm → Prop, (∀ (σ2 : Mm), K180 σ2 → (∀ σ3 : Mm, σ3 = kwi σ2 4 0 0 → ∀ σ4 : Mm, σ4 = kwi σ3 4 1 (σ3.1 1 3) → ∀ σ5 : Mm, σ5 = kwi σ4 4 2 0 → ∀ σ6 : Mm, σ6 = kwi σ5 0 9 0 → ∀ σ7 : Mm, σ7 = kwi σ6 0 11 0 → ∀ σ8 : Mm, σ8 = kwi σ7 0 14 0 → ∀ σ9 : Mm, σ9 = kwi σ8 0 21 0 → Φ σ9)) ∧ ∃ n : Nat, wp_X11_begin_L72 K180 n σ1 0)) ∧ ∃ n : Nat, wp_X11_begin_L2 K70 n σ 0)
def wp_X11_gone_L6 (x2 : Int32) (x3 : Int32) (σ : Mm) (Φ : Int32 → Prop) : Nat → Int32 → Int32 → Prop
  | 0, _, _ => False
  | n + 1, x4_1, x5_2 => (((x3 < x5_2 → Φ x4_1) ∧ (¬ (x3 < x5_2) → (wp_X11_after σ x4_1 (x2 + x5_2) (fun r4 => wp_X11_gone_L6 x2 x3 σ Φ n r4 (x5_2 + 1))))))
def wp_X11_gone (σ : Mm) (x1 : Int32) (x2 : Int32) (x3 : Int32) (Φ : Int32 → Prop) : Prop := (∃ n : Nat, wp_X11_gone_L6 x2 x3 σ Φ n x1 1)
def wp_X11_calf (σ : Mm) (x1 : Int32) (x2 : Int32) (Φ : Int32 → Prop) : Prop := (wp_X11_in x1 0 400 (fun r2 => ((r2 = 0 → Φ (-1)) ∧ (¬ (r2 = 0) → (wp_X11_in x2 0 1 (fun r4 => ((¬ r4 = 0 → (wp_X11_gone σ (σ.1 4 1) (σ.1 4 0) x1 (fun r6 => ((¬ x2 = 0 → (wp_X11_whomOf r6 (fun r8 => ((0 ≤ r8 → (wp_X11_whomOf r6 (fun r10 => Φ r10))) ∧ (¬ (0 ≤ r8) → Φ (-4)))))) ∧ (x2 = 0 → (wp_X11_yardOf r6 (fun r12 => Φ r12))))))) ∧ (r4 = 0 → Φ (-1)))))))))
def wp_X11_isWonBy (σ : Mm) (x1 : Int32) (x2 : Int32) (x3 : Int32) (Φ : Int32 → Prop) : Prop := (∃ K19 : Int32 → Prop, (∀ (v1 : Int32), K19 v1 → (wp_X11_after σ v1 (((σ.1 4 0) + x2) + 1) (fun r3 => (0 ≤ r3 ∧ r3 < 1008) ∧ kbit (σ.1 11 (r3.toNatClampNeg)) ∧ Φ (σ.1 11 (r3.toNatClampNeg))))) ∧ ((0 ≤ x3 → (wp_X11_fedBy σ x1 x3 (fun r6 => K19 r6))) ∧ (¬ (0 ≤ x3) → K19 x1)))
def wp_X11_canWin_L25 (x1 : Int32) (x2 : Int32) (x3 : Int32) (σ : Mm) (Φ : Int32 → Prop) (v1 : Int32) : Nat → Int32 → Int32 → Prop
  | 0, _, _ => False
  | n + 1, x5_4, x6_5 => ((((σ.1 1 1) ≤ x6_5 → (kbit x5_4 ∧ Φ x5_4)) ∧ (¬ ((σ.1 1 1) ≤ x6_5) → (∃ K52 : Int32 → Prop, (∀ (v6 : Int32), K52 v6 → (∃ K125 : Int32 → Prop, (∀ (x5_7 : Int32), K125 x5_7 → wp_X11_canWin_L25 x1 x2 x3 σ Φ v1 n x5_7 (x6_5 + 1)) ∧ ((¬ ((x3 >>> (x6_5 &&& 31)) &&& 1) = v6 → K125 x5_4) ∧ (((x3 >>> (x6_5 &&& 31)) &&& 1) = v6 → (wp_X11_mayFeed σ x1 x6_5 ((σ.1 4 0) + x2) (fun r9 => ((r9 = 0 → K125 x5_4) ∧ (¬ (r9 = 0) → (∃ K123 : Int32 → Prop, (∀ (v10 : Int32), K123 v10 → K125 v10) ∧ ((v1 = 0 → (∃ K122 : Prop, (K122 → K123 0) ∧ ((x5_4 = 0 → K122) ∧ (¬ (x5_4 = 0) → (wp_X11_isWonBy σ x1 x2 x6_5 (fun r12 => ((r12 = 0 → K122) ∧ (¬ (r12 = 0) → K123 1)))))))) ∧ (¬ (v1 = 0) → (∃ K94 : Prop, (K94 → K123 1) ∧ ((¬ x5_4 = 0 → K94) ∧ (x5_4 = 0 → (wp_X11_isWonBy σ x1 x2 x6_5 (fun r14 => ((r14 = 0 → K123 0) ∧ (¬ (r14 = 0) → K94)))))))))))))))))) ∧ ((v1 = 0 → K52 0) ∧ (¬ (v1 = 0) → K52 1))))))
def wp_X11_canWin (σ : Mm) (x1 : Int32) (x2 : Int32) (x3 : Int32) (Φ : Int32 → Prop) : Prop := (∃ K11 : Int32 → Prop, (∀ (v1 : Int32), K11 v1 → (wp_X11_isWonBy σ x1 x2 (-1) (fun r3 => (∃ n : Nat, wp_X11_canWin_L25 x1 x2 x3 σ Φ v1 n r3 0)))) ∧ ((¬ (x2 - x2 / 2 * 2) = 0 → K11 0) ∧ ((x2 - x2 / 2 * 2) = 0 → K11 1)))
def wp_X11_isYard (σ : Mm) (x1 : Int32) (Φ : Int32 → Prop) : Prop := (wp_X11_in x1 0 ((σ.1 1 0) - 1) (fun r2 => kbit r2 ∧ Φ r2))
def wp_X11_startWays_L2 (x1 : Int32) (Φ : Mm → Prop) : Nat → Mm → Int32 → Prop
  | 0, _, _ => False
  | n + 1, σ1, x2_2 => (((1008 ≤ x2_2 → Φ σ1) ∧ (¬ (1008 ≤ x2_2) → (∃ K24 : Int64 → Prop, (∀ (v3 : Int64), K24 v3 → ((0 ≤ x2_2 ∧ x2_2 < 1008) ∧ ∀ σ5 : Mm, σ5 = kwl σ1 15 (x2_2.toNatClampNeg) v3 → wp_X11_startWays_L2 x1 Φ n σ5 (x2_2 + 1))) ∧ ((¬ x2_2 = x1 → K24 0) ∧ (x2_2 = x1 → K24 1))))))
def wp_X11_startWays (σ : Mm) (x1 : Int32) (Φ : Mm → Prop) : Prop := (∃ n : Nat, wp_X11_startWays_L2 x1 Φ n σ 0)
def wp_X11_goOn_L231 (Φ : Mm → Prop) : Nat → Mm → Int32 → Prop
  | 0, _, _ => False
  | n + 1, σ3, x4_4 => (((1008 ≤ x4_4 → Φ σ3) ∧ (¬ (1008 ≤ x4_4) → ((0 ≤ x4_4 ∧ x4_4 < 1008) ∧ (0 ≤ x4_4 ∧ x4_4 < 1008) ∧ ∀ σ7 : Mm, σ7 = kwl σ3 15 (x4_4.toNatClampNeg) (σ3.2.1 16 (x4_4.toNatClampNeg)) → wp_X11_goOn_L231 Φ n σ7 (x4_4 + 1)))))
def wp_X11_goOn_L142 (x1 : Int32) (x2 : Int32) (x3 : Int32) (x4_9 : Int32) (K222 : Mm → Prop) (x5_12 : Int32) : Nat → Mm → Int32 → Prop
  | 0, _, _ => False
  | n + 1, σ20, x6_21 => ((((σ20.1 1 1) ≤ x6_21 → K222 σ20) ∧ (¬ ((σ20.1 1 1) ≤ x6_21) → (∃ K216 : Mm → Prop, (∀ (σ22 : Mm), K216 σ22 → wp_X11_goOn_L142 x1 x2 x3 x4_9 K222 x5_12 n σ22 (x6_21 + 1)) ∧ ((x6_21 = x2 → K216 σ20) ∧ (¬ (x6_21 = x2) → (wp_X11_mayFeed σ20 x4_9 x6_21 x1 (fun r24 => ((r24 = 0 → K216 σ20) ∧ (¬ (r24 = 0) → (wp_X11_fedBy σ20 x4_9 x6_21 (fun r26 => wp_X11_after σ20 r26 (x1 + 1) (fun r28 => (0 ≤ r28 ∧ r28 < 1008) ∧ (0 ≤ x4_9 ∧ x4_9 < 1008) ∧ ∃ K212 : Int32 → Prop, (∀ (v31 : Int32), K212 v31 → ((0 ≤ r28 ∧ r28 < 1008) ∧ ∀ σ33 : Mm, σ33 = kwl σ20 16 (r28.toNatClampNeg) ((σ20.2.1 16 (r28.toNatClampNeg)) + ((σ20.2.1 15 (x4_9.toNatClampNeg)) * (v31.toInt64))) → K216 σ33)) ∧ ((x3 = 0 → K212 1) ∧ (¬ (x3 = 0) → ((¬ x5_12 = 0) ∧ K212 (60 / x5_12)))))))))))))))))
def wp_X11_goOn_L54 (x1 : Int32) (σ8 : Mm) (x4_9 : Int32) (K93 : Int32 → Prop) : Nat → Int32 → Int32 → Prop
  | 0, _, _ => False
  | n + 1, x5_34, x6_35 => ((((σ8.1 1 1) ≤ x6_35 → K93 x5_34) ∧ (¬ ((σ8.1 1 1) ≤ x6_35) → (wp_X11_mayFeed σ8 x4_9 x6_35 x1 (fun r37 => ∃ K84 : Int32 → Prop, (∀ (v38 : Int32), K84 v38 → (∀ x5_39 : Int32, x5_39 = (x5_34 + v38) → wp_X11_goOn_L54 x1 σ8 x4_9 K93 n x5_39 (x6_35 + 1))) ∧ ((r37 = 0 → K84 0) ∧ (¬ (r37 = 0) → K84 1)))))))
def wp_X11_goOn_L28 (x1 : Int32) (x2 : Int32) (x3 : Int32) (K228 : Mm → Prop) : Nat → Mm → Int32 → Prop
  | 0, _, _ => False
  | n + 1, σ8, x4_9 => (((1008 ≤ x4_9 → K228 σ8) ∧ (¬ (1008 ≤ x4_9) → ((0 ≤ x4_9 ∧ x4_9 < 1008) ∧ ∃ K222 : Mm → Prop, (∀ (σ11 : Mm), K222 σ11 → wp_X11_goOn_L28 x1 x2 x3 K228 n σ11 (x4_9 + 1)) ∧ (((lg_cmp (σ8.2.1 15 (x4_9.toNatClampNeg)) 0) ≤ 0 → K222 σ8) ∧ (¬ ((lg_cmp (σ8.2.1 15 (x4_9.toNatClampNeg)) 0) ≤ 0) → (∃ K93 : Int32 → Prop, (∀ (x5_12 : Int32), K93 x5_12 → (wp_X11_after σ8 x4_9 (x1 + 1) (fun r14 => (0 ≤ r14 ∧ r14 < 1008) ∧ (0 ≤ x4_9 ∧ x4_9 < 1008) ∧ ∃ K135 : Int32 → Prop, (∀ (v17 : Int32), K135 v17 → ((0 ≤ r14 ∧ r14 < 1008) ∧ ∀ σ19 : Mm, σ19 = kwl σ8 16 (r14.toNatClampNeg) ((σ8.2.1 16 (r14.toNatClampNeg)) + ((σ8.2.1 15 (x4_9.toNatClampNeg)) * (v17.toInt64))) → (∃ n : Nat, wp_X11_goOn_L142 x1 x2 x3 x4_9 K222 x5_12 n σ19 0))) ∧ ((¬ x3 = 0 → (((¬ x5_12 = 0 → K135 60) ∧ (x5_12 = 0 → K135 120)))) ∧ (x3 = 0 → K135 1))))) ∧ ∃ n : Nat, wp_X11_goOn_L54 x1 σ8 x4_9 K93 n 0 0)))))))
def wp_X11_goOn_L3 (K25 : Mm → Prop) : Nat → Mm → Int32 → Prop
  | 0, _, _ => False
  | n + 1, σ40, x4_41 => (((1008 ≤ x4_41 → K25 σ40) ∧ (¬ (1008 ≤ x4_41) → ((0 ≤ x4_41 ∧ x4_41 < 1008) ∧ ∀ σ43 : Mm, σ43 = kwl σ40 16 (x4_41.toNatClampNeg) 0 → wp_X11_goOn_L3 K25 n σ43 (x4_41 + 1)))))
def wp_X11_goOn (σ : Mm) (x1 : Int32) (x2 : Int32) (x3 : Int32) (Φ : Mm → Prop) : Prop := (∃ K25 : Mm → Prop, (∀ (σ1 : Mm), K25 σ1 → (∃ K228 : Mm → Prop, (∀ (σ2 : Mm), K228 σ2 → (∃ n : Nat, wp_X11_goOn_L231 Φ n σ2 0)) ∧ ∃ n : Nat, wp_X11_goOn_L28 x1 x2 x3 K228 n σ1 0)) ∧ ∃ n : Nat, wp_X11_goOn_L3 K25 n σ 0)
def wp_X11_chance_L135 (K160 : Int64 → Prop) : Nat → Int64 → Int64 → Prop
  | 0, _, _ => False
  | n + 1, x8_12, x10_13 => ((((lg_cmp x10_13 0) = 0 → K160 x8_12) ∧ (¬ ((lg_cmp x10_13 0) = 0) → ((¬ x10_13 = 0) ∧ ∀ x12_14 : Int64, x12_14 = (x8_12 - x8_12 / x10_13 * x10_13) → wp_X11_chance_L135 K160 n x10_13 x12_14))))
def wp_X11_chance_L88 (x1 : Int32) (σ8 : Mm) (K127 : Int64 → Prop) : Nat → Int64 → Int32 → Prop
  | 0, _, _ => False
  | n + 1, x6_15, x8_16 => (((1008 ≤ x8_16 → K127 x6_15) ∧ (¬ (1008 ≤ x8_16) → (wp_X11_yardOf x8_16 (fun r18 => ∃ K118 : Int64 → Prop, (∀ (v19 : Int64), K118 v19 → (∀ x6_20 : Int64, x6_20 = (x6_15 + v19) → wp_X11_chance_L88 x1 σ8 K127 n x6_20 (x8_16 + 1))) ∧ ((¬ r18 = x1 → K118 0) ∧ (r18 = x1 → ((0 ≤ x8_16 ∧ x8_16 < 1008) ∧ K118 (σ8.2.1 15 (x8_16.toNatClampNeg))))))))))
def wp_X11_chance_L47 (x2 : Int32) (K82 : Mm → Int64 → Prop) : Nat → Mm → Int64 → Int32 → Prop
  | 0, _, _, _ => False
  | n + 1, σ22, x4_23, x6_24 => (((x2 ≤ x6_24 → K82 σ22 x4_23) ∧ (¬ (x2 ≤ x6_24) → (wp_X11_goOn σ22 ((σ22.1 4 0) + x6_24) (-1) 1 (fun σ25 => ∀ x4_26 : Int64, x4_26 = (x4_23 * 120) → wp_X11_chance_L47 x2 K82 n σ25 x4_26 (x6_24 + 1))))))
def wp_X11_chance (σ : Mm) (x1 : Int32) (x2 : Int32) (x3 : Int32) (Φ : Int64 → Mm → Prop) : Prop := (wp_X11_isYard σ x1 (fun r2 => ((r2 = 0 → Φ (-1) σ) ∧ (¬ (r2 = 0) → (wp_X11_in x2 0 6 (fun r4 => ((r4 = 0 → Φ (-1) σ) ∧ (¬ (r4 = 0) → (wp_X11_in x3 0 1 (fun r6 => ((¬ r6 = 0 → (wp_X11_startWays σ (σ.1 4 1) (fun σ7 => (∃ K82 : Mm → Int64 → Prop, (∀ (σ8 : Mm) (x4_9 : Int64), K82 σ8 x4_9 → (∃ K127 : Int64 → Prop, (∀ (x6_10 : Int64), K127 x6_10 → (∃ K160 : Int64 → Prop, (∀ (x8_11 : Int64), K160 x8_11 → (((¬ x3 = 0 → ((¬ x8_11 = 0) ∧ Φ (x4_9 / x8_11) σ8)) ∧ (x3 = 0 → ((¬ x8_11 = 0) ∧ Φ (x6_10 / x8_11) σ8))))) ∧ ∃ n : Nat, wp_X11_chance_L135 K160 n x6_10 x4_9)) ∧ ∃ n : Nat, wp_X11_chance_L88 x1 σ8 K127 n 0 0)) ∧ ∃ n : Nat, wp_X11_chance_L47 x2 K82 n σ7 1 0)))) ∧ (r6 = 0 → Φ (-1) σ))))))))))))
def wp_X11_count (σ : Mm) (x1 : Int32) (Φ : Int32 → Prop) : Prop := (∀ w1 : Int32, w1 = x1 → ((w1 = 0 → Φ (σ.1 1 0)) ∧ (w1 = 1 → Φ (σ.1 1 1)) ∧ (w1 = 2 → Φ (σ.1 4 0)) ∧ (w1 = 3 → Φ (σ.1 0 14)) ∧ (w1 = 4 → Φ (σ.1 0 21)) ∧ (w1 = 5 → Φ (σ.1 0 9)) ∧ (w1 = 6 → Φ (σ.1 0 11)) ∧ (w1 = 7 → Φ (σ.1 0 3)) ∧ ((w1.toInt < 0 ∨ 7 < w1.toInt) → Φ (-1))))
def wp_X11_here (σ : Mm)  (Φ : Int32 → Prop) : Prop := ((((σ.1 0 3) ≤ (σ.1 0 4) → Φ (-1)) ∧ (¬ ((σ.1 0 3) ≤ (σ.1 0 4)) → ((0 ≤ (σ.1 0 4) ∧ (σ.1 0 4) < 300) ∧ Φ ((σ.1 3 ((σ.1 0 4).toNatClampNeg)) &&& 255)))))
def wp_X11_due (σ : Mm) (x1 : Int32) (Φ : Mm → Prop) : Prop := (∃ K21 : Int32 → Prop, (∀ (v1 : Int32), K21 v1 → (kbit v1 ∧ ∀ σ2 : Mm, σ2 = kwi σ 0 5 v1 → ∀ σ3 : Mm, σ3 = kwi σ2 0 4 ((σ2.1 0 4) + 1) → Φ σ3)) ∧ ∃ K16 : Prop, (K16 → K21 1) ∧ ((¬ (σ.1 0 5) = 0 → K16) ∧ ((σ.1 0 5) = 0 → (wp_X11_here σ (fun r5 => ((r5 = x1 → K21 0) ∧ (¬ (r5 = x1) → K16)))))))
def wp_X11_far (σ : Mm) (x1 : Int32) (x2 : Int32) (Φ : Int32 → Prop) : Prop := (wp_X11_isYard σ x1 (fun r2 => ((r2 = 0 → Φ (-1)) ∧ (¬ (r2 = 0) → (wp_X11_isYard σ x2 (fun r4 => ((¬ r4 = 0 → ((0 ≤ ((8 * x1) + x2) ∧ ((8 * x1) + x2) < 64) ∧ (((σ.1 2 (((8 * x1) + x2).toNatClampNeg)) < 999999 → ((0 ≤ ((8 * x1) + x2) ∧ ((8 * x1) + x2) < 64) ∧ Φ (σ.1 2 (((8 * x1) + x2).toNatClampNeg)))) ∧ (¬ ((σ.1 2 (((8 * x1) + x2).toNatClampNeg)) < 999999) → Φ (-4))))) ∧ (r4 = 0 → Φ (-1)))))))))
def wp_X11_number_L5 (K54 : Mm → Int32 → Int32 → Prop) : Nat → Mm → Int32 → Int32 → Prop
  | 0, _, _, _ => False
  | n + 1, σ8, x3_9, x4_10 => (((2 ≤ x4_10 → K54 σ8 x3_9 x4_10) ∧ (¬ (2 ≤ x4_10) → (wp_X11_here σ8 (fun r12 => wp_X11_in r12 48 57 (fun r14 => ((r14 = 0 → K54 σ8 x3_9 x4_10) ∧ (¬ (r14 = 0) → (wp_X11_here σ8 (fun r16 => ∀ x3_17 : Int32, x3_17 = (((10 * x3_9) + r16) - 48) → ∀ σ18 : Mm, σ18 = kwi σ8 0 4 ((σ8.1 0 4) + 1) → wp_X11_number_L5 K54 n σ18 x3_17 (x4_10 + 1)))))))))))
def wp_X11_number (σ : Mm) (x1 : Int32) (x2 : Int32) (Φ : Int32 → Mm → Prop) : Prop := (∃ K54 : Mm → Int32 → Int32 → Prop, (∀ (σ1 : Mm) (x3_2 : Int32) (x4_3 : Int32), K54 σ1 x3_2 x4_3 → (∃ K81 : Int32 → Prop, (∀ (v4 : Int32), K81 v4 → (kbit v4 ∧ ∀ σ5 : Mm, σ5 = kwi σ1 0 5 v4 → Φ x3_2 σ5)) ∧ ∃ K76 : Prop, (K76 → K81 1) ∧ ((¬ (σ1.1 0 5) = 0 → K76) ∧ ((σ1.1 0 5) = 0 → (((x4_3 = 0 → K76) ∧ (¬ (x4_3 = 0) → (wp_X11_in x3_2 x1 x2 (fun r7 => ((¬ r7 = 0 → K81 0) ∧ (r7 = 0 → K76))))))))))) ∧ ∃ n : Nat, wp_X11_number_L5 K54 n σ 0 0)
def wp_X11_link (σ : Mm) (x1 : Int32) (x2 : Int32) (x3 : Int32) (Φ : Mm → Prop) : Prop := ((0 ≤ ((x1 + 4) + x2) ∧ ((x1 + 4) + x2) < 164) ∧ (0 ≤ ((x1 + 4) + x2) ∧ ((x1 + 4) + x2) < 164) ∧ ∀ σ3 : Mm, σ3 = kwi σ 1 (((x1 + 4) + x2).toNatClampNeg) ((σ.1 1 (((x1 + 4) + x2).toNatClampNeg)) ||| (1 <<< (x3 &&& 31))) → (0 ≤ ((x1 + 4) + x3) ∧ ((x1 + 4) + x3) < 164) ∧ (0 ≤ ((x1 + 4) + x3) ∧ ((x1 + 4) + x3) < 164) ∧ ∀ σ6 : Mm, σ6 = kwi σ3 1 (((x1 + 4) + x3).toNatClampNeg) ((σ3.1 1 (((x1 + 4) + x3).toNatClampNeg)) ||| (1 <<< (x2 &&& 31))) → Φ σ6)
def wp_X11_readWay_L12 (x1_1 : Int32) (K73 : Mm → Int32 → Prop) : Nat → Mm → Int32 → Prop
  | 0, _, _ => False
  | n + 1, σ8, x2_9 => (((12 ≤ x2_9 → K73 σ8 x2_9) ∧ (¬ (12 ≤ x2_9) → (wp_X11_here σ8 (fun r11 => wp_X11_in r11 48 55 (fun r13 => ((r13 = 0 → K73 σ8 x2_9) ∧ (¬ (r13 = 0) → (∃ K57 : Mm → Prop, (∀ (σ14 : Mm), K57 σ14 → (∀ σ15 : Mm, σ15 = kwi σ14 0 4 ((σ14.1 0 4) + 1) → wp_X11_readWay_L12 x1_1 K73 n σ15 (x2_9 + 1))) ∧ ((x1_1 < 0 → K57 σ8) ∧ (¬ (x1_1 < 0) → (wp_X11_here σ8 (fun r17 => (0 ≤ ((104 + (12 * x1_1)) + x2_9) ∧ ((104 + (12 * x1_1)) + x2_9) < 164) ∧ ∀ σ19 : Mm, σ19 = kwi σ8 1 (((104 + (12 * x1_1)) + x2_9).toNatClampNeg) (r17 - 48) → K57 σ19)))))))))))))
def wp_X11_readWay (σ : Mm)  (Φ : Mm → Prop) : Prop := (∀ x1_1 : Int32, x1_1 = ((σ.1 1 83) - 1) → (∃ K73 : Mm → Int32 → Prop, (∀ (σ2 : Mm) (x2_3 : Int32), K73 σ2 x2_3 → (∃ K94 : Int32 → Prop, (∀ (v4 : Int32), K94 v4 → (kbit v4 ∧ ∀ σ5 : Mm, σ5 = kwi σ2 0 5 v4 → ((x1_1 < 0 → Φ σ5) ∧ (¬ (x1_1 < 0) → ((0 ≤ (99 + x1_1) ∧ (99 + x1_1) < 164) ∧ ∀ σ7 : Mm, σ7 = kwi σ5 1 ((99 + x1_1).toNatClampNeg) x2_3 → Φ σ7))))) ∧ ∃ K89 : Prop, (K89 → K94 1) ∧ ((¬ (σ2.1 0 5) = 0 → K89) ∧ ((σ2.1 0 5) = 0 → (((x2_3 = 0 → K89) ∧ (¬ (x2_3 = 0) → (((0 ≤ x1_1 → K94 0) ∧ (¬ (0 ≤ x1_1) → K89)))))))))) ∧ ∃ n : Nat, wp_X11_readWay_L12 x1_1 K73 n σ 0))
def wp_X11_readItem (σ : Mm)  (Φ : Mm → Prop) : Prop := (wp_X11_here σ (fun r2 => ∀ σ3 : Mm, σ3 = kwi σ 0 4 ((σ.1 0 4) + 1) → ∀ w4 : Int32, w4 = r2 → ∃ K350 : Mm → Prop, (∀ (σ5 : Mm), K350 σ5 → (wp_X11_due σ5 59 (fun σ6 => Φ σ6))) ∧ (((w4 = 99 → (wp_X11_number σ3 0 7 (fun r8 σ7 => ∀ σ9 : Mm, σ9 = kwi σ7 1 85 r8 → K350 σ9))) ∧ (¬ w4 = 99 → ((w4 = 102 → (wp_X11_number σ3 0 20 (fun r11 σ10 => ∀ σ12 : Mm, σ12 = kwi σ10 1 84 r11 → K350 σ12))) ∧ (¬ w4 = 102 → ((w4 = 108 → (wp_X11_number σ3 0 ((σ3.1 1 82) - 1) (fun r14 σ13 => wp_X11_due σ13 44 (fun σ15 => wp_X11_number σ15 0 ((σ15.1 1 82) - 1) (fun r17 σ16 => ∃ K174 : Int32 → Prop, (∀ (v18 : Int32), K174 v18 → (kbit v18 ∧ ∀ σ19 : Mm, σ19 = kwi σ16 0 5 v18 → ∀ σ20 : Mm, σ20 = kwi σ19 0 6 1 → ((¬ (σ20.1 0 5) = 0 → K350 σ20) ∧ ((σ20.1 0 5) = 0 → (wp_X11_link σ20 82 r14 r17 (fun σ21 => K350 σ21)))))) ∧ ∃ K169 : Prop, (K169 → K174 1) ∧ ((¬ (σ16.1 0 5) = 0 → K169) ∧ ((σ16.1 0 5) = 0 → (((¬ r14 = r17 → K174 0) ∧ (r14 = r17 → K169)))))))))) ∧ (¬ w4 = 108 → ((w4 = 112 → (wp_X11_number σ3 0 99 (fun r23 σ22 => ∃ K234 : Int32 → Prop, (∀ (v24 : Int32), K234 v24 → (kbit v24 ∧ ∀ σ25 : Mm, σ25 = kwi σ22 0 5 v24 → ((¬ (σ25.1 0 5) = 0 → K350 σ25) ∧ ((σ25.1 0 5) = 0 → (∀ x6_26 : Int32, x6_26 = (σ25.1 1 83) → (0 ≤ (94 + x6_26) ∧ (94 + x6_26) < 164) ∧ ∀ σ28 : Mm, σ28 = kwi σ25 1 ((94 + x6_26).toNatClampNeg) r23 → (0 ≤ (99 + x6_26) ∧ (99 + x6_26) < 164) ∧ ∀ σ30 : Mm, σ30 = kwi σ28 1 ((99 + x6_26).toNatClampNeg) 1 → (0 ≤ (104 + (12 * x6_26)) ∧ (104 + (12 * x6_26)) < 164) ∧ ∀ σ32 : Mm, σ32 = kwi σ30 1 ((104 + (12 * x6_26)).toNatClampNeg) 0 → ∀ σ33 : Mm, σ33 = kwi σ32 1 83 ((σ32.1 1 83) + 1) → K350 σ33))))) ∧ ∃ K229 : Prop, (K229 → K234 1) ∧ ((¬ (σ22.1 0 5) = 0 → K229) ∧ ((σ22.1 0 5) = 0 → (((¬ (σ22.1 1 83) = 5 → K234 0) ∧ ((σ22.1 1 83) = 5 → K229)))))))) ∧ (¬ w4 = 112 → ((w4 = 119 → (wp_X11_readWay σ3 (fun σ34 => K350 σ34))) ∧ (¬ w4 = 119 → ((w4 = 121 → (wp_X11_number σ3 2 8 (fun r36 σ35 => ∃ K104 : Int32 → Prop, (∀ (v37 : Int32), K104 v37 → (kbit v37 ∧ ∀ σ38 : Mm, σ38 = kwi σ35 0 5 v37 → ∀ σ39 : Mm, σ39 = kwi σ38 1 82 r36 → K350 σ39)) ∧ ∃ K99 : Prop, (K99 → K104 1) ∧ ((¬ (σ35.1 0 5) = 0 → K99) ∧ ((σ35.1 0 5) = 0 → ((((σ35.1 0 6) = 0 → K104 0) ∧ (¬ ((σ35.1 0 6) = 0) → K99)))))))) ∧ (¬ w4 = 121 → (∀ σ40 : Mm, σ40 = kwi σ3 0 5 1 → K350 σ40))))))))))))))))
def wp_X11_findFault_L47 (Φ : Int32 → Mm → Prop) : Nat → Mm → Prop
  | 0, _ => False
  | n + 1, σ6 => ((((σ6.1 0 3) ≤ (σ6.1 0 4) → Φ (-4) σ6) ∧ (¬ ((σ6.1 0 3) ≤ (σ6.1 0 4)) → (∀ x1_7 : Int32, x1_7 = (σ6.1 0 4) → wp_X11_readItem σ6 (fun σ8 => (((σ8.1 0 5) = 0 → wp_X11_findFault_L47 Φ n σ8) ∧ (¬ ((σ8.1 0 5) = 0) → Φ x1_7 σ8)))))))
def wp_X11_findFault_L17 (K39 : Mm → Prop) : Nat → Mm → Int32 → Prop
  | 0, _, _ => False
  | n + 1, σ9, x1_10 => (((82 ≤ x1_10 → K39 σ9) ∧ (¬ (82 ≤ x1_10) → ((0 ≤ (82 + x1_10) ∧ (82 + x1_10) < 164) ∧ ∀ σ12 : Mm, σ12 = kwi σ9 1 ((82 + x1_10).toNatClampNeg) 0 → wp_X11_findFault_L17 K39 n σ12 (x1_10 + 1)))))
def wp_X11_findFault (σ : Mm)  (Φ : Int32 → Mm → Prop) : Prop := (∀ σ1 : Mm, σ1 = kwi σ 0 4 0 → ∀ σ2 : Mm, σ2 = kwi σ1 0 5 0 → ∀ σ3 : Mm, σ3 = kwi σ2 0 6 0 → (∃ K39 : Mm → Prop, (∀ (σ4 : Mm), K39 σ4 → (∀ σ5 : Mm, σ5 = kwi σ4 1 82 4 → (∃ n : Nat, wp_X11_findFault_L47 Φ n σ5))) ∧ ∃ n : Nat, wp_X11_findFault_L17 K39 n σ3 0))
def wp_X11_fault (σ : Mm)  (Φ : Int32 → Mm → Prop) : Prop := (wp_X11_findFault σ (fun r2 σ1 => Φ r2 σ1))
def wp_X11_isPerson (σ : Mm) (x1 : Int32) (Φ : Int32 → Prop) : Prop := (wp_X11_in x1 0 ((σ.1 1 1) - 1) (fun r2 => kbit r2 ∧ Φ r2))
def wp_X11_know_L49 (K79 : Mm → Prop) : Nat → Mm → Int32 → Prop
  | 0, _, _ => False
  | n + 1, σ4, x1_5 => (((3 ≤ x1_5 → K79 σ4) ∧ (¬ (3 ≤ x1_5) → ((0 ≤ x1_5 ∧ x1_5 < 3) ∧ (0 ≤ ((3 * (σ4.1 0 9)) + x1_5) ∧ ((3 * (σ4.1 0 9)) + x1_5) < 24) ∧ ∀ σ8 : Mm, σ8 = kwi σ4 5 (((3 * (σ4.1 0 9)) + x1_5).toNatClampNeg) (σ4.1 4 (x1_5.toNatClampNeg)) → wp_X11_know_L49 K79 n σ8 (x1_5 + 1)))))
def wp_X11_know_L11 (K37 : Mm → Prop) : Nat → Mm → Int32 → Prop
  | 0, _, _ => False
  | n + 1, σ11, x1_12 => (((21 ≤ x1_12 → K37 σ11) ∧ (¬ (21 ≤ x1_12) → ((0 ≤ (x1_12 + 3) ∧ (x1_12 + 3) < 24) ∧ (0 ≤ x1_12 ∧ x1_12 < 24) ∧ ∀ σ15 : Mm, σ15 = kwi σ11 5 (x1_12.toNatClampNeg) (σ11.1 5 ((x1_12 + 3).toNatClampNeg)) → wp_X11_know_L11 K37 n σ15 (x1_12 + 1)))))
def wp_X11_know (σ : Mm)  (Φ : Mm → Prop) : Prop := (∃ K47 : Mm → Prop, (∀ (σ1 : Mm), K47 σ1 → (∃ K79 : Mm → Prop, (∀ (σ2 : Mm), K79 σ2 → (∀ σ3 : Mm, σ3 = kwi σ2 0 9 ((σ2.1 0 9) + 1) → Φ σ3)) ∧ ∃ n : Nat, wp_X11_know_L49 K79 n σ1 0)) ∧ ((¬ (σ.1 0 9) = 8 → K47 σ) ∧ ((σ.1 0 9) = 8 → (∃ K37 : Mm → Prop, (∀ (σ9 : Mm), K37 σ9 → (∀ σ10 : Mm, σ10 = kwi σ9 0 9 ((σ9.1 0 9) - 1) → K47 σ10)) ∧ ∃ n : Nat, wp_X11_know_L11 K37 n σ 0))))
def wp_X11_feed (σ : Mm) (x1 : Int32) (Φ : Int32 → Mm → Prop) : Prop := (wp_X11_isPerson σ x1 (fun r2 => ((¬ r2 = 0 → (wp_X11_mayFeed σ (σ.1 4 1) x1 (σ.1 4 0) (fun r4 => ((¬ r4 = 0 → (wp_X11_know σ (fun σ5 => wp_X11_fedBy σ5 (σ5.1 4 1) x1 (fun r7 => ∀ σ8 : Mm, σ8 = kwi σ5 4 1 r7 → ∀ σ9 : Mm, σ9 = kwi σ8 4 2 ((σ8.1 4 2) + 1) → Φ (σ9.1 4 2) σ9)))) ∧ (r4 = 0 → Φ (-2) σ))))) ∧ (r2 = 0 → Φ (-1) σ))))
def wp_X11_lastGoal_L4 (σ : Mm) (Φ : Int32 → Prop) : Nat → Int32 → Int32 → Prop
  | 0, _, _ => False
  | n + 1, x1_1, x2_2 => ((((σ.1 0 14) ≤ x2_2 → Φ x1_1) ∧ (¬ ((σ.1 0 14) ≤ x2_2) → (∃ K30 : Int32 → Prop, (∀ (v3 : Int32), K30 v3 → wp_X11_lastGoal_L4 σ Φ n v3 (x2_2 + 1)) ∧ ∃ K25 : Prop, (K25 → K30 x2_2) ∧ ((x1_1 < 0 → K25) ∧ (¬ (x1_1 < 0) → (wp_X11_isUpTo σ x1_1 x2_2 (fun r5 => ((r5 = 0 → K30 x1_1) ∧ (¬ (r5 = 0) → K25))))))))))
def wp_X11_lastGoal (σ : Mm)  (Φ : Int32 → Prop) : Prop := (∃ n : Nat, wp_X11_lastGoal_L4 σ Φ n (-1) 0)
def wp_X11_first_L51 (Φ : Int32 → Mm → Prop) (r4 : Int32) (σ3 : Mm) : Nat → Int32 → Prop
  | 0, _ => False
  | n + 1, x3_8 => (wp_X11_mayFeed σ3 (σ3.1 4 1) x3_8 (σ3.1 4 0) (fun r10 => ∃ K87 : Prop, (K87 → wp_X11_first_L51 Φ r4 σ3 n (x3_8 + 1)) ∧ ((r10 = 0 → K87) ∧ (¬ (r10 = 0) → (wp_X11_costBy σ3 (σ3.1 4 1) 0 x3_8 (fun r12 => ((r12 = r4 → Φ x3_8 σ3) ∧ (¬ (r12 = r4) → K87))))))))
def wp_X11_first (σ : Mm)  (Φ : Int32 → Mm → Prop) : Prop := (wp_X11_lastGoal σ (fun r2 => wp_X11_priceTo σ r2 (fun r4 σ3 => ((999999 ≤ r4 → Φ (-4) σ3) ∧ (¬ (999999 ≤ r4) → (((r2 < 0 → Φ (-4) σ3) ∧ (¬ (r2 < 0) → ((0 ≤ r2 ∧ r2 < 6) ∧ (((σ3.1 8 (r2.toNatClampNeg)) = 0 → Φ (-4) σ3) ∧ (¬ ((σ3.1 8 (r2.toNatClampNeg)) = 0) → (wp_X11_costBy σ3 (σ3.1 4 1) 0 (-1) (fun r7 => ((¬ r7 = r4 → (∃ n : Nat, wp_X11_first_L51 Φ r4 σ3 n 0)) ∧ (r7 = r4 → Φ (-4) σ3)))))))))))))))
def wp_X11_forget (σ : Mm)  (Φ : Int32 → Mm → Prop) : Prop := (∀ x1_1 : Int32, x1_1 = (σ.1 0 21) → ∀ σ2 : Mm, σ2 = kwi σ 0 21 0 → Φ x1_1 σ2)
def wp_X11_game_L239 (x3 : Int32) (Φ : Int32 → Mm → Prop) (σ11 : Mm) : Nat → Int32 → Prop
  | 0, _ => False
  | n + 1, x6_16 => (∃ K285 : Prop, (K285 → wp_X11_game_L239 x3 Φ σ11 n (x6_16 + 1)) ∧ ((((x3 >>> (x6_16 &&& 31)) &&& 1) = 0 → K285) ∧ (¬ (((x3 >>> (x6_16 &&& 31)) &&& 1) = 0) → (wp_X11_mayFeed σ11 (σ11.1 4 1) x6_16 (σ11.1 4 0) (fun r18 => ((r18 = 0 → K285) ∧ (¬ (r18 = 0) → (wp_X11_isWonBy σ11 (σ11.1 4 1) 0 x6_16 (fun r20 => ((¬ r20 = 0 → Φ x6_16 σ11) ∧ (r20 = 0 → K285)))))))))))
def wp_X11_game_L149 (K177 : Mm → Prop) : Nat → Mm → Int32 → Prop
  | 0, _, _ => False
  | n + 1, σ25, x6_26 => (((1008 ≤ x6_26 → K177 σ25) ∧ (¬ (1008 ≤ x6_26) → ((0 ≤ x6_26 ∧ x6_26 < 1008) ∧ (0 ≤ x6_26 ∧ x6_26 < 1008) ∧ ∀ σ29 : Mm, σ29 = kwi σ25 11 (x6_26.toNatClampNeg) (vp_nar .boolean (σ25.1 12 (x6_26.toNatClampNeg))) → wp_X11_game_L149 K177 n σ29 (x6_26 + 1)))))
def wp_X11_game_L99 (x3 : Int32) (x5_22 : Int32) (K146 : Mm → Prop) : Nat → Mm → Int32 → Prop
  | 0, _, _ => False
  | n + 1, σ30, x6_31 => (((1008 ≤ x6_31 → K146 σ30) ∧ (¬ (1008 ≤ x6_31) → (wp_X11_isState σ30 x6_31 (fun r33 => ∃ K139 : Int32 → Prop, (∀ (v34 : Int32), K139 v34 → ((0 ≤ x6_31 ∧ x6_31 < 1008) ∧ ∀ σ36 : Mm, σ36 = kwi σ30 12 (x6_31.toNatClampNeg) (vp_nar .boolean v34) → wp_X11_game_L99 x3 x5_22 K146 n σ36 (x6_31 + 1))) ∧ ∃ K138 : Prop, (K138 → K139 0) ∧ ((r33 = 0 → K138) ∧ (¬ (r33 = 0) → (wp_X11_canWin σ30 x6_31 x5_22 x3 (fun r38 => ((r38 = 0 → K138) ∧ (¬ (r38 = 0) → K139 1)))))))))))
def wp_X11_game_L91 (x3 : Int32) (K183 : Mm → Prop) : Nat → Mm → Int32 → Prop
  | 0, _, _ => False
  | n + 1, σ21, x5_22 => (((x5_22 ≤ 0 → K183 σ21) ∧ (¬ (x5_22 ≤ 0) → (∃ K146 : Mm → Prop, (∀ (σ23 : Mm), K146 σ23 → (∃ K177 : Mm → Prop, (∀ (σ24 : Mm), K177 σ24 → wp_X11_game_L91 x3 K183 n σ24 (x5_22 + (-1))) ∧ ∃ n : Nat, wp_X11_game_L149 K177 n σ23 0)) ∧ ∃ n : Nat, wp_X11_game_L99 x3 x5_22 K146 n σ21 0))))
def wp_X11_game_L51 (x2 : Int32) (K86 : Mm → Prop) : Nat → Mm → Int32 → Prop
  | 0, _, _ => False
  | n + 1, σ39, x5_40 => (((1008 ≤ x5_40 → K86 σ39) ∧ (¬ (1008 ≤ x5_40) → (wp_X11_yardOf x5_40 (fun r42 => ∃ K79 : Int32 → Prop, (∀ (v43 : Int32), K79 v43 → ((0 ≤ x5_40 ∧ x5_40 < 1008) ∧ ∀ σ45 : Mm, σ45 = kwi σ39 11 (x5_40.toNatClampNeg) (vp_nar .boolean v43) → wp_X11_game_L51 x2 K86 n σ45 (x5_40 + 1))) ∧ ((¬ r42 = x2 → K79 0) ∧ (r42 = x2 → K79 1)))))))
def wp_X11_game (σ : Mm) (x1 : Int32) (x2 : Int32) (x3 : Int32) (x4 : Int32) (Φ : Int32 → Mm → Prop) : Prop := (wp_X11_in x1 1 12 (fun r2 => ((r2 = 0 → Φ (-1) σ) ∧ (¬ (r2 = 0) → (wp_X11_isYard σ x2 (fun r4 => ((r4 = 0 → Φ (-1) σ) ∧ (¬ (r4 = 0) → (wp_X11_in x3 0 ((1 <<< ((σ.1 1 1) &&& 31)) - 1) (fun r6 => ((r6 = 0 → Φ (-1) σ) ∧ (¬ (r6 = 0) → (wp_X11_in x4 0 1 (fun r8 => ((¬ r8 = 0 → (∃ K86 : Mm → Prop, (∀ (σ9 : Mm), K86 σ9 → (∀ x5_10 : Int32, x5_10 = (x1 - 1) → (∃ K183 : Mm → Prop, (∀ (σ11 : Mm), K183 σ11 → (wp_X11_canWin σ11 (σ11.1 4 1) 0 x3 (fun r13 => ((¬ x4 = 0 → (((r13 = 0 → Φ (-4) σ11) ∧ (¬ (r13 = 0) → (wp_X11_isWonBy σ11 (σ11.1 4 1) 0 (-1) (fun r15 => ((r15 = 0 → (∃ n : Nat, wp_X11_game_L239 x3 Φ σ11 n 0)) ∧ (¬ (r15 = 0) → Φ (-4) σ11)))))))) ∧ (x4 = 0 → (((r13 = 0 → Φ 0 σ11) ∧ (¬ (r13 = 0) → Φ 1 σ11)))))))) ∧ ∃ n : Nat, wp_X11_game_L91 x3 K183 n σ9 x5_10))) ∧ ∃ n : Nat, wp_X11_game_L51 x2 K86 n σ 0)) ∧ (r8 = 0 → Φ (-1) σ))))))))))))))))
def wp_X11_goal (σ : Mm) (x1 : Int32) (x2 : Int32) (Φ : Int32 → Mm → Prop) : Prop := (wp_X11_isYard σ x1 (fun r2 => ((r2 = 0 → Φ (-1) σ) ∧ (¬ (r2 = 0) → (wp_X11_in x2 0 40 (fun r4 => ((¬ r4 = 0 → (((¬ (σ.1 0 14) = 6 → ((0 ≤ (σ.1 0 14) ∧ (σ.1 0 14) < 6) ∧ ∀ σ6 : Mm, σ6 = kwi σ 7 ((σ.1 0 14).toNatClampNeg) x1 → (0 ≤ (σ6.1 0 14) ∧ (σ6.1 0 14) < 6) ∧ ∀ σ8 : Mm, σ8 = kwi σ6 8 ((σ6.1 0 14).toNatClampNeg) x2 → ∀ σ9 : Mm, σ9 = kwi σ8 0 14 ((σ8.1 0 14) + 1) → Φ (σ9.1 0 14) σ9)) ∧ ((σ.1 0 14) = 6 → Φ (-3) σ)))) ∧ (r4 = 0 → Φ (-1) σ))))))))
def wp_X11_howBut_L84 (Φ : Int64 → Mm → Prop) (σ4 : Mm) : Nat → Int64 → Int32 → Prop
  | 0, _, _ => False
  | n + 1, x3_5, x5_6 => (((1008 ≤ x5_6 → Φ x3_5 σ4) ∧ (¬ (1008 ≤ x5_6) → ((0 ≤ x5_6 ∧ x5_6 < 1008) ∧ ∀ x3_8 : Int64, x3_8 = (x3_5 + (σ4.2.1 15 (x5_6.toNatClampNeg))) → wp_X11_howBut_L84 Φ σ4 n x3_8 (x5_6 + 1)))))
def wp_X11_howBut_L51 (x1 : Int32) (x2_1 : Int32) (K74 : Mm → Prop) : Nat → Mm → Int32 → Prop
  | 0, _, _ => False
  | n + 1, σ9, x3_10 => (((x2_1 ≤ x3_10 → K74 σ9) ∧ (¬ (x2_1 ≤ x3_10) → (wp_X11_bar σ9 x3_10 (fun σ11 => wp_X11_goOn σ11 x3_10 x1 0 (fun σ12 => wp_X11_howBut_L51 x1 x2_1 K74 n σ12 (x3_10 + 1)))))))
def wp_X11_howBut_L4 (σ : Mm) (K39 : Int32 → Prop) : Nat → Int32 → Int32 → Prop
  | 0, _, _ => False
  | n + 1, x2_13, x3_14 => ((((σ.1 0 21) ≤ x3_14 → K39 x2_13) ∧ (¬ ((σ.1 0 21) ≤ x3_14) → ((0 ≤ x3_14 ∧ x3_14 < 6) ∧ ∃ K32 : Int32 → Prop, (∀ (v16 : Int32), K32 v16 → wp_X11_howBut_L4 σ K39 n v16 (x3_14 + 1)) ∧ (((σ.1 14 (x3_14.toNatClampNeg)) ≤ x2_13 → K32 x2_13) ∧ (¬ ((σ.1 14 (x3_14.toNatClampNeg)) ≤ x2_13) → ((0 ≤ x3_14 ∧ x3_14 < 6) ∧ K32 (σ.1 14 (x3_14.toNatClampNeg)))))))))
def wp_X11_howBut (σ : Mm) (x1 : Int32) (Φ : Int64 → Mm → Prop) : Prop := (∃ K39 : Int32 → Prop, (∀ (x2_1 : Int32), K39 x2_1 → (wp_X11_startWays σ (σ.1 1 3) (fun σ2 => (∃ K74 : Mm → Prop, (∀ (σ3 : Mm), K74 σ3 → (wp_X11_bar σ3 x2_1 (fun σ4 => (∃ n : Nat, wp_X11_howBut_L84 Φ σ4 n 0 0)))) ∧ ∃ n : Nat, wp_X11_howBut_L51 x1 x2_1 K74 n σ2 0)))) ∧ ∃ n : Nat, wp_X11_howBut_L4 σ K39 n 0 0)
def wp_X11_how (σ : Mm)  (Φ : Int64 → Mm → Prop) : Prop := (wp_X11_howBut σ (-1) (fun r2 σ1 => Φ r2 σ1))
def wp_X11_keep_L13 (K43 : Mm → Prop) : Nat → Mm → Int32 → Prop
  | 0, _, _ => False
  | n + 1, σ3, x1_4 => (((3 ≤ x1_4 → K43 σ3) ∧ (¬ (3 ≤ x1_4) → ((0 ≤ x1_4 ∧ x1_4 < 3) ∧ (0 ≤ ((3 * (σ3.1 0 11)) + x1_4) ∧ ((3 * (σ3.1 0 11)) + x1_4) < 6) ∧ ∀ σ7 : Mm, σ7 = kwi σ3 6 (((3 * (σ3.1 0 11)) + x1_4).toNatClampNeg) (σ3.1 4 (x1_4.toNatClampNeg)) → wp_X11_keep_L13 K43 n σ7 (x1_4 + 1)))))
def wp_X11_keep (σ : Mm)  (Φ : Int32 → Mm → Prop) : Prop := (((¬ (σ.1 0 11) = 2 → (∃ K43 : Mm → Prop, (∀ (σ1 : Mm), K43 σ1 → (∀ σ2 : Mm, σ2 = kwi σ1 0 11 ((σ1.1 0 11) + 1) → Φ (σ2.1 0 11) σ2)) ∧ ∃ n : Nat, wp_X11_keep_L13 K43 n σ 0)) ∧ ((σ.1 0 11) = 2 → Φ (-3) σ)))
def wp_X11_lay_L129 (K156 : Mm → Prop) : Nat → Mm → Int32 → Prop
  | 0, _, _ => False
  | n + 1, σ7, x2_8 => (((82 ≤ x2_8 → K156 σ7) ∧ (¬ (82 ≤ x2_8) → ((0 ≤ (82 + x2_8) ∧ (82 + x2_8) < 164) ∧ (0 ≤ x2_8 ∧ x2_8 < 164) ∧ ∀ σ11 : Mm, σ11 = kwi σ7 1 (x2_8.toNatClampNeg) (σ7.1 1 ((82 + x2_8).toNatClampNeg)) → wp_X11_lay_L129 K156 n σ11 (x2_8 + 1)))))
def wp_X11_lay_L61 (σ1 : Mm) (x2_13 : Int32) (K114 : Int32 → Prop) : Nat → Int32 → Int32 → Prop
  | 0, _, _ => False
  | n + 1, x1_15, x3_16 => ((0 ≤ (99 + x2_13) ∧ (99 + x2_13) < 164) ∧ (((σ1.1 1 ((99 + x2_13).toNatClampNeg)) ≤ x3_16 → K114 x1_15) ∧ (¬ ((σ1.1 1 ((99 + x2_13).toNatClampNeg)) ≤ x3_16) → (∃ K107 : Int32 → Prop, (∀ (v18 : Int32), K107 v18 → wp_X11_lay_L61 σ1 x2_13 K114 n v18 (x3_16 + 1)) ∧ ∃ K106 : Prop, (K106 → K107 0) ∧ ((x1_15 = 0 → K106) ∧ (¬ (x1_15 = 0) → ((0 ≤ ((104 + (12 * x2_13)) + x3_16) ∧ ((104 + (12 * x2_13)) + x3_16) < 164) ∧ (((σ1.1 1 82) ≤ (σ1.1 1 (((104 + (12 * x2_13)) + x3_16).toNatClampNeg)) → K106) ∧ (¬ ((σ1.1 1 82) ≤ (σ1.1 1 (((104 + (12 * x2_13)) + x3_16).toNatClampNeg))) → K107 1)))))))))
def wp_X11_lay_L44 (σ1 : Mm) (K120 : Int32 → Prop) : Nat → Int32 → Int32 → Prop
  | 0, _, _ => False
  | n + 1, x1_12, x2_13 => ((((σ1.1 1 83) ≤ x2_13 → K120 x1_12) ∧ (¬ ((σ1.1 1 83) ≤ x2_13) → (((x1_12 = 0 → K120 x1_12) ∧ (¬ (x1_12 = 0) → (∃ K114 : Int32 → Prop, (∀ (x1_14 : Int32), K114 x1_14 → wp_X11_lay_L44 σ1 K120 n x1_14 (x2_13 + 1)) ∧ ∃ n : Nat, wp_X11_lay_L61 σ1 x2_13 K114 n x1_12 0)))))))
def wp_X11_lay (σ : Mm)  (Φ : Int32 → Mm → Prop) : Prop := (wp_X11_findFault σ (fun r2 σ1 => ∃ K41 : Int32 → Prop, (∀ (v3 : Int32), K41 v3 → (∃ K120 : Int32 → Prop, (∀ (x1_4 : Int32), K120 x1_4 → (((¬ x1_4 = 0 → (∃ K156 : Mm → Prop, (∀ (σ5 : Mm), K156 σ5 → (wp_X11_begin σ5 (fun σ6 => Φ (σ6.1 1 1) σ6))) ∧ ∃ n : Nat, wp_X11_lay_L129 K156 n σ1 0)) ∧ (x1_4 = 0 → Φ (-2) σ1)))) ∧ ∃ n : Nat, wp_X11_lay_L44 σ1 K120 n v3 0)) ∧ ∃ K40 : Prop, (K40 → K41 0) ∧ ((¬ r2 = (-4) → K40) ∧ (r2 = (-4) → ((((σ1.1 1 83) ≤ 0 → K40) ∧ (¬ ((σ1.1 1 83) ≤ 0) → ((((σ1.1 1 82) ≤ (σ1.1 1 85) → K40) ∧ (¬ ((σ1.1 1 82) ≤ (σ1.1 1 85)) → K41 1))))))))))
def wp_X11_noGoals (σ : Mm)  (Φ : Int32 → Mm → Prop) : Prop := (∀ x1_1 : Int32, x1_1 = (σ.1 0 14) → ∀ σ2 : Mm, σ2 = kwi σ 0 14 0 → Φ x1_1 σ2)
def wp_X11_pass (σ : Mm) (x1 : Int32) (Φ : Int32 → Mm → Prop) : Prop := (wp_X11_in x1 1 99 (fun r2 => ((¬ r2 = 0 → (((((σ.1 4 0) + x1) ≤ 9999 → (wp_X11_know σ (fun σ3 => wp_X11_gone σ3 (σ3.1 4 1) (σ3.1 4 0) x1 (fun r5 => ∀ σ6 : Mm, σ6 = kwi σ3 4 1 r5 → ∀ σ7 : Mm, σ7 = kwi σ6 4 0 ((σ6.1 4 0) + x1) → wp_X11_yardOf (σ7.1 4 1) (fun r9 => Φ r9 σ7))))) ∧ (¬ (((σ.1 4 0) + x1) ≤ 9999) → Φ (-2) σ)))) ∧ (r2 = 0 → Φ (-1) σ))))
def wp_X11_person (σ : Mm) (x1 : Int32) (x2 : Int32) (Φ : Int32 → Prop) : Prop := (wp_X11_isPerson σ x1 (fun r2 => ((r2 = 0 → Φ (-1)) ∧ (¬ (r2 = 0) → (wp_X11_in x2 (-1) 9999 (fun r4 => ((¬ r4 = 0 → (((¬ x2 = (-1) → (wp_X11_placeOf σ x1 x2 (fun r6 => Φ r6))) ∧ (x2 = (-1) → ((0 ≤ (12 + x1) ∧ (12 + x1) < 164) ∧ Φ (σ.1 1 ((12 + x1).toNatClampNeg))))))) ∧ (r4 = 0 → Φ (-1)))))))))
def wp_X11_price (σ : Mm)  (Φ : Int32 → Mm → Prop) : Prop := (wp_X11_lastGoal σ (fun r2 => wp_X11_priceTo σ r2 (fun r4 σ3 => ((r4 < 999999 → Φ r4 σ3) ∧ (¬ (r4 < 999999) → Φ (-4) σ3)))))
def wp_X11_seen (σ : Mm) (x1 : Int32) (x2 : Int32) (Φ : Int32 → Mm → Prop) : Prop := (wp_X11_isYard σ x1 (fun r2 => ((r2 = 0 → Φ (-1) σ) ∧ (¬ (r2 = 0) → (wp_X11_in x2 0 20 (fun r4 => ((¬ r4 = 0 → (((¬ (σ.1 0 21) = 6 → ((0 ≤ (σ.1 0 21) ∧ (σ.1 0 21) < 6) ∧ ∀ σ6 : Mm, σ6 = kwi σ 13 ((σ.1 0 21).toNatClampNeg) x1 → (0 ≤ (σ6.1 0 21) ∧ (σ6.1 0 21) < 6) ∧ ∀ σ8 : Mm, σ8 = kwi σ6 14 ((σ6.1 0 21).toNatClampNeg) x2 → ∀ σ9 : Mm, σ9 = kwi σ8 0 21 ((σ8.1 0 21) + 1) → Φ (σ9.1 0 21) σ9)) ∧ ((σ.1 0 21) = 6 → Φ (-3) σ)))) ∧ (r4 = 0 → Φ (-1) σ))))))))
def wp_X11_sure (σ : Mm) (x1 : Int32) (Φ : Int32 → Mm → Prop) : Prop := (wp_X11_isPerson σ x1 (fun r2 => ((¬ r2 = 0 → (wp_X11_howBut σ (-1) (fun r4 σ3 => (((lg_cmp r4 0) ≤ 0 → Φ 0 σ3) ∧ (¬ ((lg_cmp r4 0) ≤ 0) → (wp_X11_howBut σ3 x1 (fun r6 σ5 => ((¬ (lg_cmp r6 0) = 0 → Φ 0 σ5) ∧ ((lg_cmp r6 0) = 0 → Φ 1 σ5))))))))) ∧ (r2 = 0 → Φ (-1) σ))))
def wp_X11_undo_L22 (K52 : Mm → Prop) : Nat → Mm → Int32 → Prop
  | 0, _, _ => False
  | n + 1, σ3, x1_4 => (((3 ≤ x1_4 → K52 σ3) ∧ (¬ (3 ≤ x1_4) → ((0 ≤ ((3 * (σ3.1 0 9)) + x1_4) ∧ ((3 * (σ3.1 0 9)) + x1_4) < 24) ∧ (0 ≤ x1_4 ∧ x1_4 < 3) ∧ ∀ σ7 : Mm, σ7 = kwi σ3 4 (x1_4.toNatClampNeg) (σ3.1 5 (((3 * (σ3.1 0 9)) + x1_4).toNatClampNeg)) → wp_X11_undo_L22 K52 n σ7 (x1_4 + 1)))))
def wp_X11_undo (σ : Mm)  (Φ : Int32 → Mm → Prop) : Prop := (((¬ (σ.1 0 9) = 0 → (∀ σ1 : Mm, σ1 = kwi σ 0 9 ((σ.1 0 9) - 1) → (∃ K52 : Mm → Prop, (∀ (σ2 : Mm), K52 σ2 → Φ (σ2.1 0 9) σ2) ∧ ∃ n : Nat, wp_X11_undo_L22 K52 n σ1 0))) ∧ ((σ.1 0 9) = 0 → Φ (-2) σ)))
def wp_X11_wipe (σ : Mm)  (Φ : Int32 → Mm → Prop) : Prop := (∀ x1_1 : Int32, x1_1 = (σ.1 0 3) → ∀ σ2 : Mm, σ2 = kwi σ 0 3 0 → Φ x1_1 σ2)
def wp_X11_write_L32 (x2 : Int64) (K75 : Mm → Prop) : Nat → Mm → Int32 → Prop
  | 0, _, _ => False
  | n + 1, σ5, x4_6 => (((x4_6 < 0 → K75 σ5) ∧ (¬ (x4_6 < 0) → ((0 ≤ (σ5.1 0 3) ∧ (σ5.1 0 3) < 300) ∧ ∀ σ8 : Mm, σ8 = kwi σ5 3 ((σ5.1 0 3).toNatClampNeg) (vp_nar .byte ((((x2 >>> ((8 * x4_6 : Int32).toInt64 &&& 63)) &&& 255).toInt32).toInt8.toInt32)) → ∀ σ9 : Mm, σ9 = kwi σ8 0 3 ((σ8.1 0 3) + 1) → wp_X11_write_L32 x2 K75 n σ9 (x4_6 + (-1))))))
def wp_X11_write (σ : Mm) (x1 : Int32) (x2 : Int64) (Φ : Int32 → Mm → Prop) : Prop := (wp_X11_in x1 1 8 (fun r2 => ((¬ r2 = 0 → (((((σ.1 0 3) + x1) ≤ 300 → (∀ x4_3 : Int32, x4_3 = (x1 - 1) → (∃ K75 : Mm → Prop, (∀ (σ4 : Mm), K75 σ4 → Φ (σ4.1 0 3) σ4) ∧ ∃ n : Nat, wp_X11_write_L32 x2 K75 n σ x4_3))) ∧ (¬ (((σ.1 0 3) + x1) ≤ 300) → Φ (-3) σ)))) ∧ (r2 = 0 → Φ (-1) σ))))
def wp_X11_year_L47 (x1 : Int32) (x2 : Int32) (σ : Mm) (K149 : Int32 → Int32 → Prop) : Nat → Int32 → Int32 → Int32 → Prop
  | 0, _, _, _ => False
  | n + 1, x4_12, x5_13, x6_14 => (((x2 ≤ x6_14 → K149 x4_12 x5_13) ∧ (¬ (x2 ≤ x6_14) → (∀ x7_15 : Int64, x7_15 = (((7919 * (x1.toInt64)) + (6151 * (x6_14.toInt64))) + 1) → ∀ x9_16 : Int32, x9_16 = (((x7_15 * x7_15) - (x7_15 * x7_15) / 65521 * 65521).toInt32) → (¬ (σ.1 1 1) = 0) ∧ ∀ x10_17 : Int32, x10_17 = (x9_16 - x9_16 / (σ.1 1 1) * (σ.1 1 1)) → wp_X11_mayFeed σ x4_12 x10_17 x6_14 (fun r19 => ∃ K131 : Int32 → Int32 → Prop, (∀ (x4_20 : Int32) (x5_21 : Int32), K131 x4_20 x5_21 → (wp_X11_after σ x4_20 (x6_14 + 1) (fun r23 => wp_X11_year_L47 x1 x2 σ K149 n r23 x5_21 (x6_14 + 1)))) ∧ ((r19 = 0 → K131 x4_12 x5_13) ∧ (¬ (r19 = 0) → (((¬ ((x9_16 / 8) - (x9_16 / 8) / 2 * 2) = 1 → K131 x4_12 x5_13) ∧ (((x9_16 / 8) - (x9_16 / 8) / 2 * 2) = 1 → (wp_X11_fedBy σ x4_12 x10_17 (fun r25 => K131 r25 (x5_13 + 1)))))))))))))
def wp_X11_year (σ : Mm) (x1 : Int32) (x2 : Int32) (x3 : Int32) (Φ : Int32 → Prop) : Prop := (wp_X11_in x1 0 9999 (fun r2 => ((r2 = 0 → Φ (-1)) ∧ (¬ (r2 = 0) → (wp_X11_in x2 1 400 (fun r4 => ((r4 = 0 → Φ (-1)) ∧ (¬ (r4 = 0) → (wp_X11_in x3 0 1 (fun r6 => ((¬ r6 = 0 → (∀ x4_7 : Int32, x4_7 = (σ.1 1 3) → (∃ K149 : Int32 → Int32 → Prop, (∀ (x4_8 : Int32) (x5_9 : Int32), K149 x4_8 x5_9 → (((¬ x3 = 0 → (wp_X11_yardOf x4_8 (fun r11 => Φ r11))) ∧ (x3 = 0 → Φ x5_9)))) ∧ ∃ n : Nat, wp_X11_year_L47 x1 x2 σ K149 n x4_7 0 0))) ∧ (r6 = 0 → Φ (-1)))))))))))))
end
section
theorem kI (n : Nat) : (OfNat.ofNat n : Int32) = nI n := rfl
theorem krem (a d : Nat) : nI a - nI (a / d * d) = nI (a % d) := by
  rw [pk_sub (Nat.div_mul_le_self a d)]
  congr 1
  have := Nat.div_add_mod a d
  rw [Nat.mul_comm] at this
  omega
theorem ksub1 {a : Nat} (h : 1 ≤ a) : nI a - nI 1 = nI (a - 1) := pk_sub h
theorem brn_t {c A B : Prop} (h : ¬ c) (a : A) : (¬ c → A) ∧ (c → B) := ⟨fun _ => a, fun z => absurd z h⟩
theorem brn_f {c A B : Prop} (h : c) (b : B) : (¬ c → A) ∧ (c → B) := ⟨fun z => absurd h z, fun _ => b⟩
theorem fa_lt_ (a b : Int32) : a < b ↔ a.toInt < b.toInt := Int32.lt_iff_toInt_lt
theorem fa_le_ (a b : Int32) : a ≤ b ↔ a.toInt ≤ b.toInt := Int32.le_iff_toInt_le
theorem nI_m1 {t : Nat} (h : t < 2 ^ 31) : ¬ nI t = -1 ∧ ¬ nI t < -1 := by
  have b3 : (-1 : Int32).toInt = -1 := by decide
  constructor
  · intro q
    have : (nI t).toInt = (-1 : Int32).toInt := by rw [q]
    rw [nI_toInt h] at this
    omega
  · intro q
    have := (fa_lt_ _ _).mp q
    rw [nI_toInt h] at this
    omega
theorem m1_le {y : Int32} (c : ¬ y < -1) (c3 : ¬ y = -1) : ¬ y < 0 := by
  intro q
  have b1 := (fa_lt_ _ _).mp q
  have b2 : ¬ (y.toInt < (-1 : Int32).toInt) := fun z => c ((fa_lt_ _ _).mpr z)
  have b3 : (-1 : Int32).toInt = -1 := by decide
  have b4 : (0 : Int32).toInt = 0 := by decide
  exact c3 (ksw (v := -1) (k := -1) (by omega) b3)
theorem kIm1 : (-1 : Int32) = nI 4294967295 := rfl
/-- the number of an int that isn't below 0 -/
def gN (g : Nat → Int32) (k : Nat) : Nat := (g k).toNatClampNeg
def aN (g : Nat → Int32) : Nat := gN g 0
def aP (g : Nat → Int32) : Nat := gN g 1
def aF (g : Nat → Int32) : Nat := gN g 2
def aC (g : Nat → Int32) : Nat := gN g 3
def aCost (g : Nat → Int32) (i : Nat) : Nat := gN g (12 + i)
def aMany (g : Nat → Int32) (i : Nat) : Nat := gN g (17 + i)
def aWay (g : Nat → Int32) (i k : Nat) : Nat := gN g (22 + 12 * i + k)
def aLane (g : Nat → Int32) (a b : Nat) : Bool := (gN g (4 + a)).testBit b
def aPlc (g : Nat → Int32) (i t : Nat) : Nat := aWay g i (t % aMany g i)
def aD (d : Nat → Int32) (a b : Nat) : Nat := gN d (8 * a + b)
/-- a farm as it is told, in the model's row -/
def WFg (g : Nat → Int32) : Prop :=
  (∀ k, k < 82 → g k = nI (gN g k)) ∧ 2 ≤ aN g ∧ aN g ≤ 8 ∧ 1 ≤ aP g ∧ aP g ≤ 5 ∧ aF g ≤ 20 ∧ aC g < aN g ∧
  (∀ a, a < 8 → gN g (4 + a) < 256) ∧ (∀ a b, a < 8 → b < 8 → aLane g a b = true → a < aN g ∧ b < aN g ∧ a ≠ b ∧ aLane g b a = true) ∧
  (∀ i, i < aP g → aCost g i ≤ 99) ∧ (∀ i, i < aP g → 1 ≤ aMany g i ∧ aMany g i ≤ 12) ∧ (∀ i k, i < aP g → k < aMany g i → aWay g i k < aN g)
/-- a farm in the component's cells -/
def FmC (σ : Mm) (b : Nat) (g : Nat → Int32) : Prop :=
  σ.1 b 5 = nI (aN g) ∧ σ.1 b 6 = nI (aP g) ∧ σ.1 b 7 = nI (aF g) ∧ σ.1 b 8 = nI (aC g) ∧
  (∀ i, i < aP g → σ.1 (b + 3) i = nI (aCost g i)) ∧
  (∀ i, i < aP g → (σ.1 (b + 5) i = nI (aMany g i) ∧ ∀ k, k < aMany g i → σ.1 (b + 4) (12 * i + k) = nI (aWay g i k)) ∨ (σ.1 (b + 5) i = 0 ∧ aMany g i = 1 ∧ aWay g i 0 = 0))
theorem WFg.P {g : Nat → Int32} (h : WFg g) : 1 ≤ aP g ∧ aP g ≤ 5 := ⟨h.2.2.2.1, h.2.2.2.2.1⟩
theorem WFg.N {g : Nat → Int32} (h : WFg g) : 2 ≤ aN g ∧ aN g ≤ 8 := ⟨h.2.1, h.2.2.1⟩
theorem WFg.F {g : Nat → Int32} (h : WFg g) : aF g ≤ 20 := h.2.2.2.2.2.1
theorem WFg.C {g : Nat → Int32} (h : WFg g) : aC g < aN g := h.2.2.2.2.2.2.1
theorem WFg.plc {g : Nat → Int32} (h : WFg g) {i t : Nat} (hi : i < aP g) : aPlc g i t < aN g := by
  obtain ⟨h0, h1, h2, h3, h4, h5, h6, hl1, hl2, h7, h8, h9⟩ := h
  exact h9 i _ hi (Nat.mod_lt _ (h8 i hi).1)
theorem cC_yardAt {σ : Mm} {b : Nat} {g : Nat → Int32} (hw : WFg g) (hf : FmC σ b g) {i t : Nat} (hi : i < aP g) (ht : t < 100000) {Φ : Int32 → Prop} (h : Φ (nI (aPlc g i t))) : wp_X1_yardAt σ b (nI i) (nI t) Φ := by
  obtain ⟨h0, h1, h2, h3, h4, h5, h6, hl1, hl2, h7, h8, h9⟩ := hw
  obtain ⟨f1, f2, f3, f4, f5, f6⟩ := hf
  have hm := h8 i hi
  have e : t % aMany g i < aMany g i := Nat.mod_lt _ (by omega)
  rcases f6 i hi with ⟨f6, f7⟩ | ⟨f6, f7, f8⟩
  · have f8 := f7 _ e
    rw [Nat.mul_comm] at f8
    simp (disch := omega) only [wp_X1_yardAt, kI, nI_ltI, nI_leI, nI_eq, f2, nI_clamp, f6, pk_rem, pk_mul, nI_add, forall_eq, f8]
    refine br_f (by omega) (br_f (by omega) (br_t (by omega) ⟨by omega, br_t (by omega) ⟨by omega, by omega, h⟩⟩))
  · simp (disch := omega) only [wp_X1_yardAt, kI, nI_ltI, nI_leI, nI_eq, f2, nI_clamp, f6, pk_rem, pk_mul, nI_add, forall_eq]
    have e2 : aPlc g i t = 0 := by
      unfold aPlc
      rw [f7, Nat.mod_one]
      exact f8
    rw [e2] at h
    grind
end
section
theorem sl32 : ∀ n, n < 32 → ((nI n &&& 31).toBitVec.smod 32).toNat = n := by decide +kernel
theorem kbitI {x y : Nat} (hx : x < 2 ^ 31) (hy : y < 32) : ((nI x >>> (nI y &&& 31)) &&& 1) = nI (x / 2 ^ y % 2) := by
  rw [pk_shrN hx _ y (sl32 y hy)]
  have h1 : x / 2 ^ y ≤ x := Nat.div_le_self x _
  exact pk_andN (m := 1) (by omega) 1 (by decide)
theorem testBit_dm (x y : Nat) : x.testBit y = decide (x / 2 ^ y % 2 = 1) := Nat.testBit_eq_decide_div_mod_eq
/-- the least place from k on, of n, where p holds -/
def lst (p : Nat → Bool) : Nat → Nat → Nat
  | 0, k => k
  | n + 1, k => if p k then k else lst p n (k + 1)
theorem lst_spec (p : Nat → Bool) : ∀ (n k y : Nat), k ≤ y → y < k + n → p y = true → k ≤ lst p n k ∧ lst p n k ≤ y ∧ p (lst p n k) = true ∧ ∀ j, k ≤ j → j < lst p n k → p j = false
  | 0, k, y, h1, h2, _ => by omega
  | n + 1, k, y, h1, h2, h3 => by
    unfold lst
    by_cases hk : p k = true
    · rw [if_pos hk]
      exact ⟨Nat.le_refl k, h1, hk, fun j a b => by omega⟩
    · rw [if_neg hk]
      have hky : k ≠ y := fun e => hk (e ▸ h3)
      obtain ⟨a, b, c, d⟩ := lst_spec p n (k + 1) y (by omega) (by omega) h3
      refine ⟨by omega, b, c, fun j e f => ?_⟩
      rcases Nat.lt_or_ge k j with q | q
      · exact d j (by omega) f
      · have : j = k := by omega
        subst this
        cases hh : p j
        · rfl
        · exact absurd hh hk
/-- distances as they must be -/
def WFd (g d : Nat → Int32) : Prop :=
  (∀ k, k < 64 → d k = nI (gN d k)) ∧ (∀ a, a < 8 → aD d a a = 0) ∧ (∀ a b, a < 8 → b < 8 → aD d a b < 8 ∨ aD d a b = 999999) ∧
  (∀ a b, a < 8 → b < 8 → 0 < aD d a b → aD d a b < 8 → ∃ y, y < 8 ∧ aLane g a y = true ∧ aD d y b = aD d a b - 1) ∧
  (∀ a b, a < 8 → b < 8 → (aLane g a b = true ↔ aD d a b = 1))
def aNp (g d : Nat → Int32) (a t y : Nat) : Bool := aLane g a y && decide (aD d y t = aD d a t - 1)
/-- where it goes from a, if he is at t -/
def aNx (g d : Nat → Int32) (a t : Nat) : Nat := if aD d a t = 0 ∨ 999999 ≤ aD d a t then a else lst (aNp g d a t) 8 0
theorem aNx_spec {g d : Nat → Int32} (hd : WFd g d) {a t : Nat} (ha : a < 8) (ht : t < 8) (h0 : aD d a t ≠ 0) (h1 : aD d a t < 999999) : aNx g d a t < 8 ∧ aNp g d a t (aNx g d a t) = true ∧ ∀ j, j < aNx g d a t → aNp g d a t j = false := by
  obtain ⟨d0, d1, d2, d3, d4⟩ := hd
  have e : aNx g d a t = lst (aNp g d a t) 8 0 := if_neg (by omega)
  obtain ⟨y, y1, y2, y3⟩ := d3 a t ha ht (by omega) (by rcases d2 a t ha ht with h | h <;> omega)
  have hp : aNp g d a t y = true := by
    unfold aNp
    rw [y2, y3]
    simp
  obtain ⟨a1, a2, a3, a4⟩ := lst_spec (aNp g d a t) 8 0 y (by omega) (by omega) hp
  rw [e]
  exact ⟨by omega, a3, fun j hj => a4 j (by omega) hj⟩
theorem aNx_lt {g d : Nat → Int32} (hg : WFg g) (hd : WFd g d) {a t : Nat} (ha : a < aN g) (ht : t < 8) : aNx g d a t < aN g := by
  have h8 := hg.N
  by_cases h : aD d a t = 0 ∨ 999999 ≤ aD d a t
  · unfold aNx
    rw [if_pos h]
    exact ha
  · obtain ⟨a1, a2, a3⟩ := aNx_spec hd (by omega : a < 8) ht (by omega) (by omega)
    unfold aNp at a2
    simp only [Bool.and_eq_true] at a2
    obtain ⟨h0, h1, h2, h3, h4, h5, h6, hl1, hl2, h7⟩ := hg
    exact (hl2 a _ (by omega) a1 a2.1).2.1
/-- the model's farm -/
def FmM (σ : Mm) (g d : Nat → Int32) : Prop := (∀ k, k < 82 → σ.1 1 k = nI (gN g k)) ∧ (∀ k, k < 64 → σ.1 2 k = nI (gN d k))
/-- the component's distances and ways -/
def FmD (σ : Mm) (b : Nat) (g d : Nat → Int32) : Prop := ∀ a t, a < 8 → t < 8 → σ.1 (b + 1) (8 * a + t) = nI (if aD d a t < 8 then aD d a t else 99) ∧ σ.1 (b + 2) (8 * a + t) = nI (aNx g d a t)
/-- a state of the calf, the model's number: yard + 8 w + 48 left, w 0: nobody, i + 1: person i -/
def isSt (g : Nat → Int32) (m : Nat) : Prop := m < 1008 ∧ m % 8 < aN g ∧ m / 8 % 6 ≤ aP g ∧ (m / 8 % 6 = 0 → m / 48 = 0) ∧ (aF g = 0 → m / 48 = 0) ∧ (m / 8 % 6 ≠ 0 → aF g ≠ 0 → 1 ≤ m / 48 ∧ m / 48 ≤ aF g)
/-- the component's number of a state -/
def cst (g : Nat → Int32) (m : Nat) : Nat := ((if m / 8 % 6 = 0 ∨ aF g = 0 then 0 else aF g - m / 48) * 6 + m / 8 % 6) * 8 + m % 8
/-- a minute goes by: t is the minute that begins -/
def aft (g d : Nat → Int32) (m t : Nat) : Nat :=
  if m / 8 % 6 = 0 then m % 8
  else if aF g ≠ 0 ∧ m / 48 = 1 then m % 8
  else aNx g d (m % 8) (aPlc g (m / 8 % 6 - 1) t) + 8 * (m / 8 % 6) + 48 * (if aF g = 0 then 0 else m / 48 - 1)
def fedm (g : Nat → Int32) (m i : Nat) : Nat := m % 8 + 8 * (i + 1) + 48 * aF g
theorem split3 {y w l : Nat} (hy : y < 8) (hw : w < 6) : (y + 8 * w + 48 * l) % 8 = y ∧ (y + 8 * w + 48 * l) / 8 % 6 = w ∧ (y + 8 * w + 48 * l) / 48 = l := by omega
theorem isSt_fed {g : Nat → Int32} (hg : WFg g) {m i : Nat} (hm : isSt g m) (hi : i < aP g) : isSt g (fedm g m i) := by
  have h1 := hg.N
  have h2 := hg.P
  have h3 := hg.F
  obtain ⟨m0, m1, m2, m3, m4, m5⟩ := hm
  obtain ⟨e1, e2, e3⟩ := split3 (y := m % 8) (w := i + 1) (l := aF g) (by omega) (by omega)
  unfold isSt fedm
  rw [e1, e2, e3]
  refine ⟨by omega, m1, by omega, by omega, fun h => h, fun _ _ => by omega⟩
theorem isSt_aft {g d : Nat → Int32} (hg : WFg g) (hd : WFd g d) {m t : Nat} (hm : isSt g m) : isSt g (aft g d m t) := by
  have h1 := hg.N
  have h2 := hg.P
  have h3 := hg.F
  obtain ⟨m0, m1, m2, m3, m4, m5⟩ := hm
  have hy : isSt g (m % 8) := by
    unfold isSt
    refine ⟨by omega, by omega, by omega, by omega, by omega, by omega⟩
  unfold aft
  split
  · exact hy
  · split
    · exact hy
    · rename_i a b
      have hp := hg.plc (i := m / 8 % 6 - 1) (t := t) (by omega)
      have hx := aNx_lt hg hd (a := m % 8) (t := aPlc g (m / 8 % 6 - 1) t) m1 (by omega)
      obtain ⟨e1, e2, e3⟩ := split3 (y := aNx g d (m % 8) (aPlc g (m / 8 % 6 - 1) t)) (w := m / 8 % 6) (l := if aF g = 0 then 0 else m / 48 - 1) (by omega) (by omega)
      unfold isSt
      rw [e1, e2, e3]
      refine ⟨?_, hx, m2, by omega, fun h => by rw [if_pos h], fun h h' => ?_⟩
      · split
        · omega
        · have := m5 a (by assumption)
          omega
      · rw [if_neg h']
        have := m5 a h'
        omega
theorem cst_lt {g : Nat → Int32} (hg : WFg g) {m : Nat} (hm : isSt g m) : cst g m < (if aF g = 0 then 1 else aF g) * 48 ∧ cst g m < 960 := by
  have h3 := hg.F
  have h2 := hg.P
  obtain ⟨m0, m1, m2, m3, m4, m5⟩ := hm
  unfold cst
  by_cases hf : aF g = 0
  · rw [if_pos hf, if_pos (Or.inr hf)]
    omega
  · rw [if_neg hf]
    by_cases hw : m / 8 % 6 = 0
    · rw [if_pos (Or.inl hw)]
      omega
    · rw [if_neg (by omega)]
      have := m5 hw hf
      omega
theorem cst_inj {g : Nat → Int32} {m n : Nat} (hm : isSt g m) (hn : isSt g n) (h : cst g m = cst g n) : m = n := by
  obtain ⟨m0, m1, m2, m3, m4, m5⟩ := hm
  obtain ⟨n0, n1, n2, n3, n4, n5⟩ := hn
  unfold cst at h
  by_cases hf : aF g = 0
  · rw [if_pos (Or.inr hf), if_pos (Or.inr hf)] at h
    have := m4 hf
    have := n4 hf
    omega
  · by_cases hw : m / 8 % 6 = 0
    · by_cases hv : n / 8 % 6 = 0
      · rw [if_pos (Or.inl hw), if_pos (Or.inl hv)] at h
        have := m3 hw
        have := n3 hv
        omega
      · rw [if_pos (Or.inl hw), if_neg (by omega)] at h
        omega
    · by_cases hv : n / 8 % 6 = 0
      · rw [if_neg (by omega), if_pos (Or.inl hv)] at h
        omega
      · rw [if_neg (by omega), if_neg (by omega)] at h
        have := m5 hw hf
        have := n5 hv hf
        omega
end
section
theorem nI0m1 : nI 0 - nI 1 = -1 := rfl
theorem kx {P : Int32 → Prop} {a b : Int32} (h : P b) (e : a = b) : P a := e ▸ h
-- ===== the model
theorem cM_yardOf {m : Nat} (hm : m < 100000) {Φ : Int32 → Prop} (h : Φ (nI (m % 8))) : wp_X11_yardOf (nI m) Φ := by
  simp (disch := omega) only [wp_X11_yardOf, kI, nI_ltI, nI_leI, nI_eq, nI_clamp, krem, pk_div, pk_mul, nI_add, forall_eq]
  exact h
theorem cM_whom0 {m : Nat} (hm : m < 100000) (hw : m / 8 % 6 = 0) {Φ : Int32 → Prop} (h : Φ (-1)) : wp_X11_whomOf (nI m) Φ := by
  simp (disch := omega) only [wp_X11_whomOf, kI, nI_ltI, nI_leI, nI_eq, nI_clamp, krem, pk_div, pk_mul, nI_add, forall_eq]
  rw [hw]
  exact h
theorem cM_whom1 {m : Nat} (hm : m < 100000) (hw : m / 8 % 6 ≠ 0) {Φ : Int32 → Prop} (h : Φ (nI (m / 8 % 6 - 1))) : wp_X11_whomOf (nI m) Φ := by
  simp (disch := omega) only [wp_X11_whomOf, kI, nI_ltI, nI_leI, nI_eq, nI_clamp, krem, pk_div, pk_mul, nI_add, forall_eq, ksub1]
  exact h
theorem cM_placeOf {σ : Mm} {g d : Nat → Int32} (hw : WFg g) (hf : FmM σ g d) {i t : Nat} (hi : i < aP g) (ht : t < 100000) {Φ : Int32 → Prop} (h : Φ (nI (aPlc g i t))) : wp_X11_placeOf σ (nI i) (nI t) Φ := by
  have hP := hw.P
  obtain ⟨h0, h1, h2, h3, h4, h5, h6, hl1, hl2, h7, h8, h9⟩ := hw
  obtain ⟨f1, f2⟩ := hf
  have hm := h8 i hi
  have e : t % aMany g i < aMany g i := Nat.mod_lt _ (by omega)
  unfold aMany at hm e
  simp (disch := omega) only [wp_X11_placeOf, kI, nI_ltI, nI_leI, nI_eq, nI_clamp, krem, pk_div, pk_mul, nI_add, forall_eq, f1]
  exact ⟨by omega, by omega, by omega, h⟩
theorem cM_fedBy {σ : Mm} {g d : Nat → Int32} (hw : WFg g) (hf : FmM σ g d) {m i : Nat} (hm : m < 1008) (hi : i < aP g) {Φ : Int32 → Prop} (h : Φ (nI (fedm g m i))) : wp_X11_fedBy σ (nI m) (nI i) Φ := by
  have hP := hw.P
  have hF := hw.F
  refine cM_yardOf (by omega) ?_
  simp (disch := omega) only [kI, nI_ltI, nI_leI, nI_eq, nI_clamp, krem, pk_div, pk_mul, nI_add, forall_eq, hf.1]
  exact h
theorem cM_mayFeed {σ : Mm} {g d : Nat → Int32} (hw : WFg g) (hf : FmM σ g d) {m i t : Nat} (hm : m < 1008) (hi : i < aP g) (ht : t < 100000) {Φ : Int32 → Prop} (h : Φ (if aPlc g i t = m % 8 then 1 else 0)) : wp_X11_mayFeed σ (nI m) (nI i) (nI t) Φ := by
  have hN := hw.N
  have hp := hw.plc (t := t) hi
  refine cM_placeOf hw hf hi ht (cM_yardOf (by omega) ?_)
  simp (disch := omega) only [kI, nI_ltI, nI_leI, nI_eq, nI_clamp, krem, pk_div, pk_mul, nI_add, forall_eq]
  refine ⟨fun c => ?_, fun c => ?_⟩
  · rw [if_neg c] at h; exact h
  · rw [if_pos c] at h; exact h
theorem cM_after_L {σ : Mm} {g d : Nat → Int32} (hw : WFg g) (hd : WFd g d) (hf : FmM σ g d) {a t : Nat} (ha : a < 8) (ht : t < 8) (h0 : aD d a t ≠ 0) (h1 : aD d a t < 999999) {K : Int32 → Prop} (hK : K (nI (aNx g d a t))) : ∀ (n y : Nat), y + n = aNx g d a t → wp_X11_after_L82 σ (nI a) (nI t) (nI (aD d a t)) K (n + 1) (nI y) := by
  obtain ⟨x1, x2, x3⟩ := aNx_spec hd ha ht h0 h1
  obtain ⟨g0, g1, g2, g3, g4, g5, g6, gl1, gl2, g7, g8, g9⟩ := hw
  have hm := gl1 a ha
  have hdy : ∀ y, y < 8 → gN d (8 * y + t) < 8 ∨ gN d (8 * y + t) = 999999 := fun y hy => hd.2.2.1 y t hy ht
  have hb : ∀ y, y < 8 → ((σ.1 1 (4 + a) >>> (nI y &&& 31)) &&& 1) = nI (gN g (4 + a) / 2 ^ y % 2) := by
    intro y hy
    rw [hf.1 _ (by omega)]
    exact kbitI (by omega) (by omega)
  have key : ∀ y, y < 8 → (aNp g d a t y = true ↔ gN g (4 + a) / 2 ^ y % 2 ≠ 0 ∧ gN d (8 * y + t) = aD d a t - 1) := by
    intro y hy
    unfold aNp aLane aD
    rw [testBit_dm]
    simp only [Bool.and_eq_true, decide_eq_true_eq]
    have : gN g (4 + a) / 2 ^ y % 2 < 2 := Nat.mod_lt _ (by omega)
    constructor
    · rintro ⟨p, q⟩; exact ⟨by omega, q⟩
    · rintro ⟨p, q⟩; exact ⟨by omega, q⟩
  intro n
  induction n with
  | zero =>
    intro y hy
    have hy' : y = aNx g d a t := by omega
    subst hy'
    have k1 := (key _ x1).mp x2
    generalize aNx g d a t = y at *
    simp (disch := omega) only [wp_X11_after_L82, kI, nI_add, pk_mul, nI_clamp, nI_leI, nI_ltI]
    have e := hb y x1
    have hdy1 := hdy y x1
    simp only [kI] at e
    simp (disch := omega) only [e, nI_eq, hf.2, pk_sub]
    have : gN g (4 + a) / 2 ^ y % 2 < 2 := Nat.mod_lt _ (by omega)
    refine ⟨by omega, _, fun h => h, ?_, ?_⟩
    · intro q; omega
    · intro q
      refine ⟨by omega, fun _ => hK, fun q2 => absurd k1.2 q2⟩
  | succ n ih =>
    intro y hy
    have k0 : ¬ (aNp g d a t y = true) := by
      rw [x3 y (by omega)]; decide
    have k1 := fun z => k0 ((key y (by omega)).mpr z)
    have ih' := ih (y + 1) (by omega)
    have e := hb y (by omega)
    have hdy1 := hdy y (by omega)
    simp only [kI] at e
    unfold wp_X11_after_L82
    simp (disch := omega) only [kI, nI_add, pk_mul, nI_clamp, nI_leI, nI_ltI, e, nI_eq, hf.2, pk_sub]
    refine ⟨by omega, _, fun h => h, fun _ => ih', fun q => ⟨by omega, fun q2 => absurd ⟨q, q2⟩ k1, fun _ => ih'⟩⟩
theorem cM_after {σ : Mm} {g d : Nat → Int32} (hw : WFg g) (hd : WFd g d) (hf : FmM σ g d) {m t : Nat} (hm : isSt g m) (ht : t < 100000) {Φ : Int32 → Prop} (h : Φ (nI (aft g d m t))) : wp_X11_after σ (nI m) (nI t) Φ := by
  have hN := hw.N
  have hP := hw.P
  have hF := hw.F
  obtain ⟨m0, m1, m2, m3, m4, m5⟩ := hm
  unfold aft at h
  by_cases hw0 : m / 8 % 6 = 0
  · rw [if_pos hw0] at h
    exact cM_whom0 (by omega) hw0 (cM_yardOf (by omega) (br_f (by decide) h))
  · rw [if_neg hw0] at h
    have hp := hw.plc (i := m / 8 % 6 - 1) (t := t) (by omega)
    have hx := aNx_lt hw hd (a := m % 8) (t := aPlc g (m / 8 % 6 - 1) t) m1 (by omega)
    refine cM_whom1 (by omega) hw0 (cM_yardOf (by omega) ?_)
    refine br_t (nI_pos' (by omega)) ?_
    have cont : ∀ l : Nat, l ≤ 20 → Φ (nI (aNx g d (m % 8) (aPlc g (m / 8 % 6 - 1) t) + 8 * (m / 8 % 6) + 48 * l)) → wp_X11_placeOf σ (nI (m / 8 % 6 - 1)) (nI t) (fun r8 => (0 ≤ ((8 * (nI (m % 8))) + r8) ∧ ((8 * (nI (m % 8))) + r8) < 64) ∧ ∀ x7_10 : Int32, x7_10 = (σ.1 2 (((8 * (nI (m % 8))) + r8).toNatClampNeg)) → ∃ K129 : Int32 → Prop, (∀ (x4_11 : Int32), K129 x4_11 → Φ ((x4_11 + (8 * (nI (m / 8 % 6 - 1) + 1))) + (48 * nI l))) ∧ ((x7_10 ≤ 0 → K129 (nI (m % 8))) ∧ (¬ (x7_10 ≤ 0) → (((999999 ≤ x7_10 → K129 (nI (m % 8))) ∧ (¬ (999999 ≤ x7_10) → (∃ K125 : Int32 → Prop, (∀ (x8_12 : Int32), K125 x8_12 → K129 x8_12) ∧ ∃ n : Nat, wp_X11_after_L82 σ (nI (m % 8)) r8 x7_10 K125 n 0))))))) := by
      intro l hl hΦ
      refine cM_placeOf hw hf (by omega) ht ?_
      generalize aPlc g (m / 8 % 6 - 1) t = q at *
      have hdq := hd.2.2.1 (m % 8) q (by omega) (by omega)
      have eD : gN d (8 * (m % 8) + q) = aD d (m % 8) q := rfl
      simp (disch := omega) only [kI, nI_ltI, nI_leI, nI_eq, nI_clamp, krem, pk_div, pk_mul, nI_add, forall_eq, hf.2, eD]
      refine ⟨by omega, fun v => v = nI (aNx g d (m % 8) q), ?_, ?_⟩
      · intro x ex
        rw [ex]
        simp (disch := omega) only [kI, nI_ltI, nI_leI, nI_eq, nI_clamp, krem, pk_div, pk_mul, nI_add, forall_eq]
        have : 8 * (m / 8 % 6 - 1 + 1) = 8 * (m / 8 % 6) := by omega
        rw [this]
        exact hΦ
      · refine ⟨fun c => ?_, fun c => ⟨fun c2 => ?_, fun c2 => ?_⟩⟩
        · unfold aNx; rw [if_pos (by omega)]
        · unfold aNx; rw [if_pos (by omega)]
        · refine ⟨fun v => v = nI (aNx g d (m % 8) q), fun x e => e, aNx g d (m % 8) q + 1, ?_⟩
          exact cM_after_L (a := m % 8) (t := q) (K := fun v => v = nI (aNx g d (m % 8) q)) hw hd hf (by omega) (by omega) (by omega) (by omega) rfl (aNx g d (m % 8) q) 0 (by omega)
    have e48 : (nI m) / 48 = nI (m / 48) := pk_div (a := m) (d := 48) (by omega) (by omega) (by omega)
    intro x5 ex5
    rw [e48] at ex5
    subst ex5
    refine ⟨_, fun _ z => z, ?_⟩
    rw [hf.1 2 (by omega)]
    have eF : gN g 2 = aF g := rfl
    rw [eF]
    by_cases hF0 : aF g = 0
    · refine br_t ?_ ?_
      · rw [hF0]; decide
      · rw [if_neg (by omega), if_pos hF0] at h
        have := m4 hF0
        rw [this]
        exact cont 0 (by omega) h
    · have m6 := m5 hw0 hF0
      have e1 : nI (m / 48) + -1 = nI (m / 48 - 1) := by
        have : m / 48 = (m / 48 - 1) + 1 := by omega
        rw [this]
        exact pk_m1 _
      rw [e1]
      refine br_f ?_ ?_
      · intro q
        have := (nI_leI (a := aF g) (b := 0) (by omega) (by omega)).mp q
        omega
      · by_cases h1 : m / 48 = 1
        · rw [if_pos ⟨hF0, h1⟩] at h
          refine ⟨fun q => absurd ?_ q, fun _ => h⟩
          rw [h1]; rfl
        · rw [if_neg (by omega), if_neg hF0] at h
          refine ⟨fun _ => cont _ (by omega) h, fun q => ?_⟩
          have := (nI_eq (a := m / 48 - 1) (b := 0) (by omega) (by omega)).mp q
          omega
-- ===== the component
theorem cC_yardOf {m : Nat} (hm : m < 100000) {Φ : Int32 → Prop} (h : Φ (nI (m % 8))) : wp_X10_yardOf (nI m) Φ := by
  simp (disch := omega) only [wp_X10_yardOf, kI, nI_ltI, nI_leI, nI_eq, nI_clamp, krem, pk_div, pk_mul, nI_add, forall_eq]
  exact h
theorem cst_parts {g : Nat → Int32} (hg : WFg g) {m : Nat} (hm : isSt g m) : cst g m % 8 = m % 8 ∧ cst g m / 8 % 6 = m / 8 % 6 ∧ cst g m / 48 = (if m / 8 % 6 = 0 ∨ aF g = 0 then 0 else aF g - m / 48) := by
  have hP := hg.P
  obtain ⟨m0, m1, m2, m3, m4, m5⟩ := hm
  unfold cst
  generalize (if m / 8 % 6 = 0 ∨ aF g = 0 then 0 else aF g - m / 48) = a
  omega
theorem cC_followed0 {m : Nat} (hm : m < 100000) (hw : m / 8 % 6 = 0) {Φ : Int32 → Prop} (h : Φ (-1)) : wp_X10_followedIn (nI m) Φ := by
  simp (disch := omega) only [wp_X10_followedIn, kI, nI_ltI, nI_leI, nI_eq, nI_clamp, krem, pk_div, pk_mul, nI_add, forall_eq]
  rw [hw]
  exact h
theorem cC_followed1 {m : Nat} (hm : m < 100000) (hw : m / 8 % 6 ≠ 0) {Φ : Int32 → Prop} (h : Φ (nI (m / 8 % 6 - 1))) : wp_X10_followedIn (nI m) Φ := by
  simp (disch := omega) only [wp_X10_followedIn, kI, nI_ltI, nI_leI, nI_eq, nI_clamp, krem, pk_div, pk_mul, nI_add, forall_eq, ksub1]
  exact h
theorem cC_packed {a f y : Nat} {Φ : Int32 → Prop} (h : Φ (nI ((a * 6 + (f + 1)) * 8 + y))) : wp_X10_packed (nI y) (nI f) (nI a) Φ := by
  simp (disch := omega) only [wp_X10_packed, kI, nI_ltI, nI_leI, nI_eq, nI_clamp, krem, pk_div, pk_mul, nI_add, forall_eq]
  exact h
theorem cC_packed0 {y : Nat} {Φ : Int32 → Prop} (h : Φ (nI y)) : wp_X10_packed (nI y) (-1) 0 Φ := by
  unfold wp_X10_packed
  have : ((0 : Int32) * 6 + -1 + 1) * 8 + nI y = nI y := by
    have : ((0 : Int32) * 6 + -1 + 1) * 8 = nI 0 := by decide
    rw [this, nI_add, Nat.zero_add]
  rw [this]
  exact h
theorem cC_fedState {g : Nat → Int32} (hg : WFg g) {m i : Nat} (hm : isSt g m) (hi : i < aP g) {Φ : Int32 → Prop} (h : Φ (nI (cst g (fedm g m i)))) : wp_X10_fedState (nI (cst g m)) (nI i) Φ := by
  have hP := hg.P
  have hl := cst_lt hg hm
  obtain ⟨p1, p2, p3⟩ := cst_parts hg hm
  refine cC_yardOf (by omega) (cC_packed (a := 0) ?_)
  obtain ⟨e1, e2, e3⟩ := split3 (y := m % 8) (w := i + 1) (l := aF g) (by omega) (by omega)
  have e : (0 * 6 + (i + 1)) * 8 + cst g m % 8 = cst g (fedm g m i) := by
    unfold cst fedm
    rw [e1, e2, e3]
    have : (if i + 1 = 0 ∨ aF g = 0 then 0 else aF g - aF g) = 0 := by split <;> omega
    rw [this]
    omega
  rw [e]
  exact h
theorem cC_canFeed {σ : Mm} {b : Nat} {g : Nat → Int32} (hw : WFg g) (hf : FmC σ b g) {m i t : Nat} (hm : isSt g m) (hi : i < aP g) (ht : t < 100000) {Φ : Int32 → Prop} (h : Φ (if aPlc g i t = m % 8 then 1 else 0)) : wp_X1_canFeed σ b (nI i) (nI (cst g m)) (nI t) Φ := by
  have hN := hw.N
  have hP := hw.P
  have hp := hw.plc (t := t) hi
  have hl := cst_lt hw hm
  obtain ⟨p1, p2, p3⟩ := cst_parts hw hm
  refine br_f (nI_pos (by omega)) (br_f ?_ (cC_yardAt hw hf hi ht (cC_yardOf (by omega) ?_)))
  · rw [hf.2.1, nI_leI (by omega) (by omega)]
    omega
  · rw [p1]
    simp (disch := omega) only [kI, nI_ltI, nI_leI, nI_eq, nI_clamp, krem, pk_div, pk_mul, nI_add, forall_eq]
    refine ⟨fun c => ?_, fun c => ?_⟩
    · rw [if_neg c] at h; exact h
    · rw [if_pos c] at h; exact h
theorem cC_towards {σ : Mm} {b : Nat} {g d : Nat → Int32} (hf : FmD σ b g d) {a t : Nat} (ha : a < 8) (ht : t < 8) {Φ : Int32 → Prop} (h : Φ (nI (aNx g d a t))) : wp_X1_towards σ b (nI a) (nI t) Φ := by
  have e := (hf a t ha ht).2
  rw [Nat.mul_comm] at e
  simp (disch := omega) only [wp_X1_towards, kI, nI_ltI, nI_leI, nI_eq, nI_clamp, krem, pk_div, pk_mul, nI_add, forall_eq, e]
  exact br_f (by omega) (br_f (by omega) (br_f (by omega) (br_t (by omega) ⟨by omega, h⟩)))
theorem cC_onward {σ : Mm} {b : Nat} {g d : Nat → Int32} (hw : WFg g) (hd : WFd g d) (hf : FmC σ b g) (hfd : FmD σ b g d) {m t : Nat} (hm : isSt g m) (ht : t < 100000) {Φ : Int32 → Prop} (h : Φ (nI (cst g (aft g d m t)))) : wp_X1_onward σ b (nI (cst g m)) (nI t) Φ := by
  have hN := hw.N
  have hP := hw.P
  have hF := hw.F
  have hl := cst_lt hw hm
  obtain ⟨p1, p2, p3⟩ := cst_parts hw hm
  have hm' := hm
  obtain ⟨m0, m1, m2, m3, m4, m5⟩ := hm
  have cy : cst g (m % 8) = m % 8 := by
    unfold cst
    rw [if_pos (Or.inl (by omega))]
    omega
  unfold aft at h
  refine cC_yardOf (by omega) ?_
  rw [p1]
  by_cases hw0 : m / 8 % 6 = 0
  · rw [if_pos hw0, cy] at h
    refine cC_followed0 (by omega) (by omega) ⟨fun c => absurd rfl c, fun _ => ?_⟩
    have : cst g m = m % 8 := by
      unfold cst
      rw [if_pos (Or.inl hw0)]
      omega
    rw [this]
    exact h
  · rw [if_neg hw0] at h
    have hp := hw.plc (i := m / 8 % 6 - 1) (t := t) (by omega)
    have hx := aNx_lt hw hd (a := m % 8) (t := aPlc g (m / 8 % 6 - 1) t) m1 (by omega)
    refine cC_followed1 (by omega) (by omega) ?_
    rw [p2]
    refine brn_t ?_ ?_
    · intro q
      have : (nI (m / 8 % 6 - 1)).toInt = (-1 : Int32).toInt := by rw [q]
      rw [nI_toInt (by omega)] at this
      have h2 : (-1 : Int32).toInt = -1 := by decide
      omega
    · rw [hf.2.2.1]
      refine ⟨_, fun _ z => z, ?_⟩
      by_cases hF0 : aF g = 0
      · rw [if_neg (by omega), if_pos hF0] at h
        have e0 : nI (aF g) ≤ 0 := by rw [hF0]; decide
        refine br_t e0 ?_
        refine ⟨_, fun z => z, ?_⟩
        refine br_t e0 ?_
        refine cC_yardAt hw hf (by omega) ht (cC_towards hfd (by omega) (by omega) (cC_packed (a := 0) ?_))
        generalize aPlc g (m / 8 % 6 - 1) t = q at *
        obtain ⟨e1, e2, e3⟩ := split3 (y := aNx g d (m % 8) q) (w := m / 8 % 6) (l := 0) (by omega) (by omega)
        have e : (0 * 6 + (m / 8 % 6 - 1 + 1)) * 8 + aNx g d (m % 8) q = cst g (aNx g d (m % 8) q + 8 * (m / 8 % 6) + 48 * 0) := by
          unfold cst
          rw [e1, e2, if_pos (Or.inr hF0)]
          omega
        rw [e]
        exact h
      · have m6 := m5 hw0 hF0
        have e0 : ¬ (nI (aF g) ≤ 0) := by
          intro q
          have := (nI_leI (a := aF g) (b := 0) (by omega) (by omega)).mp q
          omega
        rw [if_neg (by omega)] at p3
        refine br_f e0 ?_
        unfold wp_X10_ageIn
        have e48 : nI (cst g m) / 48 + 1 = nI (aF g - m / 48 + 1) := by
          have : nI (cst g m) / 48 = nI (cst g m / 48) := pk_div (a := cst g m) (d := 48) (by omega) (by omega) (by omega)
          rw [this, p3]
          exact nI_1 _
        dsimp only
        rw [e48]
        refine ⟨_, fun z => z, ?_⟩
        refine br_f e0 ?_
        rw [nI_ltI (by omega) (by omega)]
        by_cases h1 : m / 48 = 1
        · rw [if_pos ⟨hF0, h1⟩, cy] at h
          refine br_f (by omega) ?_
          exact cC_packed0 h
        · rw [if_neg (by omega), if_neg hF0] at h
          refine br_t (by omega) ?_
          refine cC_yardAt hw hf (by omega) ht (cC_towards hfd (by omega) (by omega) (cC_packed ?_))
          generalize aPlc g (m / 8 % 6 - 1) t = q at *
          obtain ⟨e1, e2, e3⟩ := split3 (y := aNx g d (m % 8) q) (w := m / 8 % 6) (l := m / 48 - 1) (by omega) (by omega)
          have e : ((aF g - m / 48 + 1) * 6 + (m / 8 % 6 - 1 + 1)) * 8 + aNx g d (m % 8) q = cst g (aNx g d (m % 8) q + 8 * (m / 8 % 6) + 48 * (m / 48 - 1)) := by
            unfold cst
            rw [e1, e2, e3, if_neg (by omega)]
            omega
          rw [e]
          exact h
end
section
def Mom (g : Nat → Int32) (x y z u v w : Int32) : Prop := ∃ mi m fe : Nat, mi ≤ 9999 ∧ isSt g m ∧ x = nI mi ∧ y = nI (cst g m) ∧ z = nI fe ∧ u = nI mi ∧ v = nI m ∧ w = nI fe
def NwR (g : Nat → Int32) (a x : Nat → Int32) : Prop := Mom g (a 0) (a 1) (a 2) (x 0) (x 1) (x 2)
def MsR (g : Nat → Int32) (mx : Nat) (c : Int32) (r1 r2 r3 : Nat → Int32) (c2 : Int32) (x : Nat → Int32) : Prop := ∃ k, k ≤ mx ∧ c = nI k ∧ c2 = nI k ∧ ∀ j, j < k → Mom g (r1 j) (r2 j) (r3 j) (x (3 * j)) (x (3 * j + 1)) (x (3 * j + 2))
def TdR (n mx : Nat) (c : Int32) (ry rm : Nat → Int32) (c2 : Int32) (xy xm : Nat → Int32) : Prop := ∃ k, k ≤ 6 ∧ c = nI k ∧ c2 = nI k ∧ ∀ j, j < k → ∃ y a, y < n ∧ a ≤ mx ∧ ry j = nI y ∧ rm j = nI a ∧ xy j = nI y ∧ xm j = nI a
def TxR (c : Int32) (r : Nat → Int32) (c2 : Int32) (x : Nat → Int32) : Prop := ∃ L, L ≤ 300 ∧ c = nI L ∧ c2 = nI L ∧ ∀ j, j < L → r j = x j
def FrR (c : Int32) (st : Nat → Int32) (nu : Nat → Int64) : Prop := ∃ k, k ≤ 960 ∧ c = nI k ∧ (∀ i, i < k → ∃ s, s < 960 ∧ st i = nI s) ∧ ∀ s, s < 960 → nu s ≠ -1 → ∃ i, i < k ∧ st i = nI s
/-- the farm's part of the relation -/
def FP (g d : Nat → Int32) (σ τ : Mm) : Prop := WFg g ∧ WFd g d ∧ okC σ.2.2 ∧ σ.2.2 0 ≠ σ.2.2 1 ∧ σ.2.2 2 ≠ σ.2.2 3 ∧ FmC σ (σ.2.2 0) g ∧ FmD σ (σ.2.2 0) g d ∧ FmM τ g d
def RelG (g d : Nat → Int32) (σ τ : Mm) : Prop := FP g d σ τ ∧ TxR (σ.1 1 1) (σ.1 2) (τ.1 0 3) (τ.1 3) ∧ NwR g (σ.1 16) (τ.1 4) ∧ MsR g 8 (σ.1 17 3) (σ.1 18) (σ.1 19) (σ.1 20) (τ.1 0 9) (τ.1 5) ∧ MsR g 2 (σ.1 21 3) (σ.1 22) (σ.1 23) (σ.1 24) (τ.1 0 11) (τ.1 6) ∧ TdR (aN g) 40 (σ.1 25 2) (σ.1 26) (σ.1 27) (τ.1 0 14) (τ.1 7) (τ.1 8) ∧ TdR (aN g) 20 (σ.1 28 2) (σ.1 29) (σ.1 30) (τ.1 0 21) (τ.1 13) (τ.1 14) ∧ FrR (σ.1 32 2) (σ.1 33) (σ.2.1 34) ∧ FrR (σ.1 35 2) (σ.1 36) (σ.2.1 37)
def Rel (σ τ : Mm) : Prop := ∃ g d, RelG g d σ τ
theorem FmC.of {σ σ2 : Mm} {b : Nat} {g : Nat → Int32} (h : FmC σ b g) (e : ∀ k, b ≤ k → k ≤ b + 5 → σ2.1 k = σ.1 k) : FmC σ2 b g := by
  unfold FmC at *
  rw [e b (by omega) (by omega), e (b + 3) (by omega) (by omega), e (b + 4) (by omega) (by omega), e (b + 5) (by omega) (by omega)]
  exact h
theorem FmD.of {σ σ2 : Mm} {b : Nat} {g d : Nat → Int32} (h : FmD σ b g d) (e : ∀ k, b ≤ k → k ≤ b + 5 → σ2.1 k = σ.1 k) : FmD σ2 b g d := by
  unfold FmD at *
  rw [e (b + 1) (by omega) (by omega), e (b + 2) (by omega) (by omega)]
  exact h
theorem FmM.of {τ τ2 : Mm} {g d : Nat → Int32} (h : FmM τ g d) (e1 : τ2.1 1 = τ.1 1) (e2 : τ2.1 2 = τ.1 2) : FmM τ2 g d := by
  unfold FmM at *
  rw [e1, e2]
  exact h
theorem FP.of {g d : Nat → Int32} {σ σ2 τ τ2 : Mm} (h : FP g d σ τ) (er : σ2.2.2 = σ.2.2) (e : ∀ k, 4 ≤ k → k ≤ 15 → σ2.1 k = σ.1 k) (e1 : τ2.1 1 = τ.1 1) (e2 : τ2.1 2 = τ.1 2) : FP g d σ2 τ2 := by
  obtain ⟨a1, a2, a3, a4, a5, a6, a7, a8⟩ := h
  have hb : 4 ≤ σ.2.2 0 ∧ σ.2.2 0 ≤ 10 := by rcases a3.1 with q | q <;> omega
  unfold FP
  rw [er]
  exact ⟨a1, a2, a3, a4, a5, a6.of (fun k h1 h2 => e k (by omega) (by omega)), a7.of (fun k h1 h2 => e k (by omega) (by omega)), a8.of e1 e2⟩
theorem FP_kwi {g d : Nat → Int32} {σ τ : Mm} (h : FP g d σ τ) {k j : Nat} {v : Int32} (hk : k < 4 ∨ 15 < k) : FP g d (kwi σ k j v) τ := h.of rfl (fun i h1 h2 => kwi_ne σ j v (by omega)) rfl rfl
theorem FP_kwiM {g d : Nat → Int32} {σ τ : Mm} (h : FP g d σ τ) {k j : Nat} {v : Int32} (hk : k ≠ 1 ∧ k ≠ 2) : FP g d σ (kwi τ k j v) := h.of rfl (fun i h1 h2 => rfl) (kwi_ne τ j v (fun e => hk.1 e.symm)) (kwi_ne τ j v (fun e => hk.2 e.symm))
/-- an int that is one of the first n numbers -/
def yIn (n : Nat) (x : Int32) : Prop := ∃ j, j < n ∧ x = nI j
theorem yIn_not {n : Nat} {x : Int32} (hn : n < 2 ^ 31) (h : ¬ yIn n x) : x < 0 ∨ nI n ≤ x := by
  rcases pk_ix x hn with q | q | q
  · exact Or.inl q
  · exact Or.inr q
  · exact absurd q h
theorem cM_in1 {x lo hi : Nat} {Φ : Int32 → Prop} (h1 : lo ≤ x) (h2 : x ≤ hi) (h3 : hi < 2 ^ 31) (h : Φ 1) : wp_X11_in (nI x) (nI lo) (nI hi) Φ := by
  simp (disch := omega) only [wp_X11_in, nI_ltI]
  exact br_f (by omega) (br_f (by omega) h)
theorem cM_in0 {hi : Nat} {x : Int32} {Φ : Int32 → Prop} (h3 : hi + 1 < 2 ^ 31) (hx : ¬ yIn (hi + 1) x) (h : Φ 0) : wp_X11_in x 0 (nI hi) Φ := by
  rcases yIn_not h3 hx with q | q
  · exact br_t q h
  · refine ⟨fun _ => h, fun _ => br_t ?_ h⟩
    have h1 := (fa_le_ _ _).mp q
    rw [nI_toInt h3] at h1
    apply (fa_lt_ _ _).mpr
    rw [nI_toInt (by omega)]
    omega
theorem cM_isYard {τ : Mm} {g d : Nat → Int32} (hw : WFg g) (hf : FmM τ g d) {x : Int32} {Φ : Int32 → Prop} (h1 : yIn (aN g) x → Φ 1) (h0 : ¬ yIn (aN g) x → Φ 0) : wp_X11_isYard τ x Φ := by
  have hN := hw.N
  unfold wp_X11_isYard
  have e : τ.1 1 0 - 1 = nI (aN g - 1) := by
    rw [hf.1 0 (by omega)]
    exact ksub1 (a := aN g) (by omega)
  rw [e]
  by_cases hy : yIn (aN g) x
  · obtain ⟨j, hj, rfl⟩ := id hy
    exact cM_in1 (lo := 0) (by omega) (by omega) (by omega) ⟨kbit_1, h1 hy⟩
  · exact cM_in0 (by omega) (by rw [Nat.sub_add_cancel (by omega)]; exact hy) ⟨kbit_0, h0 hy⟩
theorem cM_isPerson {τ : Mm} {g d : Nat → Int32} (hw : WFg g) (hf : FmM τ g d) {x : Int32} {Φ : Int32 → Prop} (h1 : yIn (aP g) x → Φ 1) (h0 : ¬ yIn (aP g) x → Φ 0) : wp_X11_isPerson τ x Φ := by
  have hN := hw.P
  unfold wp_X11_isPerson
  have e : τ.1 1 1 - 1 = nI (aP g - 1) := by
    rw [hf.1 1 (by omega)]
    exact ksub1 (a := aP g) (by omega)
  rw [e]
  by_cases hy : yIn (aP g) x
  · obtain ⟨j, hj, rfl⟩ := id hy
    exact cM_in1 (lo := 0) (by omega) (by omega) (by omega) ⟨kbit_1, h1 hy⟩
  · exact cM_in0 (by omega) (by rw [Nat.sub_add_cancel (by omega)]; exact hy) ⟨kbit_0, h0 hy⟩
theorem cC_hasYard {σ : Mm} {b : Nat} {g : Nat → Int32} (hw : WFg g) (hf : FmC σ b g) {x : Int32} {Φ : Int32 → Prop} (h1 : yIn (aN g) x → Φ 1) (h0 : ¬ yIn (aN g) x → Φ 0) : wp_X1_hasYard σ b x Φ := by
  have hN := hw.N
  unfold wp_X1_hasYard
  rw [hf.1]
  by_cases hy : yIn (aN g) x
  · obtain ⟨j, hj, rfl⟩ := id hy
    exact br_f (nI_pos (by omega)) (br_f (nI_ge hj (by omega)) (h1 hy))
  · have h := h0 hy
    rcases yIn_not (by omega) hy with q | q
    · exact br_t q h
    · exact ⟨fun _ => h, fun _ => br_t q h⟩
theorem cC_hasPerson {σ : Mm} {b : Nat} {g : Nat → Int32} (hw : WFg g) (hf : FmC σ b g) {x : Int32} {Φ : Int32 → Prop} (h1 : yIn (aP g) x → Φ 1) (h0 : ¬ yIn (aP g) x → Φ 0) : wp_X1_hasPerson σ b x Φ := by
  have hN := hw.P
  unfold wp_X1_hasPerson
  rw [hf.2.1]
  by_cases hy : yIn (aP g) x
  · obtain ⟨j, hj, rfl⟩ := id hy
    exact br_f (nI_pos (by omega)) (br_f (nI_ge hj (by omega)) (h1 hy))
  · have h := h0 hy
    rcases yIn_not (by omega) hy with q | q
    · exact br_t q h
    · exact ⟨fun _ => h, fun _ => br_t q h⟩
-- a range that the component tests by hand: 0 .. hi
theorem rg_in {x : Int32} {hi : Nat} (h3 : hi + 1 < 2 ^ 31) : (¬ x < 0 ∧ x ≤ nI hi) ↔ yIn (hi + 1) x := by
  constructor
  · rintro ⟨a, b⟩
    obtain ⟨j, hj, e⟩ := nI_of2 (M := nI hi) (nI_toInt (by omega)) a b
    exact ⟨j, by omega, e⟩
  · rintro ⟨j, hj, rfl⟩
    exact ⟨nI_pos (by omega), nI_le (by omega) (by omega)⟩
end
section
theorem cM_mono_far {τ : Mm} {x y : Int32} {Φ Ψ : Int32 → Prop} (h : wp_X11_far τ x y Φ) (k : ∀ r, Φ r → Ψ r) : wp_X11_far τ x y Ψ := by
  unfold wp_X11_far wp_X11_isYard wp_X11_in at *
  grind
theorem op_wipe {σ τ : Mm} (h : Rel σ τ) : wp_X10_wipe σ (fun r σ2 => wp_X11_wipe τ (fun r2 τ2 => r = r2 ∧ Rel σ2 τ2)) := by
  obtain ⟨g, d, hF, ⟨L, hL, t1, t2, t3⟩, hN, hD, hK, hG, hS, hf1, hf2⟩ := h
  intro σ2 e2 x1 e1 τ2 e3
  subst e1 e2 e3
  exact ⟨t1.trans t2.symm, g, d, FP_kwiM (FP_kwi hF (by omega)) (by decide), ⟨0, by omega, rfl, rfl, fun j hj => by omega⟩, hN, hD, hK, hG, hS, hf1, hf2⟩
theorem op_far {σ τ : Mm} (h : Rel σ τ) (x y : Int32) : wp_X10_far σ x y (fun r => wp_X11_far τ x y (fun r2 => r = r2)) := by
  obtain ⟨g, d, ⟨hg, hd, -, -, -, hC, hCD, hM⟩, -⟩ := h
  have hN := hg.N
  by_cases hx : yIn (aN g) x
  · by_cases hy : yIn (aN g) y
    · refine cC_hasYard hg hC (fun _ => br_f (by decide) (cC_hasYard hg hC (fun _ => brn_t (by decide) ?_) (fun q => absurd hy q))) (fun q => absurd hx q)
      obtain ⟨a, ha, rfl⟩ := id hx
      obtain ⟨b, hb, rfl⟩ := id hy
      have e := (hCD a b (by omega) (by omega)).1
      rw [Nat.mul_comm] at e
      have e2 := hM.2 (8 * a + b) (by omega)
      have e3 : gN d (8 * a + b) = aD d a b := rfl
      have hdq := hd.2.2.1 a b (by omega) (by omega)
      simp (disch := omega) only [wp_X1_distance, kI, nI_ltI, nI_leI, nI_eq, nI_clamp, krem, pk_div, pk_mul, nI_add, forall_eq, e]
      refine br_f (by omega) (br_f (by omega) (br_f (by omega) (br_t (by omega) ⟨by omega, ?_⟩)))
      have key : wp_X11_far τ (nI a) (nI b) (fun r2 => r2 = if aD d a b < 8 then nI (aD d a b) else -4) := by
        refine cM_isYard hg hM (fun _ => br_f (by decide) (cM_isYard hg hM (fun _ => brn_t (by decide) ?_) (fun q => absurd hy q))) (fun q => absurd hx q)
        simp (disch := omega) only [kI, nI_ltI, nI_leI, nI_eq, nI_clamp, krem, pk_div, pk_mul, nI_add, forall_eq, e2, e3]
        refine ⟨by omega, fun c => ⟨by omega, ?_⟩, fun c => ?_⟩
        · rw [if_pos (by omega)]
        · rw [if_neg (by omega)]
      by_cases h8 : aD d a b < 8
      · rw [if_pos h8] at key ⊢
        simp (disch := omega) only [nI_eq]
        refine brn_t (by omega) ?_
        exact cM_mono_far key (fun r q => q.symm)
      · rw [if_neg h8] at key ⊢
        refine brn_f rfl ?_
        exact cM_mono_far key (fun r q => q.symm)
    · refine cC_hasYard hg hC (fun _ => br_f (by decide) (cC_hasYard hg hC (fun q => absurd q hy) (fun _ => brn_f rfl ?_))) (fun q => absurd hx q)
      exact cM_isYard hg hM (fun _ => br_f (by decide) (cM_isYard hg hM (fun q => absurd q hy) (fun _ => brn_f rfl rfl))) (fun q => absurd hx q)
  · refine cC_hasYard hg hC (fun q => absurd q hx) (fun _ => br_t rfl ?_)
    exact cM_isYard hg hM (fun q => absurd q hx) (fun _ => br_t rfl rfl)
theorem op_person {σ τ : Mm} (h : Rel σ τ) (x y : Int32) : wp_X10_person σ x y (fun r => wp_X11_person τ x y (fun r2 => r = r2)) := by
  obtain ⟨g, d, ⟨hg, hd, -, -, -, hC, hCD, hM⟩, -⟩ := h
  have hN := hg.N
  have hP := hg.P
  by_cases hx : yIn (aP g) x
  · refine cC_hasPerson hg hC (fun _ => br_f (by decide) ?_) (fun q => absurd hx q)
    obtain ⟨i, hi, rfl⟩ := id hx
    have hm : ∀ {Φ : Int32 → Prop}, (y < -1 → Φ (-1)) → (¬ y ≤ 9999 → Φ (-1)) → (y = -1 → Φ (nI (aCost g i))) → (∀ t, t ≤ 9999 → y = nI t → Φ (nI (aPlc g i t))) → wp_X11_person τ (nI i) y Φ := by
      intro Φ h1 h2 h3 h4
      refine cM_isPerson hg hM (fun _ => br_f (by decide) ?_) (fun q => absurd hx q)
      refine ⟨fun c => brn_f rfl (h1 c), fun c => ⟨fun c2 => brn_f rfl (h2 ?_), fun c2 => brn_t (by decide) ⟨fun c3 => ?_, fun c3 => ?_⟩⟩⟩
      · intro q; exact absurd q (Int32.not_le.mpr c2)
      · have a1 : ¬ y < 0 := m1_le c c3
        obtain ⟨t, ht, rfl⟩ := nI_of2 (M := 9999) (n := 9999) (by decide) a1 (Int32.not_lt.mp c2)
        exact cM_placeOf hg hM hi (by omega) (h4 t ht rfl)
      · have e := hM.1 (12 + i) (by omega)
        have e2 : gN g (12 + i) = aCost g i := rfl
        simp (disch := omega) only [kI, nI_ltI, nI_leI, nI_eq, nI_clamp, krem, pk_div, pk_mul, nI_add, forall_eq, e, e2]
        exact ⟨by omega, h3 c3⟩
    refine ⟨fun c => ?_, fun c => ⟨fun c2 => ⟨fun c3 => ?_, fun c3 => ?_⟩, fun c2 => ?_⟩⟩
    · exact hm (fun _ => rfl) (fun _ => rfl) (fun q => absurd c (by rw [q]; decide)) (fun t ht q => absurd (q ▸ c) (nI_m1 (by omega)).2)
    · have a1 : ¬ y < 0 := m1_le c c3
      obtain ⟨t, ht, rfl⟩ := nI_of2 (M := 9999) (n := 9999) (by decide) a1 c2
      refine cC_yardAt hg hC hi (by omega) ?_
      refine hm (fun q => absurd q c) (fun q => absurd c2 q) (fun q => absurd q c3) (fun t2 ht2 q => ?_)
      rw [(nI_eq (by omega) (by omega)).mp q]
    · subst c3
      have e := hC.2.2.2.2.1 i hi
      have e1 := hC.2.1
      simp (disch := omega) only [wp_X1_cost, kI, nI_ltI, nI_leI, nI_eq, nI_clamp, krem, pk_div, pk_mul, nI_add, forall_eq, e, e1]
      refine br_f (by omega) (br_f (by omega) ⟨by omega, ?_⟩)
      refine hm (fun q => absurd q (by decide)) (fun q => absurd (by decide) q) (fun _ => rfl) (fun t ht q => absurd q.symm (nI_m1 (by omega)).1)
    · refine hm (fun _ => rfl) (fun _ => rfl) (fun q => absurd (by rw [q]; decide) c2) (fun t ht q => absurd ?_ c2)
      rw [q]
      exact (nI_leI (a := t) (b := 9999) (by omega) (by omega)).mpr ht
  · refine cC_hasPerson hg hC (fun q => absurd q hx) (fun _ => br_t rfl ?_)
    exact cM_isPerson hg hM (fun q => absurd q hx) (fun _ => br_t rfl rfl)
end
section
theorem upd_at (f : Nat → Int32) (k : Nat) (x : Int32) : upd f k x k = x := pk_us
theorem upd_lt {f : Nat → Int32} {k j : Nat} {x : Int32} (h : j < k) : upd f k x j = f j := pk_un (by omega)
theorem TdR_add {n mx k y a : Nat} {ry rm xy xm : Nat → Int32} (hk : k < 6) (hy : y < n) (ha : a ≤ mx) (h : ∀ j, j < k → ∃ y a, y < n ∧ a ≤ mx ∧ ry j = nI y ∧ rm j = nI a ∧ xy j = nI y ∧ xm j = nI a) : TdR n mx (nI (k + 1)) (upd ry k (nI y)) (upd rm k (nI a)) (nI (k + 1)) (upd xy k (nI y)) (upd xm k (nI a)) := by
  refine ⟨k + 1, by omega, rfl, rfl, fun j hj => ?_⟩
  by_cases e : j = k
  · subst e
    exact ⟨y, a, hy, ha, upd_at _ _ _, upd_at _ _ _, upd_at _ _ _, upd_at _ _ _⟩
  · rw [upd_lt (by omega), upd_lt (by omega), upd_lt (by omega), upd_lt (by omega)]
    exact h j (by omega)
theorem cC_add {σ : Mm} {b k : Nat} {x y : Int32} {Φ : Int32 → Mm → Prop} (hc : σ.1 b 2 = nI k) (hk : k < 6) (h : Φ (nI (k + 1)) (kwi (kwi (kwi σ (b + 1) k x) (b + 2) k y) b 2 (nI (k + 1)))) : wp_X9_add σ b x y Φ := by
  unfold wp_X9_add
  have e1 : ∀ v, (kwi σ (b + 1) k v).1 b 2 = nI k := fun v => by rw [kwi_ne σ k v (by omega : b ≠ b + 1)]; exact hc
  have e2 : ∀ v w, (kwi (kwi σ (b + 1) k v) (b + 2) k w).1 b 2 = nI k := fun v w => by rw [kwi_ne _ k w (by omega : b ≠ b + 2)]; exact e1 v
  simp (disch := omega) only [kI, nI_ltI, nI_leI, nI_eq, nI_clamp, krem, pk_div, pk_mul, nI_add, forall_eq, hc, e1, e2]
  refine br_t (by omega) ⟨by omega, by omega, ?_⟩
  rw [kwi_same, upd_at]
  exact h
theorem cC_addF {σ : Mm} {b : Nat} {x y : Int32} {Φ : Int32 → Mm → Prop} (hc : σ.1 b 2 = nI 6) (h : Φ (-3) σ) : wp_X9_add σ b x y Φ := by
  unfold wp_X9_add
  rw [hc]
  exact br_f (by decide) h
theorem op_goal {σ τ : Mm} (h : Rel σ τ) (x y : Int32) : wp_X10_goal σ x y (fun r σ2 => wp_X11_goal τ x y (fun r2 τ2 => r = r2 ∧ Rel σ2 τ2)) := by
  have h0 := h
  obtain ⟨g, d, hF, hT, hN, hD, hK, ⟨k, hk, k1, k2, k3⟩, hS, hf1, hf2⟩ := h
  obtain ⟨hg, hd, -, -, -, hC, hCD, hM⟩ := id hF
  by_cases hx : yIn (aN g) x
  · refine cC_hasYard hg hC (fun _ => br_f (by decide) ?_) (fun q => absurd hx q)
    by_cases hy : yIn 41 y
    · have hy2 := (rg_in (hi := 40) (by omega)).mpr hy
      refine br_f hy2.1 (br_t hy2.2 ?_)
      obtain ⟨a, ha, rfl⟩ := id hx
      obtain ⟨m, hm, rfl⟩ := id hy
      by_cases h6 : k = 6
      · subst h6
        refine cC_addF k1 ?_
        refine cM_isYard hg hM (fun _ => br_f (by decide) ?_) (fun q => absurd hx q)
        refine cM_in1 (lo := 0) (hi := 40) (by omega) (by omega) (by omega) (brn_t (by decide) ?_)
        rw [k2]
        exact brn_f (by decide) ⟨rfl, h0⟩
      · refine cC_add k1 (by omega) ?_
        refine cM_isYard hg hM (fun _ => br_f (by decide) ?_) (fun q => absurd hx q)
        refine cM_in1 (lo := 0) (hi := 40) (by omega) (by omega) (by omega) (brn_t (by decide) ?_)
        have e1 : ∀ v, (kwi τ 7 k v).1 0 14 = nI k := fun v => k2
        have e2 : ∀ v w, (kwi (kwi τ 7 k v) 8 k w).1 0 14 = nI k := fun v w => k2
        simp (disch := omega) only [kI, nI_ltI, nI_leI, nI_eq, nI_clamp, krem, pk_div, pk_mul, nI_add, forall_eq, k2, e1, e2]
        refine brn_t (by omega) ⟨by omega, by omega, ?_⟩
        rw [kwi_same, upd_at]
        exact ⟨rfl, g, d, FP_kwiM (FP_kwiM (FP_kwiM (FP_kwi (FP_kwi (FP_kwi hF (by omega)) (by omega)) (by omega)) (by decide)) (by decide)) (by decide), hT, hN, hD, hK, TdR_add (by omega) ha (by omega) k3, hS, hf1, hf2⟩
    · have hb : wp_X11_goal τ x y (fun r2 τ2 => -1 = r2 ∧ Rel σ τ2) := by
        refine cM_isYard hg hM (fun _ => br_f (by decide) ?_) (fun q => absurd hx q)
        exact cM_in0 (hi := 40) (by omega) hy (brn_f rfl ⟨rfl, h0⟩)
      refine ⟨fun _ => hb, fun c => ⟨fun c2 => absurd ((rg_in (hi := 40) (by omega)).mp ⟨c, c2⟩) hy, fun _ => hb⟩⟩
  · refine cC_hasYard hg hC (fun q => absurd q hx) (fun _ => br_t rfl ?_)
    exact cM_isYard hg hM (fun q => absurd q hx) (fun _ => br_t rfl ⟨rfl, h0⟩)
theorem op_seen {σ τ : Mm} (h : Rel σ τ) (x y : Int32) : wp_X10_seen σ x y (fun r σ2 => wp_X11_seen τ x y (fun r2 τ2 => r = r2 ∧ Rel σ2 τ2)) := by
  have h0 := h
  obtain ⟨g, d, hF, hT, hN, hD, hK, hG, ⟨k, hk, k1, k2, k3⟩, hf1, hf2⟩ := h
  obtain ⟨hg, hd, -, -, -, hC, hCD, hM⟩ := id hF
  by_cases hx : yIn (aN g) x
  · refine cC_hasYard hg hC (fun _ => br_f (by decide) ?_) (fun q => absurd hx q)
    by_cases hy : yIn 21 y
    · have hy2 := (rg_in (hi := 20) (by omega)).mpr hy
      refine br_f hy2.1 (br_t hy2.2 ?_)
      obtain ⟨a, ha, rfl⟩ := id hx
      obtain ⟨m, hm, rfl⟩ := id hy
      by_cases h6 : k = 6
      · subst h6
        refine cC_addF k1 ?_
        refine cM_isYard hg hM (fun _ => br_f (by decide) ?_) (fun q => absurd hx q)
        refine cM_in1 (lo := 0) (hi := 20) (by omega) (by omega) (by omega) (brn_t (by decide) ?_)
        rw [k2]
        exact brn_f (by decide) ⟨rfl, h0⟩
      · refine cC_add k1 (by omega) ?_
        refine cM_isYard hg hM (fun _ => br_f (by decide) ?_) (fun q => absurd hx q)
        refine cM_in1 (lo := 0) (hi := 20) (by omega) (by omega) (by omega) (brn_t (by decide) ?_)
        have e1 : ∀ v, (kwi τ 13 k v).1 0 21 = nI k := fun v => k2
        have e2 : ∀ v w, (kwi (kwi τ 13 k v) 14 k w).1 0 21 = nI k := fun v w => k2
        simp (disch := omega) only [kI, nI_ltI, nI_leI, nI_eq, nI_clamp, krem, pk_div, pk_mul, nI_add, forall_eq, k2, e1, e2]
        refine brn_t (by omega) ⟨by omega, by omega, ?_⟩
        rw [kwi_same, upd_at]
        exact ⟨rfl, g, d, FP_kwiM (FP_kwiM (FP_kwiM (FP_kwi (FP_kwi (FP_kwi hF (by omega)) (by omega)) (by omega)) (by decide)) (by decide)) (by decide), hT, hN, hD, hK, hG, TdR_add (by omega) ha (by omega) k3, hf1, hf2⟩
    · have hb : wp_X11_seen τ x y (fun r2 τ2 => -1 = r2 ∧ Rel σ τ2) := by
        refine cM_isYard hg hM (fun _ => br_f (by decide) ?_) (fun q => absurd hx q)
        exact cM_in0 (hi := 20) (by omega) hy (brn_f rfl ⟨rfl, h0⟩)
      refine ⟨fun _ => hb, fun c => ⟨fun c2 => absurd ((rg_in (hi := 20) (by omega)).mp ⟨c, c2⟩) hy, fun _ => hb⟩⟩
  · refine cC_hasYard hg hC (fun q => absurd q hx) (fun _ => br_t rfl ?_)
    exact cM_isYard hg hM (fun q => absurd q hx) (fun _ => br_t rfl ⟨rfl, h0⟩)
theorem op_noGoals {σ τ : Mm} (h : Rel σ τ) : wp_X10_noGoals σ (fun r σ2 => wp_X11_noGoals τ (fun r2 τ2 => r = r2 ∧ Rel σ2 τ2)) := by
  obtain ⟨g, d, hF, hT, hN, hD, hK, ⟨k, hk, k1, k2, k3⟩, hS, hf1, hf2⟩ := h
  intro x1 e1 σ2 e2 x3 e3 τ2 e4
  subst e1 e2 e3 e4
  exact ⟨k1.trans k2.symm, g, d, FP_kwiM (FP_kwi hF (by omega)) (by decide), hT, hN, hD, hK, ⟨0, by omega, rfl, rfl, fun j hj => by omega⟩, hS, hf1, hf2⟩
theorem op_forget {σ τ : Mm} (h : Rel σ τ) : wp_X10_forget σ (fun r σ2 => wp_X11_forget τ (fun r2 τ2 => r = r2 ∧ Rel σ2 τ2)) := by
  obtain ⟨g, d, hF, hT, hN, hD, hK, hG, ⟨k, hk, k1, k2, k3⟩, hf1, hf2⟩ := h
  intro x1 e1 σ2 e2 x3 e3 τ2 e4
  subst e1 e2 e3 e4
  exact ⟨k1.trans k2.symm, g, d, FP_kwiM (FP_kwi hF (by omega)) (by decide), hT, hN, hD, hK, hG, ⟨0, by omega, rfl, rfl, fun j hj => by omega⟩, hf1, hf2⟩
theorem op_count {σ τ : Mm} (h : Rel σ τ) (x : Int32) : wp_X10_count σ x (fun r => wp_X11_count τ x (fun r2 => r = r2)) := by
  obtain ⟨g, d, ⟨hg, hd, -, -, -, hC, hCD, hM⟩, ⟨L, -, t1, t2, -⟩, ⟨mi, m, fe, -, -, n1, n2, n3, n4, n5, n6⟩, ⟨k, -, d1, d2, -⟩, ⟨k', -, p1, p2, -⟩, ⟨k'', -, g1, g2, -⟩, ⟨k''', -, s1, s2, -⟩, -⟩ := h
  intro w ew
  have q0 : τ.1 1 0 = nI (aN g) := hM.1 0 (by omega)
  have q1 : τ.1 1 1 = nI (aP g) := hM.1 1 (by omega)
  have key : ∀ {Φ : Int32 → Prop}, (x = 0 → Φ (nI (aN g))) → (x = 1 → Φ (nI (aP g))) → (x = 2 → Φ (nI mi)) → (x = 3 → Φ (nI k'')) → (x = 4 → Φ (nI k''')) → (x = 5 → Φ (nI k)) → (x = 6 → Φ (nI k')) → (x = 7 → Φ (nI L)) → ((x.toInt < 0 ∨ 7 < x.toInt) → Φ (-1)) → wp_X11_count τ x Φ := by
    intro Φ a0 a1 a2 a3 a4 a5 a6 a7 a8 w2 ew2
    subst ew2
    rw [q0, q1, n4, g2, s2, d2, p2, t2]
    exact ⟨a0, a1, a2, a3, a4, a5, a6, a7, a8⟩
  subst ew
  have z : ∀ (a b : Int32) (P : Prop), ¬ a = b → w = a → w = b → P := fun a b P n e1 e2 => absurd (e1.symm.trans e2) n
  have z2 : ∀ (a : Int32) (P : Prop), (0 ≤ a.toInt ∧ a.toInt ≤ 7) → w = a → (w.toInt < 0 ∨ 7 < w.toInt) → P := fun a P n e1 e2 => by rw [e1] at e2; omega
  refine ⟨fun c => ?_, fun c => ?_, fun c => ?_, fun c => ?_, fun c => ?_, fun c => ?_, fun c => ?_, fun c => ?_, fun c => ?_⟩
  · show wp_X11_count τ w (fun r2 => σ.1 (σ.2.2 0) 5 = r2)
    rw [hC.1]
    exact key (fun _ => rfl) (z 0 1 _ (by decide) c) (z 0 2 _ (by decide) c) (z 0 3 _ (by decide) c) (z 0 4 _ (by decide) c) (z 0 5 _ (by decide) c) (z 0 6 _ (by decide) c) (z 0 7 _ (by decide) c) (z2 0 _ (by decide) c)
  · show wp_X11_count τ w (fun r2 => σ.1 (σ.2.2 0) 6 = r2)
    rw [hC.2.1]
    exact key (z 1 0 _ (by decide) c) (fun _ => rfl) (z 1 2 _ (by decide) c) (z 1 3 _ (by decide) c) (z 1 4 _ (by decide) c) (z 1 5 _ (by decide) c) (z 1 6 _ (by decide) c) (z 1 7 _ (by decide) c) (z2 1 _ (by decide) c)
  · rw [n1]
    exact key (z 2 0 _ (by decide) c) (z 2 1 _ (by decide) c) (fun _ => rfl) (z 2 3 _ (by decide) c) (z 2 4 _ (by decide) c) (z 2 5 _ (by decide) c) (z 2 6 _ (by decide) c) (z 2 7 _ (by decide) c) (z2 2 _ (by decide) c)
  · show wp_X11_count τ w (fun r2 => σ.1 25 2 = r2)
    rw [g1]
    exact key (z 3 0 _ (by decide) c) (z 3 1 _ (by decide) c) (z 3 2 _ (by decide) c) (fun _ => rfl) (z 3 4 _ (by decide) c) (z 3 5 _ (by decide) c) (z 3 6 _ (by decide) c) (z 3 7 _ (by decide) c) (z2 3 _ (by decide) c)
  · show wp_X11_count τ w (fun r2 => σ.1 28 2 = r2)
    rw [s1]
    exact key (z 4 0 _ (by decide) c) (z 4 1 _ (by decide) c) (z 4 2 _ (by decide) c) (z 4 3 _ (by decide) c) (fun _ => rfl) (z 4 5 _ (by decide) c) (z 4 6 _ (by decide) c) (z 4 7 _ (by decide) c) (z2 4 _ (by decide) c)
  · show wp_X11_count τ w (fun r2 => σ.1 17 3 = r2)
    rw [d1]
    exact key (z 5 0 _ (by decide) c) (z 5 1 _ (by decide) c) (z 5 2 _ (by decide) c) (z 5 3 _ (by decide) c) (z 5 4 _ (by decide) c) (fun _ => rfl) (z 5 6 _ (by decide) c) (z 5 7 _ (by decide) c) (z2 5 _ (by decide) c)
  · show wp_X11_count τ w (fun r2 => σ.1 21 3 = r2)
    rw [p1]
    exact key (z 6 0 _ (by decide) c) (z 6 1 _ (by decide) c) (z 6 2 _ (by decide) c) (z 6 3 _ (by decide) c) (z 6 4 _ (by decide) c) (z 6 5 _ (by decide) c) (fun _ => rfl) (z 6 7 _ (by decide) c) (z2 6 _ (by decide) c)
  · show wp_X11_count τ w (fun r2 => σ.1 1 1 = r2)
    rw [t1]
    exact key (z 7 0 _ (by decide) c) (z 7 1 _ (by decide) c) (z 7 2 _ (by decide) c) (z 7 3 _ (by decide) c) (z 7 4 _ (by decide) c) (z 7 5 _ (by decide) c) (z 7 6 _ (by decide) c) (fun _ => rfl) (z2 7 _ (by decide) c)
  · have y : ∀ (a : Int32) (P : Prop), (0 ≤ a.toInt ∧ a.toInt ≤ 7) → w = a → P := fun a P n e1 => by rw [e1] at c; omega
    exact key (y 0 _ (by decide)) (y 1 _ (by decide)) (y 2 _ (by decide)) (y 3 _ (by decide)) (y 4 _ (by decide)) (y 5 _ (by decide)) (y 6 _ (by decide)) (y 7 _ (by decide)) (fun _ => rfl)
end
section
theorem MsR_push {g : Nat → Int32} {mx k : Nat} {r1 r2 r3 a x X : Nat → Int32} (hk : k < mx) (hN : NwR g a x) (h : ∀ j, j < k → Mom g (r1 j) (r2 j) (r3 j) (X (3 * j)) (X (3 * j + 1)) (X (3 * j + 2))) : MsR g mx (nI (k + 1)) (upd r1 k (a 0)) (upd r2 k (a 1)) (upd r3 k (a 2)) (nI (k + 1)) (upd (upd (upd X (3 * k) (x 0)) (3 * k + 1) (x 1)) (3 * k + 2) (x 2)) := by
  refine ⟨k + 1, by omega, rfl, rfl, fun j hj => ?_⟩
  by_cases e : j = k
  · subst e
    have u0 : upd (upd (upd X (3 * j) (x 0)) (3 * j + 1) (x 1)) (3 * j + 2) (x 2) (3 * j) = x 0 := by rw [pk_un (by omega), pk_un (by omega), upd_at]
    have u1 : upd (upd (upd X (3 * j) (x 0)) (3 * j + 1) (x 1)) (3 * j + 2) (x 2) (3 * j + 1) = x 1 := by rw [pk_un (by omega), upd_at]
    rw [u0, u1, upd_at, upd_at, upd_at, upd_at]
    exact hN
  · rw [upd_lt (by omega), upd_lt (by omega), upd_lt (by omega)]
    rw [upd_lt (by omega), upd_lt (by omega), upd_lt (by omega), upd_lt (by omega), upd_lt (by omega), upd_lt (by omega), upd_lt (by omega), upd_lt (by omega), upd_lt (by omega)]
    exact h j (by omega)
-- ===== the component
def pushM (σ : Mm) (b k : Nat) : Mm := kwi (kwi (kwi (kwi σ (b + 1) k (σ.1 16 0)) (b + 2) k (σ.1 16 1)) (b + 3) k (σ.1 16 2)) b 3 (nI (k + 1))
theorem push_tail {σ : Mm} {b k : Nat} {Φ : Mm → Prop} (hb : 16 < b) (hc : σ.1 b 3 = nI k) (hk : k < 8) (h : Φ (pushM σ b k)) : ((0 ≤ (σ.1 b 3) ∧ (σ.1 b 3) < 8) ∧ ∀ σ3 : Mm, σ3 = kwi σ (b + 1) ((σ.1 b 3).toNatClampNeg) (σ.1 16 0) → (0 ≤ (σ3.1 b 3) ∧ (σ3.1 b 3) < 8) ∧ ∀ σ5 : Mm, σ5 = kwi σ3 (b + 2) ((σ3.1 b 3).toNatClampNeg) (σ3.1 16 1) → (0 ≤ (σ5.1 b 3) ∧ (σ5.1 b 3) < 8) ∧ ∀ σ7 : Mm, σ7 = kwi σ5 (b + 3) ((σ5.1 b 3).toNatClampNeg) (σ5.1 16 2) → ∀ σ8 : Mm, σ8 = kwi σ7 b 3 ((σ7.1 b 3) + 1) → Φ σ8) := by
  have n1 : ∀ (ρ : Mm) (i : Nat) (v : Int32), (kwi ρ (b + 1) i v).1 b = ρ.1 b := fun ρ i v => kwi_ne ρ i v (by omega)
  have n2 : ∀ (ρ : Mm) (i : Nat) (v : Int32), (kwi ρ (b + 2) i v).1 b = ρ.1 b := fun ρ i v => kwi_ne ρ i v (by omega)
  have n3 : ∀ (ρ : Mm) (i : Nat) (v : Int32), (kwi ρ (b + 3) i v).1 b = ρ.1 b := fun ρ i v => kwi_ne ρ i v (by omega)
  have n4 : ∀ (ρ : Mm) (i : Nat) (v : Int32), (kwi ρ (b + 1) i v).1 16 = ρ.1 16 := fun ρ i v => kwi_ne ρ i v (by omega)
  have n5 : ∀ (ρ : Mm) (i : Nat) (v : Int32), (kwi ρ (b + 2) i v).1 16 = ρ.1 16 := fun ρ i v => kwi_ne ρ i v (by omega)
  simp (disch := omega) only [kI, nI_ltI, nI_leI, nI_eq, nI_clamp, krem, pk_div, pk_mul, nI_add, forall_eq, hc, n1, n2, n3, n4, n5]
  exact ⟨by omega, by omega, by omega, h⟩
theorem cC_push {σ : Mm} {b k : Nat} {Φ : Mm → Prop} (hb : 16 < b) (hc : σ.1 b 3 = nI k) (hk : k < 8) (h : Φ (pushM σ b k)) : wp_X4_push σ b Φ := by
  refine ⟨fun ρ => ρ = σ, fun ρ e => ?_, ?_⟩
  · subst e
    exact push_tail hb hc hk h
  · rw [hc]
    exact br_t ((nI_ltI (a := k) (b := 8) (by omega) (by omega)).mpr hk) rfl
def shf (r : Nat → Int32) (i : Nat) : Nat → Int32 := fun j => if j + 1 < i then r (j + 1) else r j
theorem shf_1 (r : Nat → Int32) : shf r 1 = r := by
  funext j
  unfold shf
  rw [if_neg (by omega)]
theorem shf_s (r : Nat → Int32) {i : Nat} (hi : 1 ≤ i) : upd (shf r i) (i - 1) (shf r i i) = shf r (i + 1) := by
  funext j
  unfold shf upd
  by_cases h : j = i - 1
  · rw [if_pos h, if_neg (by omega), if_pos (by omega)]
    congr 1
    omega
  · rw [if_neg h]
    dsimp only
    by_cases h2 : j + 1 < i
    · rw [if_pos h2, if_pos (by omega)]
    · rw [if_neg h2, if_neg (by omega)]
/-- the three rows of b are moved down by one, up to i -/
def Sh (b i : Nat) (σ ρ : Mm) : Prop := ρ.1 (b + 1) = shf (σ.1 (b + 1)) i ∧ ρ.1 (b + 2) = shf (σ.1 (b + 2)) i ∧ ρ.1 (b + 3) = shf (σ.1 (b + 3)) i ∧ (∀ k, k ≠ b + 1 → k ≠ b + 2 → k ≠ b + 3 → ρ.1 k = σ.1 k) ∧ ρ.2 = σ.2
theorem cC_drop_L {σ : Mm} {b : Nat} {K : Mm → Prop} (hK : ∀ ρ, Sh b 8 σ ρ → K ρ) : ∀ (n i : Nat) (ρ : Mm), i + n = 8 → 1 ≤ i → Sh b i σ ρ → wp_X4_dropLowest_L2 b K (n + 1) ρ (nI i) := by
  intro n
  induction n with
  | zero =>
    intro i ρ h1 h2 h3
    have : i = 8 := by omega
    subst this
    exact br_t (by decide) (hK ρ h3)
  | succ n ih =>
    intro i ρ h1 h2 h3
    unfold wp_X4_dropLowest_L2
    simp (disch := omega) only [kI, nI_ltI, nI_leI, nI_eq, nI_clamp, krem, pk_div, pk_mul, nI_add, forall_eq, ksub1]
    refine br_f (by omega) ⟨by omega, by omega, by omega, by omega, by omega, by omega, ?_⟩
    obtain ⟨s1, s2, s3, s4, s5⟩ := h3
    refine ih (i + 1) _ (by omega) (by omega) ⟨?_, ?_, ?_, ?_, s5⟩
    · rw [kwi_ne _ _ _ (by omega : b + 1 ≠ b + 3), kwi_ne _ _ _ (by omega : b + 1 ≠ b + 2), kwi_same, s1, shf_s _ h2]
    · rw [kwi_ne _ _ _ (by omega : b + 2 ≠ b + 3), kwi_same, kwi_ne _ _ _ (by omega : b + 2 ≠ b + 1), s2, shf_s _ h2]
    · rw [kwi_same, kwi_ne _ _ _ (by omega : b + 3 ≠ b + 2), kwi_ne _ _ _ (by omega : b + 3 ≠ b + 1), s3, shf_s _ h2]
    · intro k a1 a2 a3
      rw [kwi_ne _ _ _ a3, kwi_ne _ _ _ a2, kwi_ne _ _ _ a1]
      exact s4 k a1 a2 a3
theorem cC_push8 {σ : Mm} {b : Nat} {Φ : Mm → Prop} (hb : 16 < b) (hc : σ.1 b 3 = nI 8) (h : ∀ ρ, Sh b 8 σ ρ → Φ (pushM (kwi ρ b 3 7) b 7)) : wp_X4_push σ b Φ := by
  refine ⟨fun ρ => Φ (pushM ρ b 7) ∧ ρ.1 b 3 = nI 7, fun ρ e => push_tail hb e.2 (by omega) e.1, ?_⟩
  rw [hc]
  refine br_f (by decide) ?_
  refine ⟨fun ρ => Sh b 8 σ ρ, fun ρ hρ ρ2 e2 => ?_, 8, ?_⟩
  · subst e2
    exact ⟨h ρ hρ, by rw [kwi_same]; rfl⟩
  · refine cC_drop_L (fun ρ hρ => hρ) 7 1 σ (by omega) (by omega) ⟨?_, ?_, ?_, fun k _ _ _ => rfl, rfl⟩ <;> rw [shf_1]
-- ===== the model
theorem cM_know_L {k : Nat} {K : Mm → Prop} {τ : Mm} (hc : τ.1 0 9 = nI k) (hk : k < 8) (h : K (kwi (kwi (kwi τ 5 (3 * k) (τ.1 4 0)) 5 (3 * k + 1) (τ.1 4 1)) 5 (3 * k + 2) (τ.1 4 2))) : wp_X11_know_L49 K 4 τ 0 := by
  have st : ∀ (n i : Nat) (ρ : Mm), i < 3 → ρ.1 0 9 = nI k → wp_X11_know_L49 K n (kwi ρ 5 (3 * k + i) (ρ.1 4 i)) (nI (i + 1)) → wp_X11_know_L49 K (n + 1) ρ (nI i) := by
    intro n i ρ hi h1 h2
    unfold wp_X11_know_L49
    simp (disch := omega) only [kI, nI_ltI, nI_leI, nI_eq, nI_clamp, krem, pk_div, pk_mul, nI_add, forall_eq, h1]
    exact br_f (by omega) ⟨by omega, by omega, h2⟩
  refine st 3 0 τ (by omega) hc (st 2 1 _ (by omega) hc (st 1 2 _ (by omega) hc ?_))
  exact br_t (by decide) h
def sh3 (r : Nat → Int32) (i : Nat) : Nat → Int32 := fun j => if j < i then r (j + 3) else r j
theorem cM_know_S {K : Mm → Prop} {τ : Mm} (hK : ∀ ρ : Mm, ρ.1 5 = sh3 (τ.1 5) 21 → (∀ k, k ≠ 5 → ρ.1 k = τ.1 k) → ρ.2 = τ.2 → K ρ) : ∀ (n i : Nat) (ρ : Mm), i + n = 21 → ρ.1 5 = sh3 (τ.1 5) i → (∀ k, k ≠ 5 → ρ.1 k = τ.1 k) → ρ.2 = τ.2 → wp_X11_know_L11 K (n + 1) ρ (nI i) := by
  intro n
  induction n with
  | zero =>
    intro i ρ h1 h2 h3 h4
    have : i = 21 := by omega
    subst this
    exact br_t (by decide) (hK ρ h2 h3 h4)
  | succ n ih =>
    intro i ρ h1 h2 h3 h4
    unfold wp_X11_know_L11
    simp (disch := omega) only [kI, nI_ltI, nI_leI, nI_eq, nI_clamp, krem, pk_div, pk_mul, nI_add, forall_eq]
    refine br_f (by omega) ⟨by omega, by omega, ?_⟩
    refine ih (i + 1) _ (by omega) ?_ (fun k hk => by rw [kwi_ne _ _ _ hk]; exact h3 k hk) h4
    rw [kwi_same, h2]
    funext j
    unfold sh3 upd
    by_cases h : j = i
    · rw [if_pos h, if_neg (by omega), if_pos (by omega), h]
    · rw [if_neg h]
      dsimp only
      by_cases h2 : j < i
      · rw [if_pos h2, if_pos (by omega)]
      · rw [if_neg h2, if_neg (by omega)]
def knowM (τ : Mm) (k : Nat) : Mm := kwi (kwi (kwi (kwi τ 5 (3 * k) (τ.1 4 0)) 5 (3 * k + 1) (τ.1 4 1)) 5 (3 * k + 2) (τ.1 4 2)) 0 9 (nI (k + 1))
theorem cM_know {k : Nat} {τ : Mm} {Φ : Mm → Prop} (hc : τ.1 0 9 = nI k) (hk : k < 8) (h : Φ (knowM τ k)) : wp_X11_know τ Φ := by
  refine ⟨fun ρ => ρ = τ, fun ρ e => ?_, ?_⟩
  · subst e
    refine ⟨fun ρ2 => Φ (kwi ρ2 0 9 (nI (k + 1))) ∧ ρ2.1 0 9 = nI k, fun ρ2 e2 ρ3 e3 => ?_, 4, cM_know_L hc hk ⟨h, hc⟩⟩
    rw [e2.2] at e3
    have : nI k + 1 = nI (k + 1) := nI_1 k
    rw [this] at e3
    rw [e3]
    exact e2.1
  · rw [hc]
    refine brn_t ?_ rfl
    intro q
    have := (nI_eq (a := k) (b := 8) (by omega) (by omega)).mp q
    omega
theorem cM_know8 {τ : Mm} {Φ : Mm → Prop} (hc : τ.1 0 9 = nI 8) (h : ∀ ρ : Mm, ρ.1 5 = sh3 (τ.1 5) 21 → (∀ k, k ≠ 5 → k ≠ 0 → ρ.1 k = τ.1 k) → ρ.1 0 = upd (τ.1 0) 9 7 → ρ.2 = τ.2 → Φ (knowM ρ 7)) : wp_X11_know τ Φ := by
  refine ⟨fun ρ => Φ (knowM ρ 7) ∧ ρ.1 0 9 = nI 7, fun ρ e => ?_, ?_⟩
  · refine ⟨fun ρ2 => Φ (kwi ρ2 0 9 8) ∧ ρ2.1 0 9 = nI 7, fun ρ2 e2 ρ3 e3 => ?_, 4, cM_know_L e.2 (by omega) ⟨e.1, e.2⟩⟩
    rw [e2.2] at e3
    rw [e3]
    exact e2.1
  · rw [hc]
    refine brn_f (by decide) ?_
    refine ⟨fun ρ => ρ.1 5 = sh3 (τ.1 5) 21 ∧ (∀ k, k ≠ 5 → ρ.1 k = τ.1 k) ∧ ρ.2 = τ.2, fun ρ hρ ρ2 e2 => ?_, 22, cM_know_S (fun ρ a b c => ⟨a, b, c⟩) 21 0 τ (by omega) ?_ (fun _ _ => rfl) rfl⟩
    · obtain ⟨a1, a2, a3⟩ := hρ
      have e9 : ρ.1 0 9 = nI 8 := by rw [a2 0 (by decide)]; exact hc
      rw [e9] at e2
      have : nI 8 - 1 = (7 : Int32) := by decide
      rw [this] at e2
      subst e2
      refine ⟨h _ ?_ ?_ ?_ a3, ?_⟩
      · rw [kwi_ne _ _ _ (by decide)]; exact a1
      · intro k b1 b2
        rw [kwi_ne _ _ _ b2]; exact a2 k b1
      · rw [kwi_same, a2 0 (by decide)]
      · rw [kwi_same]; rfl
    · funext j
      unfold sh3
      rw [if_neg (by omega)]
/-- both push: the relation of the row of moments goes on -/
theorem push_rel {g d : Nat → Int32} {σ τ : Mm} (h : RelG g d σ τ) {Φ : Mm → Prop} {Ψ : Mm → Mm → Prop} (hC : ∀ σ2 : Mm, (∀ k, k ≠ 17 → k ≠ 18 → k ≠ 19 → k ≠ 20 → σ2.1 k = σ.1 k) → σ2.2 = σ.2 → wp_X11_know τ (Ψ σ2) → Φ σ2)
    (hk : ∀ σ2 τ2, RelG g d σ2 τ2 → σ2.1 16 = σ.1 16 → τ2.1 4 = τ.1 4 → σ2.2 = σ.2 → Ψ σ2 τ2) : wp_X4_push σ 17 Φ := by
  obtain ⟨hF, hT, hN, ⟨k, hk8, d1, d2, d3⟩, hK, hG, hS, hf1, hf2⟩ := h
  by_cases h8 : k = 8
  · subst h8
    refine cC_push8 (by omega) d1 (fun ρ hρ => ?_)
    obtain ⟨s1, s2, s3, s4, s5⟩ := hρ
    have q : ∀ k, k ≠ 18 → k ≠ 19 → k ≠ 20 → ρ.1 k = σ.1 k := s4
    have s1' : ρ.1 18 = shf (σ.1 18) 8 := s1
    have s2' : ρ.1 19 = shf (σ.1 19) 8 := s2
    have s3' : ρ.1 20 = shf (σ.1 20) 8 := s3
    have e : ∀ k, k ≠ 17 → k ≠ 18 → k ≠ 19 → k ≠ 20 → (pushM (kwi ρ 17 3 7) 17 7).1 k = σ.1 k := by
      intro k a b c d
      unfold pushM
      rw [kwi_ne _ _ _ a, kwi_ne _ _ _ d, kwi_ne _ _ _ c, kwi_ne _ _ _ b, kwi_ne _ _ _ a]
      exact q k b c d
    refine hC _ e s5 (cM_know8 d2 (fun μ m1 m2 m3 m4 => ?_))
    have eM : ∀ k, k ≠ 0 → k ≠ 5 → (knowM μ 7).1 k = τ.1 k := by
      intro k a b
      unfold knowM
      rw [kwi_ne _ _ _ a, kwi_ne _ _ _ b, kwi_ne _ _ _ b, kwi_ne _ _ _ b]
      exact m2 k b a
    have e2 : (pushM (kwi ρ 17 3 7) 17 7).2 = σ.2 := s5
    have e0 : ∀ j, j ≠ 9 → (knowM μ 7).1 0 j = τ.1 0 j := by
      intro j hj
      show upd (μ.1 0) 9 _ j = _
      rw [pk_un hj, m3, pk_un hj]
    have ea : σ.1 16 = ρ.1 16 := (q 16 (by decide) (by decide) (by decide)).symm
    have eb : τ.1 4 = μ.1 4 := (m2 4 (by decide) (by decide)).symm
    refine hk _ _ ⟨hF.of (by rw [e2]) (fun i h1 h2 => e i (by omega) (by omega) (by omega) (by omega)) (eM 1 (by decide) (by decide)) (eM 2 (by decide) (by decide)), ?_, ?_, ?_, ?_, ?_, ?_, ?_, ?_⟩ (e 16 (by decide) (by decide) (by decide) (by decide)) (eM 4 (by decide) (by decide)) e2
    · rw [e 1 (by decide) (by decide) (by decide) (by decide), e 2 (by decide) (by decide) (by decide) (by decide), e0 3 (by decide), eM 3 (by decide) (by decide)]; exact hT
    · rw [e 16 (by decide) (by decide) (by decide) (by decide), eM 4 (by decide) (by decide)]; exact hN
    · have hN2 : NwR g (ρ.1 16) (μ.1 4) := by rw [← ea, ← eb]; exact hN
      have := MsR_push (g := g) (mx := 8) (k := 7) (r1 := ρ.1 18) (r2 := ρ.1 19) (r3 := ρ.1 20) (X := μ.1 5) (by omega) hN2 (fun j hj => by
        rw [s1', s2', s3', m1]
        have := d3 (j + 1) (by omega)
        have f1 : ∀ r : Nat → Int32, shf r 8 j = r (j + 1) := fun r => if_pos (by omega)
        have f2 : ∀ i, i < 21 → sh3 (τ.1 5) 21 i = τ.1 5 (i + 3) := fun i hi => if_pos hi
        rw [f1, f1, f1, f2 _ (by omega), f2 _ (by omega), f2 _ (by omega)]
        have g1 : 3 * j + 3 = 3 * (j + 1) := by omega
        have g2 : 3 * j + 1 + 3 = 3 * (j + 1) + 1 := by omega
        have g3 : 3 * j + 2 + 3 = 3 * (j + 1) + 2 := by omega
        rw [g1, g2, g3]
        exact this)
      exact this
    · rw [e 21 (by decide) (by decide) (by decide) (by decide), e 22 (by decide) (by decide) (by decide) (by decide), e 23 (by decide) (by decide) (by decide) (by decide), e 24 (by decide) (by decide) (by decide) (by decide), e0 11 (by decide), eM 6 (by decide) (by decide)]; exact hK
    · rw [e 25 (by decide) (by decide) (by decide) (by decide), e 26 (by decide) (by decide) (by decide) (by decide), e 27 (by decide) (by decide) (by decide) (by decide), e0 14 (by decide), eM 7 (by decide) (by decide), eM 8 (by decide) (by decide)]; exact hG
    · rw [e 28 (by decide) (by decide) (by decide) (by decide), e 29 (by decide) (by decide) (by decide) (by decide), e 30 (by decide) (by decide) (by decide) (by decide), e0 21 (by decide), eM 13 (by decide) (by decide), eM 14 (by decide) (by decide)]; exact hS
    · rw [e 32 (by decide) (by decide) (by decide) (by decide), e 33 (by decide) (by decide) (by decide) (by decide), e2]; exact hf1
    · rw [e 35 (by decide) (by decide) (by decide) (by decide), e 36 (by decide) (by decide) (by decide) (by decide), e2]; exact hf2
  · have e : ∀ j, j ≠ 17 → j ≠ 18 → j ≠ 19 → j ≠ 20 → (pushM σ 17 k).1 j = σ.1 j := by
      intro j a b c d
      unfold pushM
      rw [kwi_ne _ _ _ a, kwi_ne _ _ _ d, kwi_ne _ _ _ c, kwi_ne _ _ _ b]
    refine cC_push (by omega) d1 (by omega) (hC _ e rfl (cM_know d2 (by omega) ?_))
    refine hk _ _ ⟨?_, hT, hN, MsR_push (by omega) hN d3, hK, hG, hS, hf1, hf2⟩ rfl rfl rfl
    exact FP_kwiM (FP_kwiM (FP_kwiM (FP_kwiM (FP_kwi (FP_kwi (FP_kwi (FP_kwi hF (by omega)) (by omega)) (by omega)) (by omega)) (by decide)) (by decide)) (by decide)) (by decide)
end
section
theorem kL (n : Nat) : (OfNat.ofNat n : Int64) = lN n := rfl
theorem kremL (a d : Nat) : lN a - lN (a / d * d) = lN (a % d) := by
  rw [lN_sub (Nat.div_mul_le_self a d)]
  congr 1
  have := Nat.div_add_mod a d
  rw [Nat.mul_comm] at this
  omega
theorem op_keep {σ τ : Mm} (h : Rel σ τ) : wp_X10_keep σ (fun r σ2 => wp_X11_keep τ (fun r2 τ2 => r = r2 ∧ Rel σ2 τ2)) := by
  have h0 := h
  obtain ⟨g, d, hF, hT, hN, hD, ⟨k, hk, k1, k2, k3⟩, hG, hS, hf1, hf2⟩ := h
  show ((σ.1 21 3 < 2 → _) ∧ (¬ (σ.1 21 3 < 2) → _))
  rw [k1]
  by_cases h2 : k = 2
  · subst h2
    refine br_f (by decide) ?_
    unfold wp_X11_keep
    rw [k2]
    exact brn_f (by decide) ⟨rfl, h0⟩
  · refine br_t ((nI_ltI (a := k) (b := 2) (by omega) (by omega)).mpr (by omega)) ?_
    refine cC_push (by omega) k1 (by omega) ?_
    show wp_X11_keep τ (fun r2 τ2 => nI (k + 1) = r2 ∧ Rel _ τ2)
    unfold wp_X11_keep
    rw [k2]
    refine brn_t (fun q => ?_) ?_
    · have := (nI_eq (a := k) (b := 2) (by omega) (by omega)).mp q
      omega
    · have st : ∀ (K : Mm → Prop) (n i : Nat) (ρ : Mm), i < 3 → ρ.1 0 11 = nI k → wp_X11_keep_L13 K n (kwi ρ 6 (3 * k + i) (ρ.1 4 i)) (nI (i + 1)) → wp_X11_keep_L13 K (n + 1) ρ (nI i) := by
        intro K n i ρ hi h1 h2
        unfold wp_X11_keep_L13
        simp (disch := omega) only [kI, nI_ltI, nI_leI, nI_eq, nI_clamp, krem, pk_div, pk_mul, nI_add, forall_eq, h1]
        exact br_f (by omega) ⟨by omega, by omega, h2⟩
      refine ⟨fun ρ => ρ = kwi (kwi (kwi τ 6 (3 * k) (τ.1 4 0)) 6 (3 * k + 1) (τ.1 4 1)) 6 (3 * k + 2) (τ.1 4 2), fun ρ e ρ2 e2 => ?_, 4, st _ 3 0 τ (by omega) k2 (st _ 2 1 _ (by omega) k2 (st _ 1 2 _ (by omega) k2 (br_t (by decide) rfl)))⟩
      subst e
      have e3 : (kwi (kwi (kwi τ 6 (3 * k) (τ.1 4 0)) 6 (3 * k + 1) (τ.1 4 1)) 6 (3 * k + 2) (τ.1 4 2)).1 0 11 + 1 = nI (k + 1) := by
        show τ.1 0 11 + 1 = _
        rw [k2]
        exact nI_1 k
      rw [e3] at e2
      subst e2
      refine ⟨rfl, g, d, ?_, hT, hN, hD, MsR_push (by omega) hN k3, hG, hS, hf1, hf2⟩
      exact FP_kwiM (FP_kwiM (FP_kwiM (FP_kwiM (FP_kwi (FP_kwi (FP_kwi (FP_kwi hF (by omega)) (by omega)) (by omega)) (by omega)) (by decide)) (by decide)) (by decide)) (by decide)
def popM (σ : Mm) (b k : Nat) : Mm := kwi (kwi (kwi (kwi σ b 3 (nI k)) 16 0 (σ.1 (b + 1) k)) 16 1 (σ.1 (b + 2) k)) 16 2 (σ.1 (b + 3) k)
theorem cC_pop {σ : Mm} {b k : Nat} {Φ : Mm → Prop} (hb : 16 < b) (hc : σ.1 b 3 = nI (k + 1)) (hk : k < 8) (h : Φ (popM σ b k)) : wp_X4_pop σ b Φ := by
  unfold wp_X4_pop
  have e1 : nI (k + 1) - nI 1 = nI k := pk_sub (a := k + 1) (b := 1) (by omega)
  have n1 : ∀ (ρ : Mm) (i : Nat) (v : Int32), (kwi ρ 16 i v).1 b = ρ.1 b := fun ρ i v => kwi_ne ρ i v (by omega)
  have n2 : ∀ (ρ : Mm) (v : Int32), (kwi ρ b 3 v).1 b 3 = v := fun ρ v => by rw [kwi_same, upd_at]
  have n3 : ∀ (ρ : Mm) (v : Int32), (kwi ρ b 3 v).1 (b + 1) = ρ.1 (b + 1) := fun ρ v => kwi_ne ρ 3 v (by omega)
  have n4 : ∀ (ρ : Mm) (v : Int32), (kwi ρ b 3 v).1 (b + 2) = ρ.1 (b + 2) := fun ρ v => kwi_ne ρ 3 v (by omega)
  have n5 : ∀ (ρ : Mm) (v : Int32), (kwi ρ b 3 v).1 (b + 3) = ρ.1 (b + 3) := fun ρ v => kwi_ne ρ 3 v (by omega)
  have n6 : ∀ (ρ : Mm) (i : Nat) (v : Int32), (kwi ρ 16 i v).1 (b + 2) = ρ.1 (b + 2) := fun ρ i v => kwi_ne ρ i v (by omega)
  have n7 : ∀ (ρ : Mm) (i : Nat) (v : Int32), (kwi ρ 16 i v).1 (b + 3) = ρ.1 (b + 3) := fun ρ i v => kwi_ne ρ i v (by omega)
  simp (disch := omega) only [kI, nI_ltI, nI_leI, nI_eq, nI_clamp, krem, pk_div, pk_mul, nI_add, forall_eq, hc, e1, n1, n2, n3, n4, n5, n6, n7]
  exact br_f (by omega) ⟨by omega, by omega, by omega, h⟩
theorem op_undo {σ τ : Mm} (h : Rel σ τ) : wp_X10_undo σ (fun r σ2 => wp_X11_undo τ (fun r2 τ2 => r = r2 ∧ Rel σ2 τ2)) := by
  have h0 := h
  obtain ⟨g, d, hF, hT, hN, ⟨k, hk, k1, k2, k3⟩, hK, hG, hS, hf1, hf2⟩ := h
  show ((¬ σ.1 17 3 = 0 → _) ∧ (σ.1 17 3 = 0 → _))
  rw [k1]
  rcases Nat.eq_zero_or_pos k with hk0 | hk0
  · subst hk0
    refine brn_f (by decide) ?_
    unfold wp_X11_undo
    rw [k2]
    exact brn_f (by decide) ⟨rfl, h0⟩
  · obtain ⟨k, rfl⟩ : ∃ j, k = j + 1 := ⟨k - 1, by omega⟩
    have hne : ¬ nI (k + 1) = 0 := nI_ne0 (by omega) (by omega)
    refine brn_t hne ?_
    refine cC_pop (by omega) k1 (by omega) ?_
    show wp_X11_undo τ (fun r2 τ2 => nI k = r2 ∧ Rel _ τ2)
    unfold wp_X11_undo
    rw [k2]
    refine brn_t hne ?_
    intro τ1 e1
    have : nI (k + 1) - 1 = nI k := pk_sub (a := k + 1) (b := 1) (by omega)
    rw [this] at e1
    have st : ∀ (K : Mm → Prop) (n i : Nat) (ρ : Mm), i < 3 → ρ.1 0 9 = nI k → wp_X11_undo_L22 K n (kwi ρ 4 i (ρ.1 5 (3 * k + i))) (nI (i + 1)) → wp_X11_undo_L22 K (n + 1) ρ (nI i) := by
      intro K n i ρ hi h1 h2
      unfold wp_X11_undo_L22
      simp (disch := omega) only [kI, nI_ltI, nI_leI, nI_eq, nI_clamp, krem, pk_div, pk_mul, nI_add, forall_eq, h1]
      exact br_f (by omega) ⟨by omega, by omega, h2⟩
    subst e1
    refine ⟨fun ρ => ρ = kwi (kwi (kwi (kwi τ 0 9 (nI k)) 4 0 (τ.1 5 (3 * k))) 4 1 (τ.1 5 (3 * k + 1))) 4 2 (τ.1 5 (3 * k + 2)), fun ρ e => ?_, 4, st _ 3 0 _ (by omega) rfl (st _ 2 1 _ (by omega) rfl (st _ 1 2 _ (by omega) rfl (br_t (by decide) rfl)))⟩
    subst e
    refine ⟨rfl, g, d, ?_, hT, k3 k (by omega), ⟨k, by omega, rfl, rfl, fun j hj => k3 j (by omega)⟩, hK, hG, hS, hf1, hf2⟩
    exact FP_kwiM (FP_kwiM (FP_kwiM (FP_kwiM (FP_kwi (FP_kwi (FP_kwi (FP_kwi hF (by omega)) (by omega)) (by omega)) (by omega)) (by decide)) (by decide)) (by decide)) (by decide)
theorem op_back {σ τ : Mm} (h : Rel σ τ) : wp_X10_back σ (fun r σ2 => wp_X11_back τ (fun r2 τ2 => r = r2 ∧ Rel σ2 τ2)) := by
  have h0 := h
  obtain ⟨g, d, hF, hT, hN, hD, ⟨k, hk, k1, k2, k3⟩, hG, hS, hf1, hf2⟩ := h
  show ((¬ σ.1 21 3 = 0 → _) ∧ (σ.1 21 3 = 0 → _))
  rw [k1]
  rcases Nat.eq_zero_or_pos k with hk0 | hk0
  · subst hk0
    refine brn_f (by decide) ?_
    unfold wp_X11_back
    rw [k2]
    exact brn_f (by decide) ⟨rfl, h0⟩
  · obtain ⟨k, rfl⟩ : ∃ j, k = j + 1 := ⟨k - 1, by omega⟩
    have hne : ¬ nI (k + 1) = 0 := nI_ne0 (by omega) (by omega)
    refine brn_t hne ?_
    refine cC_pop (by omega) k1 (by omega) ?_
    intro σ4 e4
    subst e4
    show wp_X11_back τ (fun r2 τ2 => nI k = r2 ∧ Rel _ τ2)
    unfold wp_X11_back
    rw [k2]
    refine brn_t hne ?_
    intro τ1 e1
    have : nI (k + 1) - 1 = nI k := pk_sub (a := k + 1) (b := 1) (by omega)
    rw [this] at e1
    have st : ∀ (K : Mm → Prop) (n i : Nat) (ρ : Mm), i < 3 → ρ.1 0 11 = nI k → wp_X11_back_L22 K n (kwi ρ 4 i (ρ.1 6 (3 * k + i))) (nI (i + 1)) → wp_X11_back_L22 K (n + 1) ρ (nI i) := by
      intro K n i ρ hi h1 h2
      unfold wp_X11_back_L22
      simp (disch := omega) only [kI, nI_ltI, nI_leI, nI_eq, nI_clamp, krem, pk_div, pk_mul, nI_add, forall_eq, h1]
      exact br_f (by omega) ⟨by omega, by omega, h2⟩
    subst e1
    refine ⟨fun ρ => ρ = kwi (kwi (kwi (kwi τ 0 11 (nI k)) 4 0 (τ.1 6 (3 * k))) 4 1 (τ.1 6 (3 * k + 1))) 4 2 (τ.1 6 (3 * k + 2)), fun ρ e ρ2 e2 => ?_, 4, st _ 3 0 _ (by omega) rfl (st _ 2 1 _ (by omega) rfl (st _ 1 2 _ (by omega) rfl (br_t (by decide) rfl)))⟩
    subst e e2
    refine ⟨rfl, g, d, ?_, hT, k3 k (by omega), ⟨0, by omega, rfl, rfl, fun j hj => by omega⟩, ⟨k, by omega, rfl, rfl, fun j hj => k3 j (by omega)⟩, hG, hS, hf1, hf2⟩
    exact FP_kwiM (FP_kwiM (FP_kwiM (FP_kwiM (FP_kwiM (FP_kwi (FP_kwi (FP_kwi (FP_kwi (FP_kwi hF (by omega)) (by omega)) (by omega)) (by omega)) (by omega)) (by decide)) (by decide)) (by decide)) (by decide)) (by decide)
theorem op_feed {σ τ : Mm} (h : Rel σ τ) (x : Int32) : wp_X10_feed σ x (fun r σ2 => wp_X11_feed τ x (fun r2 τ2 => r = r2 ∧ Rel σ2 τ2)) := by
  have h0 := h
  obtain ⟨g, d, hR⟩ := h
  obtain ⟨hF, hT, hN, hD, hK, hG, hS, hf1, hf2⟩ := id hR
  obtain ⟨hg, hd, -, -, -, hC, hCD, hM⟩ := id hF
  obtain ⟨mi, m, fe, hmi, hm, n1, n2, n3, n4, n5, n6⟩ := id hN
  by_cases hx : yIn (aP g) x
  · refine cC_hasPerson hg hC (fun _ => brn_t (by decide) ?_) (fun q => absurd hx q)
    obtain ⟨i, hi, rfl⟩ := id hx
    rw [n1, n2]
    refine cC_canFeed hg hC hm hi (by omega) ?_
    have hmod : ∀ {Φ : Int32 → Mm → Prop}, (aPlc g i mi = m % 8 → wp_X11_know τ (fun τ2 => wp_X11_fedBy τ2 (τ2.1 4 1) (nI i) (fun r7 => ∀ σ8 : Mm, σ8 = kwi τ2 4 1 r7 → ∀ σ9 : Mm, σ9 = kwi σ8 4 2 ((σ8.1 4 2) + 1) → Φ (σ9.1 4 2) σ9))) → (¬ aPlc g i mi = m % 8 → Φ (-2) τ) → wp_X11_feed τ (nI i) Φ := by
      intro Φ h1 h2
      refine cM_isPerson hg hM (fun _ => brn_t (by decide) ?_) (fun q => absurd hx q)
      rw [n4, n5]
      refine cM_mayFeed hg hM hm.1 hi (by omega) ?_
      by_cases hp : aPlc g i mi = m % 8
      · rw [if_pos hp]
        exact brn_t (by decide) (h1 hp)
      · rw [if_neg hp]
        exact brn_f rfl (h2 hp)
    by_cases hp : aPlc g i mi = m % 8
    · rw [if_pos hp]
      refine brn_t (by decide) ?_
      refine push_rel hR (Ψ := fun σ2 τ2 => wp_X11_fedBy τ2 (τ2.1 4 1) (nI i) (fun r7 => ∀ σ8 : Mm, σ8 = kwi τ2 4 1 r7 → ∀ σ9 : Mm, σ9 = kwi σ8 4 2 ((σ8.1 4 2) + 1) → (σ2.1 16 2 + 1) = (σ9.1 4 2) ∧ Rel (kwi (kwi σ2 16 1 (nI (cst g (fedm g m i)))) 16 2 (σ2.1 16 2 + 1)) σ9)) (fun σ2 e1 e2 hk => ?_) (fun σ2 τ2 hR2 e1 e2 e3 => ?_)
      · have e16 := e1 16 (by decide) (by decide) (by decide) (by decide)
        rw [e16, n2]
        refine cC_fedState hg hm hi ?_
        intro σ10 e10 σ11 e11
        subst e10 e11
        exact hmod (fun _ => hk) (fun q => absurd hp q)
      · obtain ⟨hF2, hT2, hN2, hD2, hK2, hG2, hS2, hf12, hf22⟩ := hR2
        have hM2 := hF2.2.2.2.2.2.2.2
        rw [e2, n5]
        refine cM_fedBy hg hM2 hm.1 hi ?_
        intro σ8 e8 σ9 e9
        subst e8 e9
        have q1 : σ2.1 16 2 = nI fe := by rw [e1]; exact n3
        have q2 : τ2.1 4 2 = nI fe := by rw [e2]; exact n6
        have q3 : σ2.1 16 0 = nI mi := by rw [e1]; exact n1
        have q4 : τ2.1 4 0 = nI mi := by rw [e2]; exact n4
        refine ⟨?_, g, d, FP_kwiM (FP_kwiM (FP_kwi (FP_kwi hF2 (by omega)) (by omega)) (by decide)) (by decide), hT2, ⟨mi, fedm g m i, fe + 1, hmi, isSt_fed hg hm hi, q3, rfl, ?_, q4, rfl, ?_⟩, hD2, hK2, hG2, hS2, hf12, hf22⟩
        · show σ2.1 16 2 + 1 = τ2.1 4 2 + 1
          rw [q1, q2]
        · show σ2.1 16 2 + 1 = nI (fe + 1)
          rw [q1]; exact nI_1 fe
        · show τ2.1 4 2 + 1 = nI (fe + 1)
          rw [q2]; exact nI_1 fe
    · rw [if_neg hp]
      refine brn_f rfl ?_
      exact hmod (fun q => absurd q hp) (fun _ => ⟨rfl, h0⟩)
  · refine cC_hasPerson hg hC (fun q => absurd q hx) (fun _ => brn_f rfl ?_)
    exact cM_isPerson hg hM (fun q => absurd q hx) (fun _ => brn_f rfl ⟨rfl, h0⟩)
def gon (g d : Nat → Int32) (m t : Nat) : Nat → Nat
  | 0 => m
  | n + 1 => aft g d (gon g d m t n) (t + (n + 1))
theorem isSt_gon {g d : Nat → Int32} (hg : WFg g) (hd : WFd g d) {m t : Nat} (hm : isSt g m) : ∀ n, isSt g (gon g d m t n)
  | 0 => hm
  | n + 1 => isSt_aft hg hd (isSt_gon hg hd hm n)
theorem cM_gone {τ : Mm} {g d : Nat → Int32} (hg : WFg g) (hd : WFd g d) (hM : FmM τ g d) {m t n : Nat} (hm : isSt g m) (ht : t ≤ 9999) (hn : n ≤ 400) {Φ : Int32 → Prop} (h : Φ (nI (gon g d m t n))) : wp_X11_gone τ (nI m) (nI t) (nI n) Φ := by
  have key : ∀ r i, i + r = n → wp_X11_gone_L6 (nI t) (nI n) τ Φ (r + 1) (nI (gon g d m t i)) (nI (i + 1)) := by
    intro r
    induction r with
    | zero =>
      intro i hi
      have : i = n := by omega
      subst this
      exact br_t (nI_lt (by omega) (by omega)) h
    | succ r ih =>
      intro i hi
      refine br_f (nI_nlt (by omega) (by omega)) ?_
      rw [nI_add, nI_1]
      exact cM_after hg hd hM (isSt_gon hg hd hm i) (by omega) (ih (i + 1) (by omega))
  exact ⟨n + 1, key n 0 (by omega)⟩
theorem cC_unfed {σ : Mm} {b : Nat} {g d : Nat → Int32} (hg : WFg g) (hd : WFd g d) (hC : FmC σ b g) (hCD : FmD σ b g d) {m t n : Nat} (hm : isSt g m) (ht : t ≤ 9999) (hn : n ≤ 400) {Φ : Int32 → Prop} (h : Φ (nI (cst g (gon g d m t n)))) : wp_X1_unfed σ b (nI (cst g m)) (nI t) (nI n) Φ := by
  have key : ∀ r i, i + r = n → wp_X1_unfed_L6 b (nI t) (nI n) σ Φ (r + 1) (nI (cst g (gon g d m t i))) (nI (i + 1)) := by
    intro r
    induction r with
    | zero =>
      intro i hi
      have : i = n := by omega
      subst this
      exact br_t (nI_lt (by omega) (by omega)) h
    | succ r ih =>
      intro i hi
      refine br_f (nI_nlt (by omega) (by omega)) ?_
      rw [nI_add, nI_1]
      exact cC_onward hg hd hC hCD (isSt_gon hg hd hm i) (by omega) (ih (i + 1) (by omega))
  exact ⟨n + 1, key n 0 (by omega)⟩
theorem rg1_in {x : Int32} {hi : Nat} (h3 : hi + 1 < 2 ^ 31) : (¬ x < 1 ∧ x ≤ nI hi) ↔ ∃ j, 1 ≤ j ∧ j ≤ hi ∧ x = nI j := by
  constructor
  · rintro ⟨a, b⟩
    have a' : ¬ x < 0 := by
      intro q
      have q1 := (fa_lt_ _ _).mp q
      have q0 : (0 : Int32).toInt = 0 := by decide
      have q2 : (1 : Int32).toInt = 1 := by decide
      exact a ((fa_lt_ _ _).mpr (by omega))
    obtain ⟨j, hj, rfl⟩ := nI_of2 (M := nI hi) (nI_toInt (by omega)) a' b
    refine ⟨j, ?_, hj, rfl⟩
    rcases Nat.eq_zero_or_pos j with q | q
    · subst q
      exact absurd (by decide) a
    · exact q
  · rintro ⟨j, h1, h2, rfl⟩
    exact ⟨fun q => by have := (nI_ltI (a := j) (b := 1) (by omega) (by omega)).mp q; omega, nI_le (by omega) (by omega)⟩
theorem cM_in1' {x : Int32} {hi : Nat} (h3 : hi + 1 < 2 ^ 31) {Φ : Int32 → Prop} (h1 : (∃ j, 1 ≤ j ∧ j ≤ hi ∧ x = nI j) → Φ 1) (h0 : ¬ (∃ j, 1 ≤ j ∧ j ≤ hi ∧ x = nI j) → Φ 0) : wp_X11_in x 1 (nI hi) Φ := by
  refine ⟨fun c => h0 (fun q => ((rg1_in h3).mpr q).1 c), fun c => ⟨fun c2 => h0 (fun q => absurd ((rg1_in h3).mpr q).2 (Int32.not_le.mpr c2)), fun c2 => h1 ((rg1_in h3).mp ⟨c, Int32.not_lt.mp c2⟩)⟩⟩
theorem op_pass {σ τ : Mm} (h : Rel σ τ) (x : Int32) : wp_X10_pass σ x (fun r σ2 => wp_X11_pass τ x (fun r2 τ2 => r = r2 ∧ Rel σ2 τ2)) := by
  have h0 := h
  obtain ⟨g, d, hR⟩ := h
  obtain ⟨hF, hT, hN, hD, hK, hG, hS, hf1, hf2⟩ := id hR
  obtain ⟨hg, hd, -, -, -, hC, hCD, hM⟩ := id hF
  obtain ⟨mi, m, fe, hmi, hm, n1, n2, n3, n4, n5, n6⟩ := id hN
  by_cases hx : ∃ j, 1 ≤ j ∧ j ≤ 99 ∧ x = nI j
  · have hx2 := (rg1_in (hi := 99) (by omega)).mpr hx
    refine br_f hx2.1 (br_t hx2.2 ?_)
    obtain ⟨n, hn1, hn2, rfl⟩ := id hx
    have e9 : nI mi + nI n ≤ 9999 ↔ mi + n ≤ 9999 := by
      rw [nI_add]
      exact nI_leI (a := mi + n) (b := 9999) (by omega) (by omega)
    have hmod : ∀ {Φ : Int32 → Mm → Prop}, (mi + n ≤ 9999 → wp_X11_know τ (fun σ3 => wp_X11_gone σ3 (σ3.1 4 1) (σ3.1 4 0) (nI n) (fun r5 => ∀ σ6 : Mm, σ6 = kwi σ3 4 1 r5 → ∀ σ7 : Mm, σ7 = kwi σ6 4 0 ((σ6.1 4 0) + nI n) → wp_X11_yardOf (σ7.1 4 1) (fun r9 => Φ r9 σ7)))) → (¬ mi + n ≤ 9999 → Φ (-2) τ) → wp_X11_pass τ (nI n) Φ := by
      intro Φ a1 a2
      refine cM_in1' (hi := 99) (by omega) (fun _ => brn_t (by decide) ?_) (fun q => absurd hx q)
      rw [n4, e9]
      exact ⟨a1, a2⟩
    rw [n1]
    rw [e9]
    refine ⟨fun c => ?_, fun c => hmod (fun q => absurd q c) (fun _ => ⟨rfl, h0⟩)⟩
    refine push_rel hR (Ψ := fun σ2 τ2 => wp_X11_gone τ2 (τ2.1 4 1) (τ2.1 4 0) (nI n) (fun r5 => ∀ σ6 : Mm, σ6 = kwi τ2 4 1 r5 → ∀ σ7 : Mm, σ7 = kwi σ6 4 0 ((σ6.1 4 0) + nI n) → wp_X11_yardOf (σ7.1 4 1) (fun r9 => nI (gon g d m mi n % 8) = r9 ∧ Rel (kwi (kwi σ2 16 1 (nI (cst g (gon g d m mi n)))) 16 0 (σ2.1 16 0 + nI n)) σ7))) (fun σ2 e1 e2 hk => ?_) (fun σ2 τ2 hR2 e1 e2 e3 => ?_)
    · have e16 := e1 16 (by decide) (by decide) (by decide) (by decide)
      have hb := hF.2.2.1.1
      have hb' : 4 ≤ σ.2.2 0 ∧ σ.2.2 0 ≤ 10 := by rcases hb with q | q <;> omega
      have r0 : σ2.2.2 0 = σ.2.2 0 := by rw [e2]
      rw [e16, n2, n1, r0]
      have ef : ∀ k, σ.2.2 0 ≤ k → k ≤ σ.2.2 0 + 5 → σ2.1 k = σ.1 k := fun k a b => e1 k (by omega) (by omega) (by omega) (by omega)
      refine cC_unfed hg hd (hC.of ef) (hCD.of ef) hm hmi (by omega) ?_
      intro σ5 e5 σ6 e6
      subst e5 e6
      have hst := isSt_gon (t := mi) hg hd hm n
      have hlt := cst_lt hg hst
      refine cC_yardOf (m := cst g (gon g d m mi n)) (by omega) ?_
      rw [(cst_parts hg hst).1]
      exact hmod (fun _ => hk) (fun q => absurd c q)
    · obtain ⟨hF2, hT2, hN2, hD2, hK2, hG2, hS2, hf12, hf22⟩ := hR2
      have hM2 := hF2.2.2.2.2.2.2.2
      have hst := isSt_gon (t := mi) hg hd hm n
      rw [e2, n5, n4]
      refine cM_gone hg hd hM2 hm hmi (by omega) ?_
      intro σ8 e8 σ9 e9
      subst e8 e9
      have q1 : σ2.1 16 0 = nI mi := by rw [e1]; exact n1
      have q2 : τ2.1 4 0 = nI mi := by rw [e2]; exact n4
      have q3 : σ2.1 16 2 = nI fe := by rw [e1]; exact n3
      have q4 : τ2.1 4 2 = nI fe := by rw [e2]; exact n6
      have hlt := hst.1
      refine cM_yardOf (m := gon g d m mi n) (by omega) ⟨rfl, g, d, FP_kwiM (FP_kwiM (FP_kwi (FP_kwi hF2 (by omega)) (by omega)) (by decide)) (by decide), hT2, ⟨mi + n, gon g d m mi n, fe, c, hst, ?_, rfl, q3, ?_, rfl, q4⟩, hD2, hK2, hG2, hS2, hf12, hf22⟩
      · show σ2.1 16 0 + nI n = nI (mi + n)
        rw [q1]; exact nI_add mi n
      · show τ2.1 4 0 + nI n = nI (mi + n)
        rw [q2]; exact nI_add mi n
  · have hb : wp_X11_pass τ x (fun r2 τ2 => -1 = r2 ∧ Rel σ τ2) := cM_in1' (hi := 99) (by omega) (fun q => absurd q hx) (fun _ => brn_f rfl ⟨rfl, h0⟩)
    exact ⟨fun _ => hb, fun c => ⟨fun c2 => absurd ((rg1_in (hi := 99) (by omega)).mp ⟨c, c2⟩) hx, fun _ => hb⟩⟩
theorem cC_isFlag {x : Int32} {Φ : Int32 → Prop} (h1 : x = 0 ∨ x = 1 → Φ 1) (h0 : ¬ (x = 0 ∨ x = 1) → Φ 0) : wp_X10_isFlag x Φ := by
  refine ⟨fun c => h1 (Or.inl c), fun c => ⟨fun c2 => h0 (by rintro (q | q); exact c q; exact c2 q), fun c2 => h1 (Or.inr c2)⟩⟩
theorem yIn2 {x : Int32} : yIn 2 x ↔ (x = 0 ∨ x = 1) := by
  constructor
  · rintro ⟨j, hj, rfl⟩
    rcases (by omega : j = 0 ∨ j = 1) with q | q
    · subst q; exact Or.inl rfl
    · subst q; exact Or.inr rfl
  · rintro (q | q)
    · exact ⟨0, by omega, q⟩
    · exact ⟨1, by omega, q⟩
theorem cM_in01 {x : Int32} {Φ : Int32 → Prop} (h1 : x = 0 ∨ x = 1 → Φ 1) (h0 : ¬ (x = 0 ∨ x = 1) → Φ 0) : wp_X11_in x 0 1 Φ := by
  by_cases h : yIn 2 x
  · obtain ⟨j, hj, rfl⟩ := id h
    exact cM_in1 (lo := 0) (hi := 1) (by omega) (by omega) (by omega) (h1 (yIn2.mp h))
  · exact cM_in0 (hi := 1) (by omega) h (h0 (fun q => h (yIn2.mpr q)))
theorem rg_gt {x : Int32} {hi : Nat} (h3 : hi + 1 < 2 ^ 31) (h0 : ¬ x < 0) : (nI hi < x) ↔ ¬ yIn (hi + 1) x := by
  constructor
  · intro q hy
    have := (rg_in h3).mpr hy
    exact absurd this.2 (Int32.not_le.mpr q)
  · intro q
    exact Int32.not_le.mp (fun z => q ((rg_in h3).mp ⟨h0, z⟩))
theorem op_calf {σ τ : Mm} (h : Rel σ τ) (x y : Int32) : wp_X10_calf σ x y (fun r => wp_X11_calf τ x y (fun r2 => r = r2)) := by
  obtain ⟨g, d, hR⟩ := h
  obtain ⟨hF, hT, hN, hD, hK, hG, hS, hf1, hf2⟩ := id hR
  obtain ⟨hg, hd, -, -, -, hC, hCD, hM⟩ := id hF
  obtain ⟨mi, m, fe, hmi, hm, n1, n2, n3, n4, n5, n6⟩ := id hN
  by_cases hx : yIn 401 x
  · have hx0 := ((rg_in (hi := 400) (by omega)).mpr hx).1
    refine br_f hx0 (br_f (fun q => ((rg_gt (hi := 400) (by omega) hx0).mp q) hx) ?_)
    obtain ⟨n, hn, rfl⟩ := id hx
    refine cC_isFlag (fun hy => brn_t (by decide) ?_) (fun hy => brn_f rfl ?_)
    · rw [n1, n2]
      have hst := isSt_gon (t := mi) hg hd hm n
      have hlt := cst_lt hg hst
      have hlt2 := hst.1
      obtain ⟨p1, p2, p3⟩ := cst_parts hg hst
      have hP := hg.P
      have hmod : ∀ {Φ : Int32 → Prop}, (y = 0 → Φ (nI (gon g d m mi n % 8))) → (¬ y = 0 → gon g d m mi n / 8 % 6 = 0 → Φ (-4)) → (¬ y = 0 → gon g d m mi n / 8 % 6 ≠ 0 → Φ (nI (gon g d m mi n / 8 % 6 - 1))) → wp_X11_calf τ (nI n) y Φ := by
        intro Φ a1 a2 a3
        refine cM_in1 (lo := 0) (hi := 400) (by omega) (by omega) (by omega) (br_f (by decide) (cM_in01 (fun _ => brn_t (by decide) ?_) (fun q => absurd hy q)))
        rw [n4, n5]
        refine cM_gone hg hd hM hm hmi (by omega) ⟨fun c => ?_, fun c => cM_yardOf (by omega) (a1 c)⟩
        by_cases hw : gon g d m mi n / 8 % 6 = 0
        · exact cM_whom0 (by omega) hw (br_f (by decide) (a2 c hw))
        · exact cM_whom1 (by omega) hw (br_t (nI_pos' (by omega)) (cM_whom1 (by omega) hw (a3 c hw)))
      refine cC_unfed hg hd hC hCD hm hmi (by omega) ⟨fun c => ?_, fun c => cC_yardOf (by omega) ?_⟩
      · by_cases hw : gon g d m mi n / 8 % 6 = 0
        · refine cC_followed0 (by omega) (by omega) (br_t (by decide) ?_)
          exact hmod (fun q => absurd q c) (fun _ _ => rfl) (fun _ q => absurd hw q)
        · refine cC_followed1 (by omega) (by omega) (br_f (nI_pos (by omega)) ?_)
          rw [p2]
          exact hmod (fun q => absurd q c) (fun _ q => absurd q hw) (fun _ _ => rfl)
      · rw [p1]
        exact hmod (fun _ => rfl) (fun q => absurd c q) (fun q => absurd c q)
    · exact cM_in1 (lo := 0) (hi := 400) (by omega) (by omega) (by omega) (br_f (by decide) (cM_in01 (fun q => absurd q hy) (fun _ => brn_f rfl rfl)))
  · have hb : wp_X11_calf τ x y (fun r2 => -1 = r2) := cM_in0 (hi := 400) (by omega) hx (br_t rfl rfl)
    exact ⟨fun _ => hb, fun c => ⟨fun _ => hb, fun c2 => absurd ((rg_gt (hi := 400) (by omega) c).mpr hx) c2⟩⟩
end
section
def drX (z k : Nat) : Nat := 7919 * z + 6151 * k + 1
def drw (z k : Nat) : Nat := (drX z k * drX z k) % 65521
theorem drX_sq {z k : Nat} (hz : z ≤ 9999) (hk : k ≤ 400) : drX z k < 2 ^ 31 ∧ drX z k * drX z k < 2 ^ 62 := by
  have h : drX z k ≤ 82000000 := by unfold drX; omega
  have h2 := Nat.mul_le_mul h h
  exact ⟨by omega, by omega⟩
theorem cC_drawn {z k P : Nat} (hz : z ≤ 9999) (hk : k ≤ 400) (hP : 1 ≤ P ∧ P ≤ 5) {Φ : Int32 → Prop} (h0 : drw z k / 8 % 2 = 0 → Φ (-1)) (h1 : drw z k / 8 % 2 ≠ 0 → Φ (nI (drw z k % P))) : wp_X10_drawnFeeder (nI z) (nI k) (nI P) Φ := by
  obtain ⟨hX, hX2⟩ := drX_sq hz hk
  have hd : drw z k < 65521 := Nat.mod_lt _ (by omega)
  intro x3 e3
  have e3' : x3 = lN (drX z k) := by
    rw [e3, nI_l (by omega), nI_l (by omega), kL, kL, kL, lN_mul, lN_mul, lN_add, lN_add]
    rfl
  rw [e3']
  intro x5 e5
  have e5' : x5 = lN (drw z k) := by
    rw [e5, lN_mul]
    have : lN (drX z k * drX z k) / 65521 = lN (drX z k * drX z k / 65521) := pk_lDiv (b := 65521) (by omega) (by omega) (by omega)
    rw [this]
    have : lN (drX z k * drX z k / 65521) * 65521 = lN (drX z k * drX z k / 65521 * 65521) := lN_mul _ 65521
    rw [this, kremL]
    rfl
  rw [e5', lg_cmp_eq, nI_l (by omega)]
  generalize drw z k = D at *
  have q1 : lN D / 8 = lN (D / 8) := pk_lDiv (b := 8) (by omega) (by omega) (by omega)
  have q2 : lN (D / 8) / 2 = lN (D / 8 / 2) := pk_lDiv (b := 2) (by omega) (by omega) (by omega)
  have q3 : lN (D / 8 / 2) * 2 = lN (D / 8 / 2 * 2) := lN_mul _ 2
  have q4 : lN D / lN P = lN (D / P) := pk_lDiv (by omega) (by omega) (by omega)
  rw [q1, q2, q3, kremL, q4, lN_mul, kremL, lN_i]
  have q5 : lN (D / 8 % 2) = 0 ↔ D / 8 % 2 = 0 := pk_lEQ (b := 0) (by omega) (by omega)
  have q6 : lN P = 0 ↔ P = 0 := pk_lEQ (b := 0) (by omega) (by omega)
  rw [q5, q6]
  refine br_f (fun q => ?_) ⟨fun c => ⟨by omega, h1 c⟩, fun c => h0 c⟩
  have := (nI_ltI (a := P) (b := 1) (by omega) (by omega)).mp q
  omega
/-- a year's states and how often it was fed -/
def yrs (g d : Nat → Int32) (z : Nat) : Nat → Nat × Nat
  | 0 => (aC g, 0)
  | k + 1 => if drw z k / 8 % 2 ≠ 0 ∧ aPlc g (drw z k % aP g) k = (yrs g d z k).1 % 8 then (aft g d (fedm g (yrs g d z k).1 (drw z k % aP g)) (k + 1), (yrs g d z k).2 + 1) else (aft g d (yrs g d z k).1 (k + 1), (yrs g d z k).2)
theorem isSt_C {g : Nat → Int32} (hg : WFg g) : isSt g (aC g) := by
  have := hg.C
  have := hg.N
  unfold isSt
  omega
theorem isSt_yrs {g d : Nat → Int32} (hg : WFg g) (hd : WFd g d) (z : Nat) : ∀ k, isSt g (yrs g d z k).1
  | 0 => isSt_C hg
  | k + 1 => by
    have ih := isSt_yrs hg hd z k
    have hP := hg.P
    unfold yrs
    split
    · exact isSt_aft hg hd (isSt_fed hg ih (Nat.mod_lt _ (by omega)))
    · exact isSt_aft hg hd ih
theorem cC_year_L {σ : Mm} {g d : Nat → Int32} (hg : WFg g) (hd : WFd g d) (hC : FmC σ (σ.2.2 0) g) (hCD : FmD σ (σ.2.2 0) g d) {z n : Nat} (hz : z ≤ 9999) (hn : n ≤ 400) {K : Int32 → Int32 → Prop} (hK : K (nI (cst g (yrs g d z n).1)) (nI (yrs g d z n).2)) : ∀ r k, k + r = n → wp_X10_year_L47 (nI z) (nI n) σ K (r + 1) (nI (cst g (yrs g d z k).1)) (nI (yrs g d z k).2) (nI k) := by
  have hP := hg.P
  intro r
  induction r with
  | zero =>
    intro k hk
    have : k = n := by omega
    subst this
    exact br_t (nI_le (Nat.le_refl _) (by omega)) hK
  | succ r ih =>
    intro k hk
    refine br_f (nI_ge (by omega) (by omega)) ?_
    have hst := isSt_yrs hg hd z k
    have hi : drw z k % aP g < aP g := Nat.mod_lt _ (by omega)
    have ih' := ih (k + 1) (by omega)
    unfold wp_X1_persons
    rw [hC.2.1]
    dsimp only
    have e1 : nI k + 1 = nI (k + 1) := nI_1 k
    refine cC_drawn hz (by omega) hP (fun q => ?_) (fun q => ?_)
    · refine ⟨_, fun _ _ z => z, br_t rfl ?_⟩
      rw [e1]
      refine cC_onward hg hd hC hCD hst (by omega) ?_
      unfold yrs at ih'
      rw [if_neg (by omega)] at ih'
      exact ih'
    · refine ⟨_, fun _ _ z => z, br_f (nI_m1 (by omega)).1 ?_⟩
      refine cC_canFeed hg hC hst hi (by omega) ?_
      by_cases hp : aPlc g (drw z k % aP g) k = (yrs g d z k).1 % 8
      · rw [if_pos hp]
        refine br_f (by decide) (cC_fedState hg hst hi ?_)
        rw [e1]
        refine cC_onward hg hd hC hCD (isSt_fed hg hst hi) (by omega) ?_
        unfold yrs at ih'
        rw [if_pos ⟨q, hp⟩] at ih'
        have e2 : nI (yrs g d z k).2 + 1 = nI ((yrs g d z k).2 + 1) := nI_1 _
        rw [e2]
        exact ih'
      · rw [if_neg hp]
        refine br_t rfl ?_
        rw [e1]
        refine cC_onward hg hd hC hCD hst (by omega) ?_
        unfold yrs at ih'
        rw [if_neg (fun q => hp q.2)] at ih'
        exact ih'
theorem cM_year_L {τ : Mm} {g d : Nat → Int32} (hg : WFg g) (hd : WFd g d) (hM : FmM τ g d) {z n : Nat} (hz : z ≤ 9999) (hn : n ≤ 400) {K : Int32 → Int32 → Prop} (hK : K (nI (yrs g d z n).1) (nI (yrs g d z n).2)) : ∀ r k, k + r = n → wp_X11_year_L47 (nI z) (nI n) τ K (r + 1) (nI (yrs g d z k).1) (nI (yrs g d z k).2) (nI k) := by
  have hP := hg.P
  have q0 : τ.1 1 1 = nI (aP g) := hM.1 1 (by omega)
  intro r
  induction r with
  | zero =>
    intro k hk
    have : k = n := by omega
    subst this
    exact br_t (nI_le (Nat.le_refl _) (by omega)) hK
  | succ r ih =>
    intro k hk
    refine br_f (nI_ge (by omega) (by omega)) ?_
    have hst := isSt_yrs hg hd z k
    have hi : drw z k % aP g < aP g := Nat.mod_lt _ (by omega)
    have ih' := ih (k + 1) (by omega)
    obtain ⟨hX, hX2⟩ := drX_sq (k := k) hz (by omega)
    have hdw : drw z k < 65521 := Nat.mod_lt _ (by omega)
    have e1 : nI k + 1 = nI (k + 1) := nI_1 k
    intro x7 e7
    have e7' : x7 = lN (drX z k) := by
      rw [e7, nI_l (by omega), nI_l (by omega), kL, kL, kL, lN_mul, lN_mul, lN_add, lN_add]
      rfl
    rw [e7']
    intro x9 e9
    have e9' : x9 = nI (drw z k) := by
      rw [e9, lN_mul]
      have : lN (drX z k * drX z k) / 65521 = lN (drX z k * drX z k / 65521) := pk_lDiv (b := 65521) (by omega) (by omega) (by omega)
      rw [this]
      have : lN (drX z k * drX z k / 65521) * 65521 = lN (drX z k * drX z k / 65521 * 65521) := lN_mul _ 65521
      rw [this, kremL, lN_i]
      rfl
    rw [e9', q0]
    refine ⟨nI_ne0 (by omega) (by omega), ?_⟩
    intro x10 e10
    rw [pk_rem (by omega) (by omega) (by omega)] at e10
    rw [e10]
    refine cM_mayFeed hg hM hst.1 hi (by omega) ?_
    have q1 : nI (drw z k) / 8 = nI (drw z k / 8) := pk_div (d := 8) (by omega) (by omega) (by omega)
    have q2 : nI (drw z k / 8) / 2 = nI (drw z k / 8 / 2) := pk_div (d := 2) (by omega) (by omega) (by omega)
    have q3 : nI (drw z k / 8 / 2) * 2 = nI (drw z k / 8 / 2 * 2) := pk_mul _ 2
    have q5 : nI (drw z k / 8 % 2) = 1 ↔ drw z k / 8 % 2 = 1 := nI_eq (b := 1) (by omega) (by omega)
    have e2 : nI (yrs g d z k).2 + 1 = nI ((yrs g d z k).2 + 1) := nI_1 _
    rw [q1, q2, q3, krem, q5, e2, e1]
    refine ⟨_, fun _ _ z => z, ?_⟩
    by_cases hp : aPlc g (drw z k % aP g) k = (yrs g d z k).1 % 8
    · rw [if_pos hp]
      refine br_f (by decide) ⟨fun c => ?_, fun c => ?_⟩
      · refine cM_after hg hd hM hst (by omega) ?_
        unfold yrs at ih'
        rw [if_neg (by omega)] at ih'
        exact ih'
      · refine cM_fedBy hg hM hst.1 hi (cM_after hg hd hM (isSt_fed hg hst hi) (by omega) ?_)
        unfold yrs at ih'
        rw [if_pos ⟨by omega, hp⟩] at ih'
        exact ih'
    · rw [if_neg hp]
      refine br_t rfl (cM_after hg hd hM hst (by omega) ?_)
      unfold yrs at ih'
      rw [if_neg (fun q => hp q.2)] at ih'
      exact ih'
theorem op_year {σ τ : Mm} (h : Rel σ τ) (x y w : Int32) : wp_X10_year σ x y w (fun r => wp_X11_year τ x y w (fun r2 => r = r2)) := by
  obtain ⟨g, d, ⟨hg, hd, -, -, -, hC, hCD, hM⟩, -⟩ := h
  by_cases hx : yIn 10000 x
  · have hx0 := ((rg_in (hi := 9999) (by omega)).mpr hx).1
    refine br_f hx0 (br_f (fun q => ((rg_gt (hi := 9999) (by omega) hx0).mp q) hx) ?_)
    obtain ⟨z, hz, rfl⟩ := id hx
    by_cases hy : ∃ j, 1 ≤ j ∧ j ≤ 400 ∧ y = nI j
    · have hy0 := (rg1_in (hi := 400) (by omega)).mpr hy
      refine br_f hy0.1 (br_f (Int32.not_lt.mpr hy0.2) ?_)
      obtain ⟨n, hn1, hn2, rfl⟩ := id hy
      have hin : ∀ {Φ : Int32 → Prop}, wp_X11_in w 0 1 Φ → wp_X11_in (nI z) 0 9999 (fun r2 => ((r2 = 0 → False) ∧ (¬ (r2 = 0) → wp_X11_in (nI n) 1 400 (fun r4 => ((r4 = 0 → False) ∧ (¬ (r4 = 0) → wp_X11_in w 0 1 Φ)))))) := fun h => cM_in1 (lo := 0) (hi := 9999) (by omega) (by omega) (by omega) (br_f (by decide) (cM_in1 (lo := 1) (hi := 400) (by omega) (by omega) (by omega) (br_f (by decide) h)))
      have hst := isSt_yrs hg hd z n
      have hlt := cst_lt hg hst
      refine cC_isFlag (fun hw => brn_t (by decide) ?_) (fun hw => brn_f rfl ?_)
      · have hmod : ∀ {Φ : Int32 → Prop}, (w = 0 → Φ (nI (yrs g d z n).2)) → (¬ w = 0 → Φ (nI ((yrs g d z n).1 % 8))) → wp_X11_year τ (nI z) (nI n) w Φ := by
          intro Φ a1 a2
          refine cM_in1 (lo := 0) (hi := 9999) (by omega) (by omega) (by omega) (br_f (by decide) (cM_in1 (lo := 1) (hi := 400) (by omega) (by omega) (by omega) (br_f (by decide) (cM_in01 (fun _ => brn_t (by decide) ?_) (fun q => absurd hw q)))))
          intro x4 e4
          have q3 : τ.1 1 3 = nI (aC g) := hM.1 3 (by omega)
          rw [e4, q3]
          refine ⟨fun a b => a = nI (yrs g d z n).1 ∧ b = nI (yrs g d z n).2, fun a b e => ?_, n + 1, cM_year_L hg hd hM (by omega) hn2 ⟨rfl, rfl⟩ n 0 (by omega)⟩
          rw [e.1, e.2]
          have := hst.1
          exact ⟨fun c => cM_yardOf (by omega) (a2 c), a1⟩
        show wp_X10_packed (σ.1 (σ.2.2 0) 8) (-1) 0 _
        rw [hC.2.2.2.1]
        refine cC_packed0 ?_
        have ec : aC g = cst g (yrs g d z 0).1 := by
          have := hg.C
          have := hg.N
          show aC g = cst g (aC g)
          unfold cst
          rw [if_pos (Or.inl (by omega))]
          omega
        rw [ec]
        refine ⟨fun a b => a = nI (cst g (yrs g d z n).1) ∧ b = nI (yrs g d z n).2, fun a b e => ?_, n + 1, cC_year_L hg hd hC hCD (by omega) hn2 ⟨rfl, rfl⟩ n 0 (by omega)⟩
        rw [e.1, e.2]
        refine ⟨fun c => cC_yardOf (by omega) ?_, fun c => hmod (fun _ => rfl) (fun q => absurd c q)⟩
        rw [(cst_parts hg hst).1]
        exact hmod (fun q => absurd q c) (fun _ => rfl)
      · exact cM_in1 (lo := 0) (hi := 9999) (by omega) (by omega) (by omega) (br_f (by decide) (cM_in1 (lo := 1) (hi := 400) (by omega) (by omega) (by omega) (br_f (by decide) (cM_in01 (fun q => absurd q hw) (fun _ => brn_f rfl rfl)))))
    · have hb : wp_X11_year τ (nI z) y w (fun r2 => -1 = r2) := cM_in1 (lo := 0) (hi := 9999) (by omega) (by omega) (by omega) (br_f (by decide) (cM_in1' (hi := 400) (by omega) (fun q => absurd q hy) (fun _ => br_t rfl rfl)))
      refine ⟨fun _ => hb, fun c => ⟨fun _ => hb, fun c2 => absurd ((rg1_in (hi := 400) (by omega)).mp ⟨c, Int32.not_lt.mp c2⟩) hy⟩⟩
  · have hb : wp_X11_year τ x y w (fun r2 => -1 = r2) := cM_in0 (hi := 9999) (by omega) hx (br_t rfl rfl)
    exact ⟨fun _ => hb, fun c => ⟨fun _ => hb, fun c2 => absurd ((rg_gt (hi := 9999) (by omega) c).mpr hx) c2⟩⟩
end
