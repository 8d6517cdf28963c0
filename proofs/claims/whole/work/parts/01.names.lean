/-- a private method of a class that the tables say can be made, by its rows of tables_1 -/
def lw_okq (q : MethodName × Nat) : Prop := (q.1.cls ≠ "java/lang/invoke/MethodHandle" ∧ q.1.cls ≠ "java/lang/invoke/VarHandle") ∧ Cond.instantiable q.1.cls q.2 ∈ tables_1 ∧ Cond.privateMethod q.1 ∈ tables_1 ∧ Cond.instanceMethod q.1 ∈ tables_1
theorem lw_p0 : lw_okq (⟨"PileShares$Script", "skipBlanks", "()V"⟩, 7) := ⟨⟨by decide +kernel, by decide +kernel⟩, List.mem_of_getElem? (i := 86) (by decide +kernel), List.mem_of_getElem? (i := 295) (by decide +kernel), List.mem_of_getElem? (i := 296) (by decide +kernel)⟩
theorem lw_p1 : lw_okq (⟨"PileShares$Script", "readItem", "(LPileShares$Structure;)Z"⟩, 7) := ⟨⟨by decide +kernel, by decide +kernel⟩, List.mem_of_getElem? (i := 86) (by decide +kernel), List.mem_of_getElem? (i := 299) (by decide +kernel), List.mem_of_getElem? (i := 300) (by decide +kernel)⟩
theorem lw_p2 : lw_okq (⟨"PileShares$Script", "letterHere", "()I"⟩, 7) := ⟨⟨by decide +kernel, by decide +kernel⟩, List.mem_of_getElem? (i := 86) (by decide +kernel), List.mem_of_getElem? (i := 303) (by decide +kernel), List.mem_of_getElem? (i := 304) (by decide +kernel)⟩
theorem lw_p3 : lw_okq (⟨"PileShares$Script", "readPile", "(LPileShares$Structure;)Z"⟩, 7) := ⟨⟨by decide +kernel, by decide +kernel⟩, List.mem_of_getElem? (i := 86) (by decide +kernel), List.mem_of_getElem? (i := 307) (by decide +kernel), List.mem_of_getElem? (i := 308) (by decide +kernel)⟩
theorem lw_p4 : lw_okq (⟨"PileShares$Script", "readPlace", "()Z"⟩, 7) := ⟨⟨by decide +kernel, by decide +kernel⟩, List.mem_of_getElem? (i := 86) (by decide +kernel), List.mem_of_getElem? (i := 311) (by decide +kernel), List.mem_of_getElem? (i := 312) (by decide +kernel)⟩
theorem lw_p5 : lw_okq (⟨"PileShares$Script", "readNumber", "(II)I"⟩, 7) := ⟨⟨by decide +kernel, by decide +kernel⟩, List.mem_of_getElem? (i := 86) (by decide +kernel), List.mem_of_getElem? (i := 315) (by decide +kernel), List.mem_of_getElem? (i := 316) (by decide +kernel)⟩
theorem lw_p6 : lw_okq (⟨"PileShares$Script", "readSemicolon", "()Z"⟩, 7) := ⟨⟨by decide +kernel, by decide +kernel⟩, List.mem_of_getElem? (i := 86) (by decide +kernel), List.mem_of_getElem? (i := 329) (by decide +kernel), List.mem_of_getElem? (i := 330) (by decide +kernel)⟩
theorem lw_p7 : lw_okq (⟨"PileShares$Script", "readColumn", "(LPileShares$Structure;)Z"⟩, 7) := ⟨⟨by decide +kernel, by decide +kernel⟩, List.mem_of_getElem? (i := 86) (by decide +kernel), List.mem_of_getElem? (i := 337) (by decide +kernel), List.mem_of_getElem? (i := 338) (by decide +kernel)⟩
theorem lw_p8 : lw_okq (⟨"PileShares$Script", "readWind", "(LPileShares$Structure;)Z"⟩, 7) := ⟨⟨by decide +kernel, by decide +kernel⟩, List.mem_of_getElem? (i := 86) (by decide +kernel), List.mem_of_getElem? (i := 345) (by decide +kernel), List.mem_of_getElem? (i := 346) (by decide +kernel)⟩
theorem lw_p9 : lw_okq (⟨"PileShares", "recordAction", "()V"⟩, 13) := ⟨⟨by decide +kernel, by decide +kernel⟩, List.mem_of_getElem? (i := 13) (by decide +kernel), List.mem_of_getElem? (i := 366) (by decide +kernel), List.mem_of_getElem? (i := 367) (by decide +kernel)⟩
theorem lw_p10 : lw_okq (⟨"PileShares", "isPile", "(I)Z"⟩, 13) := ⟨⟨by decide +kernel, by decide +kernel⟩, List.mem_of_getElem? (i := 13) (by decide +kernel), List.mem_of_getElem? (i := 375) (by decide +kernel), List.mem_of_getElem? (i := 376) (by decide +kernel)⟩
theorem lw_p11 : lw_okq (⟨"PileShares", "isColumn", "(I)Z"⟩, 13) := ⟨⟨by decide +kernel, by decide +kernel⟩, List.mem_of_getElem? (i := 13) (by decide +kernel), List.mem_of_getElem? (i := 397) (by decide +kernel), List.mem_of_getElem? (i := 398) (by decide +kernel)⟩
theorem lw_p12 : lw_okq (⟨"PileShares", "spreadPresent", "()V"⟩, 13) := ⟨⟨by decide +kernel, by decide +kernel⟩, List.mem_of_getElem? (i := 13) (by decide +kernel), List.mem_of_getElem? (i := 418) (by decide +kernel), List.mem_of_getElem? (i := 419) (by decide +kernel)⟩
theorem lw_p13 : lw_okq (⟨"PileShares", "takePresent", "()V"⟩, 13) := ⟨⟨by decide +kernel, by decide +kernel⟩, List.mem_of_getElem? (i := 13) (by decide +kernel), List.mem_of_getElem? (i := 422) (by decide +kernel), List.mem_of_getElem? (i := 423) (by decide +kernel)⟩
theorem lw_p14 : lw_okq (⟨"PileShares$Distribution", "anotherRoundFollows", "()Z"⟩, 15) := ⟨⟨by decide +kernel, by decide +kernel⟩, List.mem_of_getElem? (i := 116) (by decide +kernel), List.mem_of_getElem? (i := 471) (by decide +kernel), List.mem_of_getElem? (i := 472) (by decide +kernel)⟩
theorem lw_p15 : lw_okq (⟨"PileShares$Distribution", "mostPulled", "()I"⟩, 15) := ⟨⟨by decide +kernel, by decide +kernel⟩, List.mem_of_getElem? (i := 116) (by decide +kernel), List.mem_of_getElem? (i := 483) (by decide +kernel), List.mem_of_getElem? (i := 484) (by decide +kernel)⟩
def lw_privs_1 : List (MethodName × Nat) := [(⟨"PileShares$Script", "skipBlanks", "()V"⟩, 7), (⟨"PileShares$Script", "readItem", "(LPileShares$Structure;)Z"⟩, 7), (⟨"PileShares$Script", "letterHere", "()I"⟩, 7), (⟨"PileShares$Script", "readPile", "(LPileShares$Structure;)Z"⟩, 7), (⟨"PileShares$Script", "readPlace", "()Z"⟩, 7), (⟨"PileShares$Script", "readNumber", "(II)I"⟩, 7), (⟨"PileShares$Script", "readSemicolon", "()Z"⟩, 7), (⟨"PileShares$Script", "readColumn", "(LPileShares$Structure;)Z"⟩, 7), (⟨"PileShares$Script", "readWind", "(LPileShares$Structure;)Z"⟩, 7), (⟨"PileShares", "recordAction", "()V"⟩, 13), (⟨"PileShares", "isPile", "(I)Z"⟩, 13), (⟨"PileShares", "isColumn", "(I)Z"⟩, 13), (⟨"PileShares", "spreadPresent", "()V"⟩, 13), (⟨"PileShares", "takePresent", "()V"⟩, 13), (⟨"PileShares$Distribution", "anotherRoundFollows", "()Z"⟩, 15), (⟨"PileShares$Distribution", "mostPulled", "()I"⟩, 15)]
theorem lw_r1 : ∀ q ∈ lw_privs_1, lw_okq q := List.forall_mem_cons.mpr ⟨lw_p0, List.forall_mem_cons.mpr ⟨lw_p1, List.forall_mem_cons.mpr ⟨lw_p2, List.forall_mem_cons.mpr ⟨lw_p3, List.forall_mem_cons.mpr ⟨lw_p4, List.forall_mem_cons.mpr ⟨lw_p5, List.forall_mem_cons.mpr ⟨lw_p6, List.forall_mem_cons.mpr ⟨lw_p7, List.forall_mem_cons.mpr ⟨lw_p8, List.forall_mem_cons.mpr ⟨lw_p9, List.forall_mem_cons.mpr ⟨lw_p10, List.forall_mem_cons.mpr ⟨lw_p11, List.forall_mem_cons.mpr ⟨lw_p12, List.forall_mem_cons.mpr ⟨lw_p13, List.forall_mem_cons.mpr ⟨lw_p14, List.forall_mem_cons.mpr ⟨lw_p15, fun _ h => absurd h List.not_mem_nil⟩⟩⟩⟩⟩⟩⟩⟩⟩⟩⟩⟩⟩⟩⟩⟩
theorem lw_p16 : lw_okq (⟨"PileShares$Distribution", "mostPressedOfReleased", "()I"⟩, 15) := ⟨⟨by decide +kernel, by decide +kernel⟩, List.mem_of_getElem? (i := 116) (by decide +kernel), List.mem_of_getElem? (i := 491) (by decide +kernel), List.mem_of_getElem? (i := 492) (by decide +kernel)⟩
theorem lw_p17 : lw_okq (⟨"PileShares$Distribution", "findMostUsed", "()V"⟩, 15) := ⟨⟨by decide +kernel, by decide +kernel⟩, List.mem_of_getElem? (i := 116) (by decide +kernel), List.mem_of_getElem? (i := 495) (by decide +kernel), List.mem_of_getElem? (i := 496) (by decide +kernel)⟩
theorem lw_p18 : lw_okq (⟨"PileShares", "greatestUse", "(I)J"⟩, 13) := ⟨⟨by decide +kernel, by decide +kernel⟩, List.mem_of_getElem? (i := 13) (by decide +kernel), List.mem_of_getElem? (i := 560) (by decide +kernel), List.mem_of_getElem? (i := 561) (by decide +kernel)⟩
theorem lw_p19 : lw_okq (⟨"PileShares", "bracePresent", "()Z"⟩, 13) := ⟨⟨by decide +kernel, by decide +kernel⟩, List.mem_of_getElem? (i := 13) (by decide +kernel), List.mem_of_getElem? (i := 580) (by decide +kernel), List.mem_of_getElem? (i := 581) (by decide +kernel)⟩
theorem lw_p20 : lw_okq (⟨"PileShares", "standsOn", "(I)Z"⟩, 13) := ⟨⟨by decide +kernel, by decide +kernel⟩, List.mem_of_getElem? (i := 13) (by decide +kernel), List.mem_of_getElem? (i := 638) (by decide +kernel), List.mem_of_getElem? (i := 639) (by decide +kernel)⟩
theorem lw_p21 : lw_okq (⟨"PileShares", "dropSights", "()I"⟩, 13) := ⟨⟨by decide +kernel, by decide +kernel⟩, List.mem_of_getElem? (i := 13) (by decide +kernel), List.mem_of_getElem? (i := 646) (by decide +kernel), List.mem_of_getElem? (i := 647) (by decide +kernel)⟩
theorem lw_p22 : lw_okq (⟨"PileShares", "isSpot", "(I)Z"⟩, 13) := ⟨⟨by decide +kernel, by decide +kernel⟩, List.mem_of_getElem? (i := 13) (by decide +kernel), List.mem_of_getElem? (i := 662) (by decide +kernel), List.mem_of_getElem? (i := 663) (by decide +kernel)⟩
theorem lw_p23 : lw_okq (⟨"PileShares", "groupShares", "()V"⟩, 13) := ⟨⟨by decide +kernel, by decide +kernel⟩, List.mem_of_getElem? (i := 13) (by decide +kernel), List.mem_of_getElem? (i := 673) (by decide +kernel), List.mem_of_getElem? (i := 674) (by decide +kernel)⟩
theorem lw_p24 : lw_okq (⟨"PileShares", "pileWithSmallestLargestGroup", "()I"⟩, 13) := ⟨⟨by decide +kernel, by decide +kernel⟩, List.mem_of_getElem? (i := 13) (by decide +kernel), List.mem_of_getElem? (i := 678) (by decide +kernel), List.mem_of_getElem? (i := 679) (by decide +kernel)⟩
theorem lw_p25 : lw_okq (⟨"PileSharesModel", "next", "()V"⟩, 41) := ⟨⟨by decide +kernel, by decide +kernel⟩, List.mem_of_getElem? (i := 697) (by decide +kernel), List.mem_of_getElem? (i := 842) (by decide +kernel), List.mem_of_getElem? (i := 843) (by decide +kernel)⟩
theorem lw_p26 : lw_okq (⟨"PileSharesModel", "isFigure", "()Z"⟩, 41) := ⟨⟨by decide +kernel, by decide +kernel⟩, List.mem_of_getElem? (i := 697) (by decide +kernel), List.mem_of_getElem? (i := 846) (by decide +kernel), List.mem_of_getElem? (i := 847) (by decide +kernel)⟩
theorem lw_p27 : lw_okq (⟨"PileSharesModel", "readsPile", "()V"⟩, 41) := ⟨⟨by decide +kernel, by decide +kernel⟩, List.mem_of_getElem? (i := 697) (by decide +kernel), List.mem_of_getElem? (i := 850) (by decide +kernel), List.mem_of_getElem? (i := 851) (by decide +kernel)⟩
theorem lw_p28 : lw_okq (⟨"PileSharesModel", "due", "(Z)V"⟩, 41) := ⟨⟨by decide +kernel, by decide +kernel⟩, List.mem_of_getElem? (i := 697) (by decide +kernel), List.mem_of_getElem? (i := 854) (by decide +kernel), List.mem_of_getElem? (i := 855) (by decide +kernel)⟩
theorem lw_p29 : lw_okq (⟨"PileSharesModel", "reads", "(IIII)V"⟩, 41) := ⟨⟨by decide +kernel, by decide +kernel⟩, List.mem_of_getElem? (i := 697) (by decide +kernel), List.mem_of_getElem? (i := 858) (by decide +kernel), List.mem_of_getElem? (i := 859) (by decide +kernel)⟩
theorem lw_p30 : lw_okq (⟨"PileSharesModel", "isTakenByDraft", "(II)Z"⟩, 41) := ⟨⟨by decide +kernel, by decide +kernel⟩, List.mem_of_getElem? (i := 697) (by decide +kernel), List.mem_of_getElem? (i := 862) (by decide +kernel), List.mem_of_getElem? (i := 863) (by decide +kernel)⟩
theorem lw_p31 : lw_okq (⟨"PileSharesModel", "readsColumn", "()V"⟩, 41) := ⟨⟨by decide +kernel, by decide +kernel⟩, List.mem_of_getElem? (i := 697) (by decide +kernel), List.mem_of_getElem? (i := 866) (by decide +kernel), List.mem_of_getElem? (i := 867) (by decide +kernel)⟩
def lw_privs_2 : List (MethodName × Nat) := [(⟨"PileShares$Distribution", "mostPressedOfReleased", "()I"⟩, 15), (⟨"PileShares$Distribution", "findMostUsed", "()V"⟩, 15), (⟨"PileShares", "greatestUse", "(I)J"⟩, 13), (⟨"PileShares", "bracePresent", "()Z"⟩, 13), (⟨"PileShares", "standsOn", "(I)Z"⟩, 13), (⟨"PileShares", "dropSights", "()I"⟩, 13), (⟨"PileShares", "isSpot", "(I)Z"⟩, 13), (⟨"PileShares", "groupShares", "()V"⟩, 13), (⟨"PileShares", "pileWithSmallestLargestGroup", "()I"⟩, 13), (⟨"PileSharesModel", "next", "()V"⟩, 41), (⟨"PileSharesModel", "isFigure", "()Z"⟩, 41), (⟨"PileSharesModel", "readsPile", "()V"⟩, 41), (⟨"PileSharesModel", "due", "(Z)V"⟩, 41), (⟨"PileSharesModel", "reads", "(IIII)V"⟩, 41), (⟨"PileSharesModel", "isTakenByDraft", "(II)Z"⟩, 41), (⟨"PileSharesModel", "readsColumn", "()V"⟩, 41)]
theorem lw_r2 : ∀ q ∈ lw_privs_2, lw_okq q := List.forall_mem_cons.mpr ⟨lw_p16, List.forall_mem_cons.mpr ⟨lw_p17, List.forall_mem_cons.mpr ⟨lw_p18, List.forall_mem_cons.mpr ⟨lw_p19, List.forall_mem_cons.mpr ⟨lw_p20, List.forall_mem_cons.mpr ⟨lw_p21, List.forall_mem_cons.mpr ⟨lw_p22, List.forall_mem_cons.mpr ⟨lw_p23, List.forall_mem_cons.mpr ⟨lw_p24, List.forall_mem_cons.mpr ⟨lw_p25, List.forall_mem_cons.mpr ⟨lw_p26, List.forall_mem_cons.mpr ⟨lw_p27, List.forall_mem_cons.mpr ⟨lw_p28, List.forall_mem_cons.mpr ⟨lw_p29, List.forall_mem_cons.mpr ⟨lw_p30, List.forall_mem_cons.mpr ⟨lw_p31, fun _ h => absurd h List.not_mem_nil⟩⟩⟩⟩⟩⟩⟩⟩⟩⟩⟩⟩⟩⟩⟩⟩
theorem lw_p32 : lw_okq (⟨"PileSharesModel", "readsWind", "()V"⟩, 41) := ⟨⟨by decide +kernel, by decide +kernel⟩, List.mem_of_getElem? (i := 697) (by decide +kernel), List.mem_of_getElem? (i := 870) (by decide +kernel), List.mem_of_getElem? (i := 871) (by decide +kernel)⟩
theorem lw_p33 : lw_okq (⟨"PileSharesModel", "isTaken", "(II)Z"⟩, 41) := ⟨⟨by decide +kernel, by decide +kernel⟩, List.mem_of_getElem? (i := 697) (by decide +kernel), List.mem_of_getElem? (i := 884) (by decide +kernel), List.mem_of_getElem? (i := 885) (by decide +kernel)⟩
theorem lw_p34 : lw_okq (⟨"PileSharesModel", "ofPile", "(II)I"⟩, 41) := ⟨⟨by decide +kernel, by decide +kernel⟩, List.mem_of_getElem? (i := 697) (by decide +kernel), List.mem_of_getElem? (i := 888) (by decide +kernel), List.mem_of_getElem? (i := 889) (by decide +kernel)⟩
theorem lw_p35 : lw_okq (⟨"PileSharesModel", "notes", "()V"⟩, 41) := ⟨⟨by decide +kernel, by decide +kernel⟩, List.mem_of_getElem? (i := 697) (by decide +kernel), List.mem_of_getElem? (i := 892) (by decide +kernel), List.mem_of_getElem? (i := 893) (by decide +kernel)⟩
theorem lw_p36 : lw_okq (⟨"PileSharesModel", "becomes", "(II)I"⟩, 41) := ⟨⟨by decide +kernel, by decide +kernel⟩, List.mem_of_getElem? (i := 697) (by decide +kernel), List.mem_of_getElem? (i := 900) (by decide +kernel), List.mem_of_getElem? (i := 901) (by decide +kernel)⟩
theorem lw_p37 : lw_okq (⟨"PileSharesModel", "isPile", "(I)Z"⟩, 41) := ⟨⟨by decide +kernel, by decide +kernel⟩, List.mem_of_getElem? (i := 697) (by decide +kernel), List.mem_of_getElem? (i := 904) (by decide +kernel), List.mem_of_getElem? (i := 905) (by decide +kernel)⟩
theorem lw_p38 : lw_okq (⟨"PileSharesModel", "wholes", "()I"⟩, 41) := ⟨⟨by decide +kernel, by decide +kernel⟩, List.mem_of_getElem? (i := 697) (by decide +kernel), List.mem_of_getElem? (i := 908) (by decide +kernel), List.mem_of_getElem? (i := 909) (by decide +kernel)⟩
theorem lw_p39 : lw_okq (⟨"PileSharesModel", "isColumn", "(I)Z"⟩, 41) := ⟨⟨by decide +kernel, by decide +kernel⟩, List.mem_of_getElem? (i := 697) (by decide +kernel), List.mem_of_getElem? (i := 920) (by decide +kernel), List.mem_of_getElem? (i := 921) (by decide +kernel)⟩
theorem lw_p40 : lw_okq (⟨"PileSharesModel", "ofColumn", "(II)I"⟩, 41) := ⟨⟨by decide +kernel, by decide +kernel⟩, List.mem_of_getElem? (i := 697) (by decide +kernel), List.mem_of_getElem? (i := 924) (by decide +kernel), List.mem_of_getElem? (i := 925) (by decide +kernel)⟩
theorem lw_p41 : lw_okq (⟨"PileSharesModel", "sharesNow", "()V"⟩, 41) := ⟨⟨by decide +kernel, by decide +kernel⟩, List.mem_of_getElem? (i := 697) (by decide +kernel), List.mem_of_getElem? (i := 945) (by decide +kernel), List.mem_of_getElem? (i := 946) (by decide +kernel)⟩
theorem lw_p42 : lw_okq (⟨"PileSharesModel", "laysPiles", "()V"⟩, 41) := ⟨⟨by decide +kernel, by decide +kernel⟩, List.mem_of_getElem? (i := 697) (by decide +kernel), List.mem_of_getElem? (i := 949) (by decide +kernel), List.mem_of_getElem? (i := 950) (by decide +kernel)⟩
theorem lw_p43 : lw_okq (⟨"PileSharesModel", "laysSums", "()V"⟩, 41) := ⟨⟨by decide +kernel, by decide +kernel⟩, List.mem_of_getElem? (i := 697) (by decide +kernel), List.mem_of_getElem? (i := 953) (by decide +kernel), List.mem_of_getElem? (i := 954) (by decide +kernel)⟩
theorem lw_p44 : lw_okq (⟨"PileSharesModel", "sumOf", "(I)J"⟩, 41) := ⟨⟨by decide +kernel, by decide +kernel⟩, List.mem_of_getElem? (i := 697) (by decide +kernel), List.mem_of_getElem? (i := 957) (by decide +kernel), List.mem_of_getElem? (i := 958) (by decide +kernel)⟩
theorem lw_p45 : lw_okq (⟨"PileSharesModel", "shares", "()V"⟩, 41) := ⟨⟨by decide +kernel, by decide +kernel⟩, List.mem_of_getElem? (i := 697) (by decide +kernel), List.mem_of_getElem? (i := 961) (by decide +kernel), List.mem_of_getElem? (i := 962) (by decide +kernel)⟩
theorem lw_p46 : lw_okq (⟨"PileSharesModel", "isSteady", "(I)Z"⟩, 41) := ⟨⟨by decide +kernel, by decide +kernel⟩, List.mem_of_getElem? (i := 697) (by decide +kernel), List.mem_of_getElem? (i := 965) (by decide +kernel), List.mem_of_getElem? (i := 966) (by decide +kernel)⟩
theorem lw_p47 : lw_okq (⟨"PileSharesModel", "goesOut", "()I"⟩, 41) := ⟨⟨by decide +kernel, by decide +kernel⟩, List.mem_of_getElem? (i := 697) (by decide +kernel), List.mem_of_getElem? (i := 972) (by decide +kernel), List.mem_of_getElem? (i := 973) (by decide +kernel)⟩
def lw_privs_3 : List (MethodName × Nat) := [(⟨"PileSharesModel", "readsWind", "()V"⟩, 41), (⟨"PileSharesModel", "isTaken", "(II)Z"⟩, 41), (⟨"PileSharesModel", "ofPile", "(II)I"⟩, 41), (⟨"PileSharesModel", "notes", "()V"⟩, 41), (⟨"PileSharesModel", "becomes", "(II)I"⟩, 41), (⟨"PileSharesModel", "isPile", "(I)Z"⟩, 41), (⟨"PileSharesModel", "wholes", "()I"⟩, 41), (⟨"PileSharesModel", "isColumn", "(I)Z"⟩, 41), (⟨"PileSharesModel", "ofColumn", "(II)I"⟩, 41), (⟨"PileSharesModel", "sharesNow", "()V"⟩, 41), (⟨"PileSharesModel", "laysPiles", "()V"⟩, 41), (⟨"PileSharesModel", "laysSums", "()V"⟩, 41), (⟨"PileSharesModel", "sumOf", "(I)J"⟩, 41), (⟨"PileSharesModel", "shares", "()V"⟩, 41), (⟨"PileSharesModel", "isSteady", "(I)Z"⟩, 41), (⟨"PileSharesModel", "goesOut", "()I"⟩, 41)]
theorem lw_r3 : ∀ q ∈ lw_privs_3, lw_okq q := List.forall_mem_cons.mpr ⟨lw_p32, List.forall_mem_cons.mpr ⟨lw_p33, List.forall_mem_cons.mpr ⟨lw_p34, List.forall_mem_cons.mpr ⟨lw_p35, List.forall_mem_cons.mpr ⟨lw_p36, List.forall_mem_cons.mpr ⟨lw_p37, List.forall_mem_cons.mpr ⟨lw_p38, List.forall_mem_cons.mpr ⟨lw_p39, List.forall_mem_cons.mpr ⟨lw_p40, List.forall_mem_cons.mpr ⟨lw_p41, List.forall_mem_cons.mpr ⟨lw_p42, List.forall_mem_cons.mpr ⟨lw_p43, List.forall_mem_cons.mpr ⟨lw_p44, List.forall_mem_cons.mpr ⟨lw_p45, List.forall_mem_cons.mpr ⟨lw_p46, List.forall_mem_cons.mpr ⟨lw_p47, fun _ h => absurd h List.not_mem_nil⟩⟩⟩⟩⟩⟩⟩⟩⟩⟩⟩⟩⟩⟩⟩⟩
theorem lw_p48 : lw_okq (⟨"PileSharesModel", "bears", "(I)J"⟩, 41) := ⟨⟨by decide +kernel, by decide +kernel⟩, List.mem_of_getElem? (i := 697) (by decide +kernel), List.mem_of_getElem? (i := 976) (by decide +kernel), List.mem_of_getElem? (i := 977) (by decide +kernel)⟩
theorem lw_p49 : lw_okq (⟨"PileSharesModel", "pressAt", "(II)J"⟩, 41) := ⟨⟨by decide +kernel, by decide +kernel⟩, List.mem_of_getElem? (i := 697) (by decide +kernel), List.mem_of_getElem? (i := 980) (by decide +kernel), List.mem_of_getElem? (i := 981) (by decide +kernel)⟩
theorem lw_p50 : lw_okq (⟨"PileSharesModel", "comesIn", "()I"⟩, 41) := ⟨⟨by decide +kernel, by decide +kernel⟩, List.mem_of_getElem? (i := 697) (by decide +kernel), List.mem_of_getElem? (i := 984) (by decide +kernel), List.mem_of_getElem? (i := 985) (by decide +kernel)⟩
theorem lw_p51 : lw_okq (⟨"PileSharesModel", "laysMost", "()Z"⟩, 41) := ⟨⟨by decide +kernel, by decide +kernel⟩, List.mem_of_getElem? (i := 697) (by decide +kernel), List.mem_of_getElem? (i := 1021) (by decide +kernel), List.mem_of_getElem? (i := 1022) (by decide +kernel)⟩
theorem lw_p52 : lw_okq (⟨"PileSharesModel", "tellsMost", "(I)J"⟩, 41) := ⟨⟨by decide +kernel, by decide +kernel⟩, List.mem_of_getElem? (i := 697) (by decide +kernel), List.mem_of_getElem? (i := 1025) (by decide +kernel), List.mem_of_getElem? (i := 1026) (by decide +kernel)⟩
theorem lw_p53 : lw_okq (⟨"PileSharesModel", "isKern", "(II)I"⟩, 41) := ⟨⟨by decide +kernel, by decide +kernel⟩, List.mem_of_getElem? (i := 697) (by decide +kernel), List.mem_of_getElem? (i := 1037) (by decide +kernel), List.mem_of_getElem? (i := 1038) (by decide +kernel)⟩
theorem lw_p54 : lw_okq (⟨"PileSharesModel", "laysLoad", "(III)V"⟩, 41) := ⟨⟨by decide +kernel, by decide +kernel⟩, List.mem_of_getElem? (i := 697) (by decide +kernel), List.mem_of_getElem? (i := 1041) (by decide +kernel), List.mem_of_getElem? (i := 1042) (by decide +kernel)⟩
theorem lw_p55 : lw_okq (⟨"PileSharesModel", "laysWithout", "(I)Z"⟩, 41) := ⟨⟨by decide +kernel, by decide +kernel⟩, List.mem_of_getElem? (i := 697) (by decide +kernel), List.mem_of_getElem? (i := 1054) (by decide +kernel), List.mem_of_getElem? (i := 1055) (by decide +kernel)⟩
theorem lw_p56 : lw_okq (⟨"PileSharesModel", "laysSpots", "()V"⟩, 41) := ⟨⟨by decide +kernel, by decide +kernel⟩, List.mem_of_getElem? (i := 697) (by decide +kernel), List.mem_of_getElem? (i := 1090) (by decide +kernel), List.mem_of_getElem? (i := 1091) (by decide +kernel)⟩
theorem lw_p57 : lw_okq (⟨"PileSharesModel", "isSo", "()Z"⟩, 41) := ⟨⟨by decide +kernel, by decide +kernel⟩, List.mem_of_getElem? (i := 697) (by decide +kernel), List.mem_of_getElem? (i := 1094) (by decide +kernel), List.mem_of_getElem? (i := 1095) (by decide +kernel)⟩
theorem lw_p58 : lw_okq (⟨"PileSharesModel", "mostAlike", "(I)I"⟩, 41) := ⟨⟨by decide +kernel, by decide +kernel⟩, List.mem_of_getElem? (i := 697) (by decide +kernel), List.mem_of_getElem? (i := 1102) (by decide +kernel), List.mem_of_getElem? (i := 1103) (by decide +kernel)⟩
def lw_privs_4 : List (MethodName × Nat) := [(⟨"PileSharesModel", "bears", "(I)J"⟩, 41), (⟨"PileSharesModel", "pressAt", "(II)J"⟩, 41), (⟨"PileSharesModel", "comesIn", "()I"⟩, 41), (⟨"PileSharesModel", "laysMost", "()Z"⟩, 41), (⟨"PileSharesModel", "tellsMost", "(I)J"⟩, 41), (⟨"PileSharesModel", "isKern", "(II)I"⟩, 41), (⟨"PileSharesModel", "laysLoad", "(III)V"⟩, 41), (⟨"PileSharesModel", "laysWithout", "(I)Z"⟩, 41), (⟨"PileSharesModel", "laysSpots", "()V"⟩, 41), (⟨"PileSharesModel", "isSo", "()Z"⟩, 41), (⟨"PileSharesModel", "mostAlike", "(I)I"⟩, 41)]
theorem lw_r4 : ∀ q ∈ lw_privs_4, lw_okq q := List.forall_mem_cons.mpr ⟨lw_p48, List.forall_mem_cons.mpr ⟨lw_p49, List.forall_mem_cons.mpr ⟨lw_p50, List.forall_mem_cons.mpr ⟨lw_p51, List.forall_mem_cons.mpr ⟨lw_p52, List.forall_mem_cons.mpr ⟨lw_p53, List.forall_mem_cons.mpr ⟨lw_p54, List.forall_mem_cons.mpr ⟨lw_p55, List.forall_mem_cons.mpr ⟨lw_p56, List.forall_mem_cons.mpr ⟨lw_p57, List.forall_mem_cons.mpr ⟨lw_p58, fun _ h => absurd h List.not_mem_nil⟩⟩⟩⟩⟩⟩⟩⟩⟩⟩⟩
def lw_privs : List (MethodName × Nat) := lw_privs_1 ++ (lw_privs_2 ++ (lw_privs_3 ++ (lw_privs_4)))
def lw_tbl : List Cond := k2_sels lw_privs ++ tables_1
theorem lw_privs_ok : ∀ q ∈ lw_privs, lw_okq q := by
  show ∀ q ∈ lw_privs_1 ++ (lw_privs_2 ++ (lw_privs_3 ++ (lw_privs_4))), lw_okq q
  exact List.forall_mem_append.mpr ⟨lw_r1, List.forall_mem_append.mpr ⟨lw_r2, List.forall_mem_append.mpr ⟨lw_r3, lw_r4⟩⟩⟩

-- names
def RX0 : String := "PileShares$Distribution"
def TX0 : u_T := fun k => match k with
  | 0 => ("PileShares$Distribution", "x", "[I", true)
  | 1 => ("PileShares$Distribution", "y", "[I", true)
  | 2 => ("PileShares$Distribution", "stiff", "[I", true)
  | 3 => ("PileShares$Distribution", "can", "[I", true)
  | 4 => ("PileShares$Distribution", "piles", "I", false)
  | 5 => ("PileShares$Distribution", "w", "J", false)
  | 6 => ("PileShares$Distribution", "u", "J", false)
  | 7 => ("PileShares$Distribution", "v", "J", false)
  | 8 => ("PileShares$Distribution", "set", "I", false)
  | 9 => ("PileShares$Distribution", "active", "I", false)
  | 10 => ("PileShares$Distribution", "rounds", "I", false)
  | 11 => ("PileShares$Distribution", "settled", "Z", false)
  | 12 => ("PileShares$Distribution", "mostUsed", "I", false)
  | 13 => ("PileShares$Distribution", "whole", "LPileShares$Plane;", true)
  | _ => ("PileShares$Distribution", "plane", "LPileShares$Plane;", true)
def tyX0 : Nat → FieldType := fun k => match k with
  | 0 => .array .int
  | 1 => .array .int
  | 2 => .array .int
  | 3 => .array .int
  | 4 => .int
  | 5 => .long
  | 6 => .long
  | 7 => .long
  | 8 => .int
  | 9 => .int
  | 10 => .int
  | 11 => .boolean
  | 12 => .int
  | 13 => .object "PileShares$Plane"
  | _ => .object "PileShares$Plane"
abbrev wsX00 : List Cond := u_ws RX0 TX0 15
theorem nmX0 : ∀ a, a < 15 → ∀ b, b < 15 → a ≠ b → (TX0 a).2.1 ≠ (TX0 b).2.1 := by decide +kernel
theorem tyX0_ok : ∀ k, k < 15 → parseFieldDescriptor (TX0 k).2.2.1 = some (tyX0 k) := by decide +kernel
abbrev cX0_init : ByteArray := prog_2_method_1_code
def yX0_init : MethodName := ⟨RX0, "<init>", "()V"⟩
abbrev cX0_takePiles : ByteArray := prog_2_method_2_code
def yX0_takePiles : MethodName := ⟨RX0, "takePiles", "(LPileShares$Structure;)V"⟩
abbrev cX0_bear : ByteArray := prog_2_method_3_code
def yX0_bear : MethodName := ⟨RX0, "bear", "(JJJ)V"⟩
abbrev cX0_settleOn : ByteArray := prog_2_method_4_code
def yX0_settleOn : MethodName := ⟨RX0, "settleOn", "(I)V"⟩
abbrev cX0_beginWith : ByteArray := prog_2_method_5_code
def yX0_beginWith : MethodName := ⟨RX0, "beginWith", "(I)V"⟩
abbrev cX0_putFurther : ByteArray := prog_2_method_6_code
def yX0_putFurther : MethodName := ⟨RX0, "putFurther", "(IIII)V"⟩
abbrev cX0_takeFurtherAway : ByteArray := prog_2_method_7_code
def yX0_takeFurtherAway : MethodName := ⟨RX0, "takeFurtherAway", "()V"⟩
abbrev cX0_settle : ByteArray := prog_2_method_8_code
def yX0_settle : MethodName := ⟨RX0, "settle", "()V"⟩
abbrev cX0_anotherRoundFollows : ByteArray := prog_2_method_9_code
def yX0_anotherRoundFollows : MethodName := ⟨RX0, "anotherRoundFollows", "()Z"⟩
abbrev cX0_mostPulled : ByteArray := prog_2_method_10_code
def yX0_mostPulled : MethodName := ⟨RX0, "mostPulled", "()I"⟩
abbrev cX0_mostPressedOfReleased : ByteArray := prog_2_method_11_code
def yX0_mostPressedOfReleased : MethodName := ⟨RX0, "mostPressedOfReleased", "()I"⟩
abbrev cX0_findMostUsed : ByteArray := prog_2_method_12_code
def yX0_findMostUsed : MethodName := ⟨RX0, "findMostUsed", "()V"⟩
abbrev cX0_pullsNoPile : ByteArray := prog_2_method_13_code
def yX0_pullsNoPile : MethodName := ⟨RX0, "pullsNoPile", "(II)Z"⟩
abbrev cX0_braceAll : ByteArray := prog_2_method_14_code
def yX0_braceAll : MethodName := ⟨RX0, "braceAll", "(I)Z"⟩
abbrev cX0_isActive : ByteArray := prog_2_method_15_code
def yX0_isActive : MethodName := ⟨RX0, "isActive", "(I)Z"⟩
abbrev cX0_isSlot : ByteArray := prog_2_method_16_code
def yX0_isSlot : MethodName := ⟨RX0, "isSlot", "(I)Z"⟩
abbrev cX0_shareTop : ByteArray := prog_2_method_17_code
def yX0_shareTop : MethodName := ⟨RX0, "shareTop", "(I)J"⟩
abbrev cX0_bottom : ByteArray := prog_2_method_18_code
def yX0_bottom : MethodName := ⟨RX0, "bottom", "()J"⟩
abbrev cX0_shareDown : ByteArray := prog_2_method_19_code
def yX0_shareDown : MethodName := ⟨RX0, "shareDown", "(I)J"⟩
abbrev cX0_useTop : ByteArray := prog_2_method_20_code
def yX0_useTop : MethodName := ⟨RX0, "useTop", "()J"⟩
abbrev cX0_useBottom : ByteArray := prog_2_method_21_code
def yX0_useBottom : MethodName := ⟨RX0, "useBottom", "()J"⟩
def RX1 : String := "PileShares$Plane"
def TX1 : u_T := fun k => match k with
  | 0 => ("PileShares$Plane", "k", "J", false)
  | 1 => ("PileShares$Plane", "kx", "J", false)
  | 2 => ("PileShares$Plane", "ky", "J", false)
  | 3 => ("PileShares$Plane", "kxx", "J", false)
  | 4 => ("PileShares$Plane", "kxy", "J", false)
  | 5 => ("PileShares$Plane", "kyy", "J", false)
  | 6 => ("PileShares$Plane", "inverse00", "J", false)
  | 7 => ("PileShares$Plane", "inverse01", "J", false)
  | 8 => ("PileShares$Plane", "inverse02", "J", false)
  | 9 => ("PileShares$Plane", "inverse11", "J", false)
  | 10 => ("PileShares$Plane", "inverse12", "J", false)
  | 11 => ("PileShares$Plane", "inverse22", "J", false)
  | 12 => ("PileShares$Plane", "bottom", "J", false)
  | 13 => ("PileShares$Plane", "a", "J", false)
  | 14 => ("PileShares$Plane", "b", "J", false)
  | _ => ("PileShares$Plane", "c", "J", false)
def tyX1 : Nat → FieldType := fun k => match k with
  | 0 => .long
  | 1 => .long
  | 2 => .long
  | 3 => .long
  | 4 => .long
  | 5 => .long
  | 6 => .long
  | 7 => .long
  | 8 => .long
  | 9 => .long
  | 10 => .long
  | 11 => .long
  | 12 => .long
  | 13 => .long
  | 14 => .long
  | _ => .long
abbrev wsX10 : List Cond := u_ws RX1 TX1 16
theorem nmX1 : ∀ a, a < 16 → ∀ b, b < 16 → a ≠ b → (TX1 a).2.1 ≠ (TX1 b).2.1 := by decide +kernel
theorem tyX1_ok : ∀ k, k < 16 → parseFieldDescriptor (TX1 k).2.2.1 = some (tyX1 k) := by decide +kernel
abbrev cX1_init : ByteArray := prog_3_method_1_code
def yX1_init : MethodName := ⟨RX1, "<init>", "()V"⟩
abbrev cX1_empty : ByteArray := prog_3_method_2_code
def yX1_empty : MethodName := ⟨RX1, "empty", "()V"⟩
abbrev cX1_copySums : ByteArray := prog_3_method_3_code
def yX1_copySums : MethodName := ⟨RX1, "copySums", "(LPileShares$Plane;)V"⟩
abbrev cX1_put : ByteArray := prog_3_method_4_code
def yX1_put : MethodName := ⟨RX1, "put", "(III)V"⟩
abbrev cX1_brace : ByteArray := prog_3_method_5_code
def yX1_brace : MethodName := ⟨RX1, "brace", "()Z"⟩
abbrev cX1_tilt : ByteArray := prog_3_method_6_code
def yX1_tilt : MethodName := ⟨RX1, "tilt", "(JJJ)V"⟩
abbrev cX1_topAt : ByteArray := prog_3_method_7_code
def yX1_topAt : MethodName := ⟨RX1, "topAt", "(II)J"⟩
def RX2 : String := "PileShares$Script"
def TX2 : u_T := fun k => match k with
  | 0 => ("PileShares$Script", "letters", "[I", true)
  | 1 => ("PileShares$Script", "length", "I", false)
  | 2 => ("PileShares$Script", "at", "I", false)
  | 3 => ("PileShares$Script", "numberStart", "I", false)
  | 4 => ("PileShares$Script", "placeX", "I", false)
  | 5 => ("PileShares$Script", "placeY", "I", false)
  | _ => ("PileShares$Script", "windTold", "Z", false)
def tyX2 : Nat → FieldType := fun k => match k with
  | 0 => .array .int
  | 1 => .int
  | 2 => .int
  | 3 => .int
  | 4 => .int
  | 5 => .int
  | _ => .boolean
abbrev wsX20 : List Cond := u_ws RX2 TX2 7
theorem nmX2 : ∀ a, a < 7 → ∀ b, b < 7 → a ≠ b → (TX2 a).2.1 ≠ (TX2 b).2.1 := by decide +kernel
theorem tyX2_ok : ∀ k, k < 7 → parseFieldDescriptor (TX2 k).2.2.1 = some (tyX2 k) := by decide +kernel
abbrev cX2_init : ByteArray := prog_4_method_1_code
def yX2_init : MethodName := ⟨RX2, "<init>", "()V"⟩
abbrev cX2_append : ByteArray := prog_4_method_2_code
def yX2_append : MethodName := ⟨RX2, "append", "(I)Z"⟩
abbrev cX2_readInto : ByteArray := prog_4_method_3_code
def yX2_readInto : MethodName := ⟨RX2, "readInto", "(LPileShares$Structure;)I"⟩
abbrev cX2_readItem : ByteArray := prog_4_method_4_code
def yX2_readItem : MethodName := ⟨RX2, "readItem", "(LPileShares$Structure;)Z"⟩
abbrev cX2_readPile : ByteArray := prog_4_method_5_code
def yX2_readPile : MethodName := ⟨RX2, "readPile", "(LPileShares$Structure;)Z"⟩
abbrev cX2_readColumn : ByteArray := prog_4_method_6_code
def yX2_readColumn : MethodName := ⟨RX2, "readColumn", "(LPileShares$Structure;)Z"⟩
abbrev cX2_readPlace : ByteArray := prog_4_method_7_code
def yX2_readPlace : MethodName := ⟨RX2, "readPlace", "()Z"⟩
abbrev cX2_readWind : ByteArray := prog_4_method_8_code
def yX2_readWind : MethodName := ⟨RX2, "readWind", "(LPileShares$Structure;)Z"⟩
abbrev cX2_readNumber : ByteArray := prog_4_method_9_code
def yX2_readNumber : MethodName := ⟨RX2, "readNumber", "(II)I"⟩
abbrev cX2_readSemicolon : ByteArray := prog_4_method_10_code
def yX2_readSemicolon : MethodName := ⟨RX2, "readSemicolon", "()Z"⟩
abbrev cX2_skipBlanks : ByteArray := prog_4_method_11_code
def yX2_skipBlanks : MethodName := ⟨RX2, "skipBlanks", "()V"⟩
abbrev cX2_letterHere : ByteArray := prog_4_method_12_code
def yX2_letterHere : MethodName := ⟨RX2, "letterHere", "()I"⟩
abbrev cX2_isDigit : ByteArray := prog_4_method_13_code
def yX2_isDigit : MethodName := ⟨RX2, "isDigit", "(I)Z"⟩
def RX3 : String := "PileShares$Structure"
def TX3 : u_T := fun k => match k with
  | 0 => ("PileShares$Structure", "x", "[I", true)
  | 1 => ("PileShares$Structure", "y", "[I", true)
  | 2 => ("PileShares$Structure", "stiff", "[I", true)
  | 3 => ("PileShares$Structure", "can", "[I", true)
  | 4 => ("PileShares$Structure", "piles", "I", false)
  | 5 => ("PileShares$Structure", "intact", "I", false)
  | 6 => ("PileShares$Structure", "columnX", "[I", true)
  | 7 => ("PileShares$Structure", "columnY", "[I", true)
  | 8 => ("PileShares$Structure", "load", "[I", true)
  | 9 => ("PileShares$Structure", "columns", "I", false)
  | 10 => ("PileShares$Structure", "windX", "I", false)
  | _ => ("PileShares$Structure", "windY", "I", false)
def tyX3 : Nat → FieldType := fun k => match k with
  | 0 => .array .int
  | 1 => .array .int
  | 2 => .array .int
  | 3 => .array .int
  | 4 => .int
  | 5 => .int
  | 6 => .array .int
  | 7 => .array .int
  | 8 => .array .int
  | 9 => .int
  | 10 => .int
  | _ => .int
abbrev wsX30 : List Cond := u_ws RX3 TX3 12
theorem nmX3 : ∀ a, a < 12 → ∀ b, b < 12 → a ≠ b → (TX3 a).2.1 ≠ (TX3 b).2.1 := by decide +kernel
theorem tyX3_ok : ∀ k, k < 12 → parseFieldDescriptor (TX3 k).2.2.1 = some (tyX3 k) := by decide +kernel
abbrev cX3_init : ByteArray := prog_5_method_1_code
def yX3_init : MethodName := ⟨RX3, "<init>", "()V"⟩
abbrev cX3_empty : ByteArray := prog_5_method_2_code
def yX3_empty : MethodName := ⟨RX3, "empty", "()V"⟩
abbrev cX3_copy : ByteArray := prog_5_method_3_code
def yX3_copy : MethodName := ⟨RX3, "copy", "(LPileShares$Structure;LPileShares$Structure;)V"⟩
abbrev cX3_hasPileAt : ByteArray := prog_5_method_4_code
def yX3_hasPileAt : MethodName := ⟨RX3, "hasPileAt", "(II)Z"⟩
abbrev cX3_isIntact : ByteArray := prog_5_method_5_code
def yX3_isIntact : MethodName := ⟨RX3, "isIntact", "(I)Z"⟩
abbrev cX3_addPile : ByteArray := prog_5_method_6_code
def yX3_addPile : MethodName := ⟨RX3, "addPile", "(IIII)V"⟩
abbrev cX3_addColumn : ByteArray := prog_5_method_7_code
def yX3_addColumn : MethodName := ⟨RX3, "addColumn", "(III)V"⟩
abbrev cX3_weight : ByteArray := prog_5_method_8_code
def yX3_weight : MethodName := ⟨RX3, "weight", "()I"⟩
abbrev cX3_momentX : ByteArray := prog_5_method_9_code
def yX3_momentX : MethodName := ⟨RX3, "momentX", "()I"⟩
abbrev cX3_momentY : ByteArray := prog_5_method_10_code
def yX3_momentY : MethodName := ⟨RX3, "momentY", "()I"⟩
def RX4 : String := "PileShares"
def TX4 : u_T := fun k => match k with
  | 0 => ("PileShares", "now", "LPileShares$Structure;", true)
  | 1 => ("PileShares", "told", "LPileShares$Structure;", true)
  | 2 => ("PileShares", "script", "LPileShares$Script;", true)
  | 3 => ("PileShares", "past", "[LPileShares$Structure;", true)
  | 4 => ("PileShares", "recorded", "I", false)
  | 5 => ("PileShares", "images", "[LPileShares$Structure;", true)
  | 6 => ("PileShares", "kept", "[Z", true)
  | 7 => ("PileShares", "unknown", "I", false)
  | 8 => ("PileShares", "seenPile", "[I", true)
  | 9 => ("PileShares", "seenShare", "[I", true)
  | 10 => ("PileShares", "sights", "I", false)
  | 11 => ("PileShares", "groups", "[I", true)
  | _ => ("PileShares", "spread", "LPileShares$Distribution;", true)
def tyX4 : Nat → FieldType := fun k => match k with
  | 0 => .object "PileShares$Structure"
  | 1 => .object "PileShares$Structure"
  | 2 => .object "PileShares$Script"
  | 3 => .array (.object "PileShares$Structure")
  | 4 => .int
  | 5 => .array (.object "PileShares$Structure")
  | 6 => .array .boolean
  | 7 => .int
  | 8 => .array .int
  | 9 => .array .int
  | 10 => .int
  | 11 => .array .int
  | _ => .object "PileShares$Distribution"
abbrev wsX40 : List Cond := u_ws RX4 TX4 13
theorem nmX4 : ∀ a, a < 13 → ∀ b, b < 13 → a ≠ b → (TX4 a).2.1 ≠ (TX4 b).2.1 := by decide +kernel
theorem tyX4_ok : ∀ k, k < 13 → parseFieldDescriptor (TX4 k).2.2.1 = some (tyX4 k) := by decide +kernel
abbrev cX4_init : ByteArray := prog_1_method_1_code
def yX4_init : MethodName := ⟨RX4, "<init>", "()V"⟩
abbrev cX4_type : ByteArray := prog_1_method_2_code
def yX4_type : MethodName := ⟨RX4, "type", "(I)I"⟩
abbrev cX4_clear : ByteArray := prog_1_method_3_code
def yX4_clear : MethodName := ⟨RX4, "clear", "()I"⟩
abbrev cX4_tells : ByteArray := prog_1_method_4_code
def yX4_tells : MethodName := ⟨RX4, "tells", "()I"⟩
abbrev cX4_drives : ByteArray := prog_1_method_5_code
def yX4_drives : MethodName := ⟨RX4, "drives", "(IIII)I"⟩
abbrev cX4_loses : ByteArray := prog_1_method_6_code
def yX4_loses : MethodName := ⟨RX4, "loses", "(I)I"⟩
abbrev cX4_mends : ByteArray := prog_1_method_7_code
def yX4_mends : MethodName := ⟨RX4, "mends", "(I)I"⟩
abbrev cX4_loads : ByteArray := prog_1_method_8_code
def yX4_loads : MethodName := ⟨RX4, "loads", "(II)I"⟩
abbrev cX4_moves : ByteArray := prog_1_method_9_code
def yX4_moves : MethodName := ⟨RX4, "moves", "(III)I"⟩
abbrev cX4_winds : ByteArray := prog_1_method_10_code
def yX4_winds : MethodName := ⟨RX4, "winds", "(II)I"⟩
abbrev cX4_undo : ByteArray := prog_1_method_11_code
def yX4_undo : MethodName := ⟨RX4, "undo", "()I"⟩
abbrev cX4_pile : ByteArray := prog_1_method_12_code
def yX4_pile : MethodName := ⟨RX4, "pile", "(II)J"⟩
abbrev cX4_column : ByteArray := prog_1_method_13_code
def yX4_column : MethodName := ⟨RX4, "column", "(II)J"⟩
abbrev cX4_sum : ByteArray := prog_1_method_14_code
def yX4_sum : MethodName := ⟨RX4, "sum", "(I)J"⟩
abbrev cX4_sharing : ByteArray := prog_1_method_15_code
def yX4_sharing : MethodName := ⟨RX4, "sharing", "(I)I"⟩
abbrev cX4_share : ByteArray := prog_1_method_16_code
def yX4_share : MethodName := ⟨RX4, "share", "(II)J"⟩
abbrev cX4_press : ByteArray := prog_1_method_17_code
def yX4_press : MethodName := ⟨RX4, "press", "(III)J"⟩
abbrev cX4_most : ByteArray := prog_1_method_18_code
def yX4_most : MethodName := ⟨RX4, "most", "(I)J"⟩
abbrev cX4_factor : ByteArray := prog_1_method_19_code
def yX4_factor : MethodName := ⟨RX4, "factor", "(I)J"⟩
abbrev cX4_kern : ByteArray := prog_1_method_20_code
def yX4_kern : MethodName := ⟨RX4, "kern", "(II)I"⟩
abbrev cX4_kerns : ByteArray := prog_1_method_21_code
def yX4_kerns : MethodName := ⟨RX4, "kerns", "(I)I"⟩
abbrev cX4_without : ByteArray := prog_1_method_22_code
def yX4_without : MethodName := ⟨RX4, "without", "(II)J"⟩
abbrev cX4_key : ByteArray := prog_1_method_23_code
def yX4_key : MethodName := ⟨RX4, "key", "()I"⟩
abbrev cX4_extra : ByteArray := prog_1_method_24_code
def yX4_extra : MethodName := ⟨RX4, "extra", "(II)I"⟩
abbrev cX4_odds : ByteArray := prog_1_method_25_code
def yX4_odds : MethodName := ⟨RX4, "odds", "(II)I"⟩
abbrev cX4_hunts : ByteArray := prog_1_method_26_code
def yX4_hunts : MethodName := ⟨RX4, "hunts", "(I)I"⟩
abbrev cX4_sees : ByteArray := prog_1_method_27_code
def yX4_sees : MethodName := ⟨RX4, "sees", "(II)I"⟩
abbrev cX4_forget : ByteArray := prog_1_method_28_code
def yX4_forget : MethodName := ⟨RX4, "forget", "()I"⟩
abbrev cX4_spots : ByteArray := prog_1_method_29_code
def yX4_spots : MethodName := ⟨RX4, "spots", "(I)I"⟩
abbrev cX4_ask : ByteArray := prog_1_method_30_code
def yX4_ask : MethodName := ⟨RX4, "ask", "()I"⟩
abbrev cX4_keep : ByteArray := prog_1_method_31_code
def yX4_keep : MethodName := ⟨RX4, "keep", "(I)I"⟩
abbrev cX4_back : ByteArray := prog_1_method_32_code
def yX4_back : MethodName := ⟨RX4, "back", "(I)I"⟩
abbrev cX4_count : ByteArray := prog_1_method_33_code
def yX4_count : MethodName := ⟨RX4, "count", "(I)I"⟩
abbrev cX4_isPlace : ByteArray := prog_1_method_34_code
def yX4_isPlace : MethodName := ⟨RX4, "isPlace", "(II)Z"⟩
abbrev cX4_isPileKind : ByteArray := prog_1_method_35_code
def yX4_isPileKind : MethodName := ⟨RX4, "isPileKind", "(II)Z"⟩
abbrev cX4_isPile : ByteArray := prog_1_method_36_code
def yX4_isPile : MethodName := ⟨RX4, "isPile", "(I)Z"⟩
abbrev cX4_isColumn : ByteArray := prog_1_method_37_code
def yX4_isColumn : MethodName := ⟨RX4, "isColumn", "(I)Z"⟩
abbrev cX4_xOf : ByteArray := prog_1_method_38_code
def yX4_xOf : MethodName := ⟨RX4, "xOf", "(I)I"⟩
abbrev cX4_yOf : ByteArray := prog_1_method_39_code
def yX4_yOf : MethodName := ⟨RX4, "yOf", "(I)I"⟩
abbrev cX4_recordAction : ByteArray := prog_1_method_40_code
def yX4_recordAction : MethodName := ⟨RX4, "recordAction", "()V"⟩
abbrev cX4_dropSights : ByteArray := prog_1_method_41_code
def yX4_dropSights : MethodName := ⟨RX4, "dropSights", "()I"⟩
abbrev cX4_takePresent : ByteArray := prog_1_method_42_code
def yX4_takePresent : MethodName := ⟨RX4, "takePresent", "()V"⟩
abbrev cX4_spreadPresent : ByteArray := prog_1_method_43_code
def yX4_spreadPresent : MethodName := ⟨RX4, "spreadPresent", "()V"⟩
abbrev cX4_bracePresent : ByteArray := prog_1_method_44_code
def yX4_bracePresent : MethodName := ⟨RX4, "bracePresent", "()Z"⟩
abbrev cX4_greatestUse : ByteArray := prog_1_method_45_code
def yX4_greatestUse : MethodName := ⟨RX4, "greatestUse", "(I)J"⟩
abbrev cX4_standsOn : ByteArray := prog_1_method_46_code
def yX4_standsOn : MethodName := ⟨RX4, "standsOn", "(I)Z"⟩
abbrev cX4_isSpot : ByteArray := prog_1_method_47_code
def yX4_isSpot : MethodName := ⟨RX4, "isSpot", "(I)Z"⟩
abbrev cX4_groupShares : ByteArray := prog_1_method_48_code
def yX4_groupShares : MethodName := ⟨RX4, "groupShares", "()V"⟩
abbrev cX4_pileWithSmallestLargestGroup : ByteArray := prog_1_method_49_code
def yX4_pileWithSmallestLargestGroup : MethodName := ⟨RX4, "pileWithSmallestLargestGroup", "()I"⟩
abbrev cX4_power : ByteArray := prog_1_method_50_code
def yX4_power : MethodName := ⟨RX4, "power", "(II)I"⟩
abbrev cX4_inLowestTerms : ByteArray := prog_1_method_51_code
def yX4_inLowestTerms : MethodName := ⟨RX4, "inLowestTerms", "(JJI)J"⟩
abbrev cX4_commonDivisor : ByteArray := prog_1_method_52_code
def yX4_commonDivisor : MethodName := ⟨RX4, "commonDivisor", "(JJ)J"⟩
abbrev cX4_compareFractions : ByteArray := prog_1_method_53_code
def yX4_compareFractions : MethodName := ⟨RX4, "compareFractions", "(JJJJ)I"⟩
def RX5 : String := "PileSharesModel"
def TX5 : u_T := fun k => match k with
  | 0 => ("PileSharesModel", "s", "[I", true)
  | 1 => ("PileSharesModel", "past", "[I", true)
  | 2 => ("PileSharesModel", "undos", "I", false)
  | 3 => ("PileSharesModel", "kept", "[I", true)
  | 4 => ("PileSharesModel", "isKept", "[Z", true)
  | 5 => ("PileSharesModel", "hunted", "I", false)
  | 6 => ("PileSharesModel", "sight", "[I", true)
  | 7 => ("PileSharesModel", "sights", "I", false)
  | 8 => ("PileSharesModel", "text", "[I", true)
  | 9 => ("PileSharesModel", "typed", "I", false)
  | 10 => ("PileSharesModel", "at", "I", false)
  | 11 => ("PileSharesModel", "start", "I", false)
  | 12 => ("PileSharesModel", "token", "I", false)
  | 13 => ("PileSharesModel", "value", "I", false)
  | 14 => ("PileSharesModel", "fault", "I", false)
  | 15 => ("PileSharesModel", "draft", "[I", true)
  | 16 => ("PileSharesModel", "isBlown", "Z", false)
  | 17 => ("PileSharesModel", "px", "[I", true)
  | 18 => ("PileSharesModel", "py", "[I", true)
  | 19 => ("PileSharesModel", "pk", "[I", true)
  | 20 => ("PileSharesModel", "pc", "[I", true)
  | 21 => ("PileSharesModel", "many", "I", false)
  | 22 => ("PileSharesModel", "whole", "I", false)
  | 23 => ("PileSharesModel", "sumW", "J", false)
  | 24 => ("PileSharesModel", "sumU", "J", false)
  | 25 => ("PileSharesModel", "sumV", "J", false)
  | 26 => ("PileSharesModel", "inside", "I", false)
  | 27 => ("PileSharesModel", "rounds", "I", false)
  | 28 => ("PileSharesModel", "isSettled", "Z", false)
  | 29 => ("PileSharesModel", "all", "J", false)
  | 30 => ("PileSharesModel", "da", "J", false)
  | 31 => ("PileSharesModel", "db", "J", false)
  | 32 => ("PileSharesModel", "dc", "J", false)
  | 33 => ("PileSharesModel", "useUp", "J", false)
  | 34 => ("PileSharesModel", "useDown", "J", false)
  | 35 => ("PileSharesModel", "used", "I", false)
  | 36 => ("PileSharesModel", "isSpot", "[Z", true)
  | 37 => ("PileSharesModel", "borne", "[I", true)
  | 38 => ("PileSharesModel", "spots", "I", false)
  | 39 => ("PileSharesModel", "firstSpot", "I", false)
  | _ => ("PileSharesModel", "alike", "[I", true)
def tyX5 : Nat → FieldType := fun k => match k with
  | 0 => .array .int
  | 1 => .array .int
  | 2 => .int
  | 3 => .array .int
  | 4 => .array .boolean
  | 5 => .int
  | 6 => .array .int
  | 7 => .int
  | 8 => .array .int
  | 9 => .int
  | 10 => .int
  | 11 => .int
  | 12 => .int
  | 13 => .int
  | 14 => .int
  | 15 => .array .int
  | 16 => .boolean
  | 17 => .array .int
  | 18 => .array .int
  | 19 => .array .int
  | 20 => .array .int
  | 21 => .int
  | 22 => .int
  | 23 => .long
  | 24 => .long
  | 25 => .long
  | 26 => .int
  | 27 => .int
  | 28 => .boolean
  | 29 => .long
  | 30 => .long
  | 31 => .long
  | 32 => .long
  | 33 => .long
  | 34 => .long
  | 35 => .int
  | 36 => .array .boolean
  | 37 => .array .int
  | 38 => .int
  | 39 => .int
  | _ => .array .int
abbrev wsX50 : List Cond := u_ws RX5 TX5 41
theorem nmX5 : ∀ a, a < 41 → ∀ b, b < 41 → a ≠ b → (TX5 a).2.1 ≠ (TX5 b).2.1 := by decide +kernel
theorem tyX5_ok : ∀ k, k < 41 → parseFieldDescriptor (TX5 k).2.2.1 = some (tyX5 k) := by decide +kernel
abbrev cX5_init : ByteArray := prog_7_method_1_code
def yX5_init : MethodName := ⟨RX5, "<init>", "()V"⟩
abbrev cX5_in : ByteArray := prog_7_method_2_code
def yX5_in : MethodName := ⟨RX5, "in", "(III)Z"⟩
abbrev cX5_ofPile : ByteArray := prog_7_method_3_code
def yX5_ofPile : MethodName := ⟨RX5, "ofPile", "(II)I"⟩
abbrev cX5_ofColumn : ByteArray := prog_7_method_4_code
def yX5_ofColumn : MethodName := ⟨RX5, "ofColumn", "(II)I"⟩
abbrev cX5_isPile : ByteArray := prog_7_method_5_code
def yX5_isPile : MethodName := ⟨RX5, "isPile", "(I)Z"⟩
abbrev cX5_isColumn : ByteArray := prog_7_method_6_code
def yX5_isColumn : MethodName := ⟨RX5, "isColumn", "(I)Z"⟩
abbrev cX5_isPlace : ByteArray := prog_7_method_7_code
def yX5_isPlace : MethodName := ⟨RX5, "isPlace", "(II)Z"⟩
abbrev cX5_type : ByteArray := prog_7_method_8_code
def yX5_type : MethodName := ⟨RX5, "type", "(I)I"⟩
abbrev cX5_clear : ByteArray := prog_7_method_9_code
def yX5_clear : MethodName := ⟨RX5, "clear", "()I"⟩
abbrev cX5_isFigure : ByteArray := prog_7_method_10_code
def yX5_isFigure : MethodName := ⟨RX5, "isFigure", "()Z"⟩
abbrev cX5_next : ByteArray := prog_7_method_11_code
def yX5_next : MethodName := ⟨RX5, "next", "()V"⟩
abbrev cX5_due : ByteArray := prog_7_method_12_code
def yX5_due : MethodName := ⟨RX5, "due", "(Z)V"⟩
abbrev cX5_reads : ByteArray := prog_7_method_13_code
def yX5_reads : MethodName := ⟨RX5, "reads", "(IIII)V"⟩
abbrev cX5_isTakenByDraft : ByteArray := prog_7_method_14_code
def yX5_isTakenByDraft : MethodName := ⟨RX5, "isTakenByDraft", "(II)Z"⟩
abbrev cX5_readsPile : ByteArray := prog_7_method_15_code
def yX5_readsPile : MethodName := ⟨RX5, "readsPile", "()V"⟩
abbrev cX5_readsColumn : ByteArray := prog_7_method_16_code
def yX5_readsColumn : MethodName := ⟨RX5, "readsColumn", "()V"⟩
abbrev cX5_readsWind : ByteArray := prog_7_method_17_code
def yX5_readsWind : MethodName := ⟨RX5, "readsWind", "()V"⟩
abbrev cX5_tells : ByteArray := prog_7_method_18_code
def yX5_tells : MethodName := ⟨RX5, "tells", "()I"⟩
abbrev cX5_notes : ByteArray := prog_7_method_19_code
def yX5_notes : MethodName := ⟨RX5, "notes", "()V"⟩
abbrev cX5_isTaken : ByteArray := prog_7_method_20_code
def yX5_isTaken : MethodName := ⟨RX5, "isTaken", "(II)Z"⟩
abbrev cX5_isKind : ByteArray := prog_7_method_21_code
def yX5_isKind : MethodName := ⟨RX5, "isKind", "(II)Z"⟩
abbrev cX5_drives : ByteArray := prog_7_method_22_code
def yX5_drives : MethodName := ⟨RX5, "drives", "(IIII)I"⟩
abbrev cX5_wholes : ByteArray := prog_7_method_23_code
def yX5_wholes : MethodName := ⟨RX5, "wholes", "()I"⟩
abbrev cX5_becomes : ByteArray := prog_7_method_24_code
def yX5_becomes : MethodName := ⟨RX5, "becomes", "(II)I"⟩
abbrev cX5_loses : ByteArray := prog_7_method_25_code
def yX5_loses : MethodName := ⟨RX5, "loses", "(I)I"⟩
abbrev cX5_mends : ByteArray := prog_7_method_26_code
def yX5_mends : MethodName := ⟨RX5, "mends", "(I)I"⟩
abbrev cX5_loads : ByteArray := prog_7_method_27_code
def yX5_loads : MethodName := ⟨RX5, "loads", "(II)I"⟩
abbrev cX5_moves : ByteArray := prog_7_method_28_code
def yX5_moves : MethodName := ⟨RX5, "moves", "(III)I"⟩
abbrev cX5_winds : ByteArray := prog_7_method_29_code
def yX5_winds : MethodName := ⟨RX5, "winds", "(II)I"⟩
abbrev cX5_undo : ByteArray := prog_7_method_30_code
def yX5_undo : MethodName := ⟨RX5, "undo", "()I"⟩
abbrev cX5_laysPiles : ByteArray := prog_7_method_31_code
def yX5_laysPiles : MethodName := ⟨RX5, "laysPiles", "()V"⟩
abbrev cX5_sumOf : ByteArray := prog_7_method_32_code
def yX5_sumOf : MethodName := ⟨RX5, "sumOf", "(I)J"⟩
abbrev cX5_laysSums : ByteArray := prog_7_method_33_code
def yX5_laysSums : MethodName := ⟨RX5, "laysSums", "()V"⟩
abbrev cX5_laysLoad : ByteArray := prog_7_method_34_code
def yX5_laysLoad : MethodName := ⟨RX5, "laysLoad", "(III)V"⟩
abbrev cX5_det : ByteArray := prog_7_method_35_code
def yX5_det : MethodName := ⟨RX5, "det", "(JJJJJJJJJ)J"⟩
abbrev cX5_isSteady : ByteArray := prog_7_method_36_code
def yX5_isSteady : MethodName := ⟨RX5, "isSteady", "(I)Z"⟩
abbrev cX5_pressAt : ByteArray := prog_7_method_37_code
def yX5_pressAt : MethodName := ⟨RX5, "pressAt", "(II)J"⟩
abbrev cX5_bears : ByteArray := prog_7_method_38_code
def yX5_bears : MethodName := ⟨RX5, "bears", "(I)J"⟩
abbrev cX5_goesOut : ByteArray := prog_7_method_39_code
def yX5_goesOut : MethodName := ⟨RX5, "goesOut", "()I"⟩
abbrev cX5_comesIn : ByteArray := prog_7_method_40_code
def yX5_comesIn : MethodName := ⟨RX5, "comesIn", "()I"⟩
abbrev cX5_shares : ByteArray := prog_7_method_41_code
def yX5_shares : MethodName := ⟨RX5, "shares", "()V"⟩
abbrev cX5_sharesNow : ByteArray := prog_7_method_42_code
def yX5_sharesNow : MethodName := ⟨RX5, "sharesNow", "()V"⟩
abbrev cX5_common : ByteArray := prog_7_method_43_code
def yX5_common : MethodName := ⟨RX5, "common", "(JJ)J"⟩
abbrev cX5_part : ByteArray := prog_7_method_44_code
def yX5_part : MethodName := ⟨RX5, "part", "(JJI)J"⟩
abbrev cX5_against : ByteArray := prog_7_method_45_code
def yX5_against : MethodName := ⟨RX5, "against", "(JJJJ)I"⟩
abbrev cX5_laysMost : ByteArray := prog_7_method_46_code
def yX5_laysMost : MethodName := ⟨RX5, "laysMost", "()Z"⟩
abbrev cX5_tellsMost : ByteArray := prog_7_method_47_code
def yX5_tellsMost : MethodName := ⟨RX5, "tellsMost", "(I)J"⟩
abbrev cX5_pile : ByteArray := prog_7_method_48_code
def yX5_pile : MethodName := ⟨RX5, "pile", "(II)J"⟩
abbrev cX5_column : ByteArray := prog_7_method_49_code
def yX5_column : MethodName := ⟨RX5, "column", "(II)J"⟩
abbrev cX5_sum : ByteArray := prog_7_method_50_code
def yX5_sum : MethodName := ⟨RX5, "sum", "(I)J"⟩
abbrev cX5_sharing : ByteArray := prog_7_method_51_code
def yX5_sharing : MethodName := ⟨RX5, "sharing", "(I)I"⟩
abbrev cX5_share : ByteArray := prog_7_method_52_code
def yX5_share : MethodName := ⟨RX5, "share", "(II)J"⟩
abbrev cX5_press : ByteArray := prog_7_method_53_code
def yX5_press : MethodName := ⟨RX5, "press", "(III)J"⟩
abbrev cX5_most : ByteArray := prog_7_method_54_code
def yX5_most : MethodName := ⟨RX5, "most", "(I)J"⟩
abbrev cX5_factor : ByteArray := prog_7_method_55_code
def yX5_factor : MethodName := ⟨RX5, "factor", "(I)J"⟩
abbrev cX5_isKern : ByteArray := prog_7_method_56_code
def yX5_isKern : MethodName := ⟨RX5, "isKern", "(II)I"⟩
abbrev cX5_kern : ByteArray := prog_7_method_57_code
def yX5_kern : MethodName := ⟨RX5, "kern", "(II)I"⟩
abbrev cX5_kerns : ByteArray := prog_7_method_58_code
def yX5_kerns : MethodName := ⟨RX5, "kerns", "(I)I"⟩
abbrev cX5_laysWithout : ByteArray := prog_7_method_59_code
def yX5_laysWithout : MethodName := ⟨RX5, "laysWithout", "(I)Z"⟩
abbrev cX5_without : ByteArray := prog_7_method_60_code
def yX5_without : MethodName := ⟨RX5, "without", "(II)J"⟩
abbrev cX5_key : ByteArray := prog_7_method_61_code
def yX5_key : MethodName := ⟨RX5, "key", "()I"⟩
abbrev cX5_extra : ByteArray := prog_7_method_62_code
def yX5_extra : MethodName := ⟨RX5, "extra", "(II)I"⟩
abbrev cX5_odds : ByteArray := prog_7_method_63_code
def yX5_odds : MethodName := ⟨RX5, "odds", "(II)I"⟩
abbrev cX5_hunts : ByteArray := prog_7_method_64_code
def yX5_hunts : MethodName := ⟨RX5, "hunts", "(I)I"⟩
abbrev cX5_sees : ByteArray := prog_7_method_65_code
def yX5_sees : MethodName := ⟨RX5, "sees", "(II)I"⟩
abbrev cX5_forget : ByteArray := prog_7_method_66_code
def yX5_forget : MethodName := ⟨RX5, "forget", "()I"⟩
abbrev cX5_isSo : ByteArray := prog_7_method_67_code
def yX5_isSo : MethodName := ⟨RX5, "isSo", "()Z"⟩
abbrev cX5_laysSpots : ByteArray := prog_7_method_68_code
def yX5_laysSpots : MethodName := ⟨RX5, "laysSpots", "()V"⟩
abbrev cX5_spots : ByteArray := prog_7_method_69_code
def yX5_spots : MethodName := ⟨RX5, "spots", "(I)I"⟩
abbrev cX5_mostAlike : ByteArray := prog_7_method_70_code
def yX5_mostAlike : MethodName := ⟨RX5, "mostAlike", "(I)I"⟩
abbrev cX5_ask : ByteArray := prog_7_method_71_code
def yX5_ask : MethodName := ⟨RX5, "ask", "()I"⟩
abbrev cX5_keep : ByteArray := prog_7_method_72_code
def yX5_keep : MethodName := ⟨RX5, "keep", "(I)I"⟩
abbrev cX5_back : ByteArray := prog_7_method_73_code
def yX5_back : MethodName := ⟨RX5, "back", "(I)I"⟩
abbrev cX5_count : ByteArray := prog_7_method_74_code
def yX5_count : MethodName := ⟨RX5, "count", "(I)I"⟩
def RJ6 : String := "java/lang/Integer"
def TJ6 : u_T := fun k => match k with
  | _ => ("", "", "", false)
def tyJ6 : Nat → FieldType := fun k => match k with
  | _ => .int
theorem nmJ6 : ∀ a, a < 0 → ∀ b, b < 0 → a ≠ b → (TJ6 a).2.1 ≠ (TJ6 b).2.1 := by decide +kernel
theorem tyJ6_ok : ∀ k, k < 0 → parseFieldDescriptor (TJ6 k).2.2.1 = some (tyJ6 k) := by decide +kernel
abbrev cJ6_bitCount_0f7a4 : ByteArray := prog_8_method_49_code
def yJ6_bitCount_0f7a4 : MethodName := ⟨RJ6, "bitCount", "(I)I"⟩
def RJ13 : String := "java/lang/Long"
def TJ13 : u_T := fun k => match k with
  | _ => ("", "", "", false)
def tyJ13 : Nat → FieldType := fun k => match k with
  | _ => .int
theorem nmJ13 : ∀ a, a < 0 → ∀ b, b < 0 → a ≠ b → (TJ13 a).2.1 ≠ (TJ13 b).2.1 := by decide +kernel
theorem tyJ13_ok : ∀ k, k < 0 → parseFieldDescriptor (TJ13 k).2.2.1 = some (tyJ13 k) := by decide +kernel
abbrev cJ13_compare_74951 : ByteArray := prog_9_method_42_code
def yJ13_compare_74951 : MethodName := ⟨RJ13, "compare", "(JJ)I"⟩
def RJ9 : String := "java/lang/Math"
def TJ9 : u_T := fun k => match k with
  | _ => ("", "", "", false)
def tyJ9 : Nat → FieldType := fun k => match k with
  | _ => .int
theorem nmJ9 : ∀ a, a < 0 → ∀ b, b < 0 → a ≠ b → (TJ9 a).2.1 ≠ (TJ9 b).2.1 := by decide +kernel
theorem tyJ9_ok : ∀ k, k < 0 → parseFieldDescriptor (TJ9 k).2.2.1 = some (tyJ9 k) := by decide +kernel
abbrev cJ9_floorDiv_f86c9 : ByteArray := prog_10_method_49_code
def yJ9_floorDiv_f86c9 : MethodName := ⟨RJ9, "floorDiv", "(JJ)J"⟩
abbrev cJ9_abs_067f4 : ByteArray := prog_10_method_61_code
def yJ9_abs_067f4 : MethodName := ⟨RJ9, "abs", "(J)J"⟩
abbrev cJ9_max_7cf53 : ByteArray := prog_10_method_65_code
def yJ9_max_7cf53 : MethodName := ⟨RJ9, "max", "(II)I"⟩
abbrev cJ9_min_7cf53 : ByteArray := prog_10_method_69_code
def yJ9_min_7cf53 : MethodName := ⟨RJ9, "min", "(II)I"⟩
def RJ10 : String := "java/lang/System"
def TJ10 : u_T := fun k => match k with
  | _ => ("", "", "", false)
def tyJ10 : Nat → FieldType := fun k => match k with
  | _ => .int
theorem nmJ10 : ∀ a, a < 0 → ∀ b, b < 0 → a ≠ b → (TJ10 a).2.1 ≠ (TJ10 b).2.1 := by decide +kernel
theorem tyJ10_ok : ∀ k, k < 0 → parseFieldDescriptor (TJ10 k).2.2.1 = some (tyJ10 k) := by decide +kernel
def RJ7 : String := "java/util/Arrays"
def TJ7 : u_T := fun k => match k with
  | _ => ("", "", "", false)
def tyJ7 : Nat → FieldType := fun k => match k with
  | _ => .int
theorem nmJ7 : ∀ a, a < 0 → ∀ b, b < 0 → a ≠ b → (TJ7 a).2.1 ≠ (TJ7 b).2.1 := by decide +kernel
theorem tyJ7_ok : ∀ k, k < 0 → parseFieldDescriptor (TJ7 k).2.2.1 = some (tyJ7 k) := by decide +kernel
abbrev cJ7_fill_53178 : ByteArray := prog_12_method_103_code
def yJ7_fill_53178 : MethodName := ⟨RJ7, "fill", "([II)V"⟩
def RL : String := "PileSharesLaw"
abbrev cL_law : ByteArray := code
def yL_law : MethodName := ⟨RL, "law", "([I)Z"⟩
abbrev vwCl : List vw_C := [(RX0, TX0, 15), (RX1, TX1, 16), (RX2, TX2, 7), (RX3, TX3, 12), (RX4, TX4, 13), (RX5, TX5, 41)]
abbrev TB : List Cond := lw_tbl.filter goodWord
theorem tbm {w : Cond} (i : Nat) (h : lw_tbl[i]? = some w) (hg : goodWord w = true) : w ∈ TB := List.mem_filter.mpr ⟨List.mem_of_getElem? h, hg⟩
theorem TB_good : ∀ w ∈ TB, (w.onTables && w.keeps) = true ∨ ∃ ty, w = .arrayClass ty := fun w h => good_of_word (List.mem_filter.mp h).2
theorem goodC {w : Cond} (h : w ∈ TB) : GoodIn TB (w :: TB) := fun v hv => (List.mem_cons.mp hv).elim (fun e => by subst e; exact ⟨h, TB_good _ h⟩) (fun h => ⟨h, TB_good _ h⟩)
theorem goodV {own C : String} {idx n : Nat} {y : MethodName} {c : ByteArray} {ret : Option FieldType} (h1 : Cond.methodLink own idx y ∈ TB) (h2 : Cond.instanceMethod y ∈ TB) (h3 : Cond.selects C y y ∈ TB) (h4 : Cond.initialized C ∈ TB) (h5 : Cond.code y c n ret ∈ TB) : GoodIn TB (wsV own idx C y (.code y c n ret :: TB)) := by
  intro w hw
  unfold wsV at hw
  rcases List.mem_append.mp hw with h | h
  · have hw : w ∈ TB := by
      rcases List.mem_cons.mp h with rfl | h
      · exact h1
      rcases List.mem_cons.mp h with rfl | h
      · exact h2
      rcases List.mem_cons.mp h with rfl | h
      · exact h3
      rcases List.mem_cons.mp h with rfl | h
      · exact h4
      cases h
    exact ⟨hw, TB_good _ hw⟩
  · exact goodC h5 w h
theorem goodS {own : String} {idx n : Nat} {y : MethodName} {c : ByteArray} {ret : Option FieldType} (h1 : Cond.methodLink own idx y ∈ TB) (h2 : Cond.static y ∈ TB) (h4 : Cond.initialized y.cls ∈ TB) (h5 : Cond.code y c n ret ∈ TB) : GoodIn TB (va_wsS own idx y (.code y c n ret :: TB)) := by
  intro w hw
  unfold va_wsS at hw
  rcases List.mem_append.mp hw with h | h
  · have hw : w ∈ TB := by
      rcases List.mem_cons.mp h with rfl | h
      · exact h1
      rcases List.mem_cons.mp h with rfl | h
      · exact h2
      rcases List.mem_cons.mp h with rfl | h
      · exact h4
      cases h
    exact ⟨hw, TB_good _ hw⟩
  · exact goodC h5 w h
