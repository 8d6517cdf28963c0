/-- a private method of a class that the tables say can be made, by its rows of tables_1 -/
def lw_okq (q : MethodName × Nat) : Prop := (q.1.cls ≠ "java/lang/invoke/MethodHandle" ∧ q.1.cls ≠ "java/lang/invoke/VarHandle") ∧ Cond.instantiable q.1.cls q.2 ∈ tables_1 ∧ Cond.privateMethod q.1 ∈ tables_1 ∧ Cond.instanceMethod q.1 ∈ tables_1
theorem lw_p0 : lw_okq (⟨"PileShares$Script", "skipBlanks", "()V"⟩, 7) := ⟨⟨by decide +kernel, by decide +kernel⟩, List.mem_of_getElem? (i := 86) (by decide +kernel), List.mem_of_getElem? (i := 295) (by decide +kernel), List.mem_of_getElem? (i := 296) (by decide +kernel)⟩
theorem lw_p1 : lw_okq (⟨"PileShares$Script", "readItem", "(LPileShares$Structure;)Z"⟩, 7) := ⟨⟨by decide +kernel, by decide +kernel⟩, List.mem_of_getElem? (i := 86) (by decide +kernel), List.mem_of_getElem? (i := 299) (by decide +kernel), List.mem_of_getElem? (i := 300) (by decide +kernel)⟩
theorem lw_p2 : lw_okq (⟨"PileShares$Script", "letterHere", "()I"⟩, 7) := ⟨⟨by decide +kernel, by decide +kernel⟩, List.mem_of_getElem? (i := 86) (by decide +kernel), List.mem_of_getElem? (i := 303) (by decide +kernel), List.mem_of_getElem? (i := 304) (by decide +kernel)⟩
theorem lw_p3 : lw_okq (⟨"PileShares$Script", "readPile", "(LPileShares$Structure;)Z"⟩, 7) := ⟨⟨by decide +kernel, by decide +kernel⟩, List.mem_of_getElem? (i := 86) (by decide +kernel), List.mem_of_getElem? (i := 307) (by decide +kernel), List.mem_of_getElem? (i := 308) (by decide +kernel)⟩
theorem lw_p4 : lw_okq (⟨"PileShares$Script", "readPlace", "()Z"⟩, 7) := ⟨⟨by decide +kernel, by decide +kernel⟩, List.mem_of_getElem? (i := 86) (by decide +kernel), List.mem_of_getElem? (i := 311) (by decide +kernel), List.mem_of_getElem? (i := 312) (by decide +kernel)⟩
theorem lw_p5 : lw_okq (⟨"PileShares$Script", "readNumber", "(II)I"⟩, 7) := ⟨⟨by decide +kernel, by decide +kernel⟩, List.mem_of_getElem? (i := 86) (by decide +kernel), List.mem_of_getElem? (i := 315) (by decide +kernel), List.mem_of_getElem? (i := 316) (by decide +kernel)⟩
theorem lw_p6 : lw_okq (⟨"PileShares$Script", "readSemicolon", "()Z"⟩, 7) := ⟨⟨by decide +kernel, by decide +kernel⟩, List.mem_of_getElem? (i := 86) (by decide +kernel), List.mem_of_getElem? (i := 329) (by decide +kernel), List.mem_of_getElem? (i := 330) (by decide +kernel)⟩
theorem lw_p7 : lw_okq (⟨"PileShares$Script", "readColumn", "(LPileShares$Structure;)Z"⟩, 7) := ⟨⟨by decide +kernel, by decide +kernel⟩, List.mem_of_getElem? (i := 86) (by decide +kernel), List.mem_of_getElem? (i := 337) (by decide +kernel), List.mem_of_getElem? (i := 338) (by decide +kernel)⟩
theorem lw_p8 : lw_okq (⟨"PileShares$Script", "readWind", "(LPileShares$Structure;)Z"⟩, 7) := ⟨⟨by decide +kernel, by decide +kernel⟩, List.mem_of_getElem? (i := 86) (by decide +kernel), List.mem_of_getElem? (i := 345) (by decide +kernel), List.mem_of_getElem? (i := 346) (by decide +kernel)⟩
theorem lw_p9 : lw_okq (⟨"PileShares", "record", "()V"⟩, 13) := ⟨⟨by decide +kernel, by decide +kernel⟩, List.mem_of_getElem? (i := 13) (by decide +kernel), List.mem_of_getElem? (i := 366) (by decide +kernel), List.mem_of_getElem? (i := 367) (by decide +kernel)⟩
theorem lw_p10 : lw_okq (⟨"PileShares", "isPile", "(I)Z"⟩, 13) := ⟨⟨by decide +kernel, by decide +kernel⟩, List.mem_of_getElem? (i := 13) (by decide +kernel), List.mem_of_getElem? (i := 375) (by decide +kernel), List.mem_of_getElem? (i := 376) (by decide +kernel)⟩
theorem lw_p11 : lw_okq (⟨"PileShares", "isColumn", "(I)Z"⟩, 13) := ⟨⟨by decide +kernel, by decide +kernel⟩, List.mem_of_getElem? (i := 13) (by decide +kernel), List.mem_of_getElem? (i := 397) (by decide +kernel), List.mem_of_getElem? (i := 398) (by decide +kernel)⟩
theorem lw_p12 : lw_okq (⟨"PileShares", "spreadPresent", "()V"⟩, 13) := ⟨⟨by decide +kernel, by decide +kernel⟩, List.mem_of_getElem? (i := 13) (by decide +kernel), List.mem_of_getElem? (i := 418) (by decide +kernel), List.mem_of_getElem? (i := 419) (by decide +kernel)⟩
theorem lw_p13 : lw_okq (⟨"PileShares", "takePresent", "()V"⟩, 13) := ⟨⟨by decide +kernel, by decide +kernel⟩, List.mem_of_getElem? (i := 13) (by decide +kernel), List.mem_of_getElem? (i := 422) (by decide +kernel), List.mem_of_getElem? (i := 423) (by decide +kernel)⟩
theorem lw_p14 : lw_okq (⟨"PileShares$Distribution", "anotherRoundFollows", "()Z"⟩, 15) := ⟨⟨by decide +kernel, by decide +kernel⟩, List.mem_of_getElem? (i := 116) (by decide +kernel), List.mem_of_getElem? (i := 471) (by decide +kernel), List.mem_of_getElem? (i := 472) (by decide +kernel)⟩
theorem lw_p15 : lw_okq (⟨"PileShares$Distribution", "mostPulled", "()I"⟩, 15) := ⟨⟨by decide +kernel, by decide +kernel⟩, List.mem_of_getElem? (i := 116) (by decide +kernel), List.mem_of_getElem? (i := 483) (by decide +kernel), List.mem_of_getElem? (i := 484) (by decide +kernel)⟩
def lw_privs_1 : List (MethodName × Nat) := [(⟨"PileShares$Script", "skipBlanks", "()V"⟩, 7), (⟨"PileShares$Script", "readItem", "(LPileShares$Structure;)Z"⟩, 7), (⟨"PileShares$Script", "letterHere", "()I"⟩, 7), (⟨"PileShares$Script", "readPile", "(LPileShares$Structure;)Z"⟩, 7), (⟨"PileShares$Script", "readPlace", "()Z"⟩, 7), (⟨"PileShares$Script", "readNumber", "(II)I"⟩, 7), (⟨"PileShares$Script", "readSemicolon", "()Z"⟩, 7), (⟨"PileShares$Script", "readColumn", "(LPileShares$Structure;)Z"⟩, 7), (⟨"PileShares$Script", "readWind", "(LPileShares$Structure;)Z"⟩, 7), (⟨"PileShares", "record", "()V"⟩, 13), (⟨"PileShares", "isPile", "(I)Z"⟩, 13), (⟨"PileShares", "isColumn", "(I)Z"⟩, 13), (⟨"PileShares", "spreadPresent", "()V"⟩, 13), (⟨"PileShares", "takePresent", "()V"⟩, 13), (⟨"PileShares$Distribution", "anotherRoundFollows", "()Z"⟩, 15), (⟨"PileShares$Distribution", "mostPulled", "()I"⟩, 15)]
theorem lw_r1 : ∀ q ∈ lw_privs_1, lw_okq q := List.forall_mem_cons.mpr ⟨lw_p0, List.forall_mem_cons.mpr ⟨lw_p1, List.forall_mem_cons.mpr ⟨lw_p2, List.forall_mem_cons.mpr ⟨lw_p3, List.forall_mem_cons.mpr ⟨lw_p4, List.forall_mem_cons.mpr ⟨lw_p5, List.forall_mem_cons.mpr ⟨lw_p6, List.forall_mem_cons.mpr ⟨lw_p7, List.forall_mem_cons.mpr ⟨lw_p8, List.forall_mem_cons.mpr ⟨lw_p9, List.forall_mem_cons.mpr ⟨lw_p10, List.forall_mem_cons.mpr ⟨lw_p11, List.forall_mem_cons.mpr ⟨lw_p12, List.forall_mem_cons.mpr ⟨lw_p13, List.forall_mem_cons.mpr ⟨lw_p14, List.forall_mem_cons.mpr ⟨lw_p15, fun _ h => absurd h List.not_mem_nil⟩⟩⟩⟩⟩⟩⟩⟩⟩⟩⟩⟩⟩⟩⟩⟩
theorem lw_p16 : lw_okq (⟨"PileShares$Distribution", "mostPressedOfReleased", "()I"⟩, 15) := ⟨⟨by decide +kernel, by decide +kernel⟩, List.mem_of_getElem? (i := 116) (by decide +kernel), List.mem_of_getElem? (i := 491) (by decide +kernel), List.mem_of_getElem? (i := 492) (by decide +kernel)⟩
theorem lw_p17 : lw_okq (⟨"PileShares$Distribution", "findMostUsed", "()V"⟩, 15) := ⟨⟨by decide +kernel, by decide +kernel⟩, List.mem_of_getElem? (i := 116) (by decide +kernel), List.mem_of_getElem? (i := 495) (by decide +kernel), List.mem_of_getElem? (i := 496) (by decide +kernel)⟩
theorem lw_p18 : lw_okq (⟨"PileShares", "greatestUse", "(I)J"⟩, 13) := ⟨⟨by decide +kernel, by decide +kernel⟩, List.mem_of_getElem? (i := 13) (by decide +kernel), List.mem_of_getElem? (i := 560) (by decide +kernel), List.mem_of_getElem? (i := 561) (by decide +kernel)⟩
theorem lw_p19 : lw_okq (⟨"PileShares", "bracePresent", "()Z"⟩, 13) := ⟨⟨by decide +kernel, by decide +kernel⟩, List.mem_of_getElem? (i := 13) (by decide +kernel), List.mem_of_getElem? (i := 580) (by decide +kernel), List.mem_of_getElem? (i := 581) (by decide +kernel)⟩
theorem lw_p20 : lw_okq (⟨"PileShares", "standsOn", "(I)Z"⟩, 13) := ⟨⟨by decide +kernel, by decide +kernel⟩, List.mem_of_getElem? (i := 13) (by decide +kernel), List.mem_of_getElem? (i := 638) (by decide +kernel), List.mem_of_getElem? (i := 639) (by decide +kernel)⟩
theorem lw_p21 : lw_okq (⟨"PileShares", "dropSights", "()I"⟩, 13) := ⟨⟨by decide +kernel, by decide +kernel⟩, List.mem_of_getElem? (i := 13) (by decide +kernel), List.mem_of_getElem? (i := 646) (by decide +kernel), List.mem_of_getElem? (i := 647) (by decide +kernel)⟩
theorem lw_p22 : lw_okq (⟨"PileShares", "isSpot", "(I)Z"⟩, 13) := ⟨⟨by decide +kernel, by decide +kernel⟩, List.mem_of_getElem? (i := 13) (by decide +kernel), List.mem_of_getElem? (i := 662) (by decide +kernel), List.mem_of_getElem? (i := 663) (by decide +kernel)⟩
theorem lw_p23 : lw_okq (⟨"PileShares", "groupShares", "()V"⟩, 13) := ⟨⟨by decide +kernel, by decide +kernel⟩, List.mem_of_getElem? (i := 13) (by decide +kernel), List.mem_of_getElem? (i := 673) (by decide +kernel), List.mem_of_getElem? (i := 674) (by decide +kernel)⟩
theorem lw_p24 : lw_okq (⟨"PileShares", "pileWithSmallestLargestGroup", "()I"⟩, 13) := ⟨⟨by decide +kernel, by decide +kernel⟩, List.mem_of_getElem? (i := 13) (by decide +kernel), List.mem_of_getElem? (i := 678) (by decide +kernel), List.mem_of_getElem? (i := 679) (by decide +kernel)⟩
theorem lw_p25 : lw_okq (⟨"PileSharesModel", "next", "()V"⟩, 41) := ⟨⟨by decide +kernel, by decide +kernel⟩, List.mem_of_getElem? (i := 697) (by decide +kernel), List.mem_of_getElem? (i := 842) (by decide +kernel), List.mem_of_getElem? (i := 843) (by decide +kernel)⟩
theorem lw_p26 : lw_okq (⟨"PileSharesModel", "isFigure", "()Z"⟩, 41) := ⟨⟨by decide +kernel, by decide +kernel⟩, List.mem_of_getElem? (i := 697) (by decide +kernel), List.mem_of_getElem? (i := 846) (by decide +kernel), List.mem_of_getElem? (i := 847) (by decide +kernel)⟩
theorem lw_p27 : lw_okq (⟨"PileSharesModel", "readsPile", "()V"⟩, 41) := ⟨⟨by decide +kernel, by decide +kernel⟩, List.mem_of_getElem? (i := 697) (by decide +kernel), List.mem_of_getElem? (i := 850) (by decide +kernel), List.mem_of_getElem? (i := 851) (by decide +kernel)⟩
theorem lw_p28 : lw_okq (⟨"PileSharesModel", "due", "(Z)V"⟩, 41) := ⟨⟨by decide +kernel, by decide +kernel⟩, List.mem_of_getElem? (i := 697) (by decide +kernel), List.mem_of_getElem? (i := 854) (by decide +kernel), List.mem_of_getElem? (i := 855) (by decide +kernel)⟩
theorem lw_p29 : lw_okq (⟨"PileSharesModel", "reads", "(IIII)V"⟩, 41) := ⟨⟨by decide +kernel, by decide +kernel⟩, List.mem_of_getElem? (i := 697) (by decide +kernel), List.mem_of_getElem? (i := 858) (by decide +kernel), List.mem_of_getElem? (i := 859) (by decide +kernel)⟩
theorem lw_p30 : lw_okq (⟨"PileSharesModel", "isTakenByDraft", "(II)Z"⟩, 41) := ⟨⟨by decide +kernel, by decide +kernel⟩, List.mem_of_getElem? (i := 697) (by decide +kernel), List.mem_of_getElem? (i := 862) (by decide +kernel), List.mem_of_getElem? (i := 863) (by decide +kernel)⟩
theorem lw_p31 : lw_okq (⟨"PileSharesModel", "readsColumn", "()V"⟩, 41) := ⟨⟨by decide +kernel, by decide +kernel⟩, List.mem_of_getElem? (i := 697) (by decide +kernel), List.mem_of_getElem? (i := 866) (by decide +kernel), List.mem_of_getElem? (i := 867) (by decide +kernel)⟩
def lw_privs_2 : List (MethodName × Nat) := [(⟨"PileShares$Distribution", "mostPressedOfReleased", "()I"⟩, 15), (⟨"PileShares$Distribution", "findMostUsed", "()V"⟩, 15), (⟨"PileShares", "greatestUse", "(I)J"⟩, 13), (⟨"PileShares", "bracePresent", "()Z"⟩, 13), (⟨"PileShares", "standsOn", "(I)Z"⟩, 13), (⟨"PileShares", "dropSights", "()I"⟩, 13), (⟨"PileShares", "isSpot", "(I)Z"⟩, 13), (⟨"PileShares", "groupShares", "()V"⟩, 13), (⟨"PileShares", "pileWithSmallestLargestGroup", "()I"⟩, 13), (⟨"PileSharesModel", "next", "()V"⟩, 41), (⟨"PileSharesModel", "isFigure", "()Z"⟩, 41), (⟨"PileSharesModel", "readsPile", "()V"⟩, 41), (⟨"PileSharesModel", "due", "(Z)V"⟩, 41), (⟨"PileSharesModel", "reads", "(IIII)V"⟩, 41), (⟨"PileSharesModel", "isTakenByDraft", "(II)Z"⟩, 41), (⟨"PileSharesModel", "readsColumn", "()V"⟩, 41)]
theorem lw_r2 : ∀ q ∈ lw_privs_2, lw_okq q := List.forall_mem_cons.mpr ⟨lw_p16, List.forall_mem_cons.mpr ⟨lw_p17, List.forall_mem_cons.mpr ⟨lw_p18, List.forall_mem_cons.mpr ⟨lw_p19, List.forall_mem_cons.mpr ⟨lw_p20, List.forall_mem_cons.mpr ⟨lw_p21, List.forall_mem_cons.mpr ⟨lw_p22, List.forall_mem_cons.mpr ⟨lw_p23, List.forall_mem_cons.mpr ⟨lw_p24, List.forall_mem_cons.mpr ⟨lw_p25, List.forall_mem_cons.mpr ⟨lw_p26, List.forall_mem_cons.mpr ⟨lw_p27, List.forall_mem_cons.mpr ⟨lw_p28, List.forall_mem_cons.mpr ⟨lw_p29, List.forall_mem_cons.mpr ⟨lw_p30, List.forall_mem_cons.mpr ⟨lw_p31, fun _ h => absurd h List.not_mem_nil⟩⟩⟩⟩⟩⟩⟩⟩⟩⟩⟩⟩⟩⟩⟩⟩
theorem lw_p32 : lw_okq (⟨"PileSharesModel", "readsWind", "()V"⟩, 41) := ⟨⟨by decide +kernel, by decide +kernel⟩, List.mem_of_getElem? (i := 697) (by decide +kernel), List.mem_of_getElem? (i := 870) (by decide +kernel), List.mem_of_getElem? (i := 871) (by decide +kernel)⟩
theorem lw_p33 : lw_okq (⟨"PileSharesModel", "isTaken", "(II)Z"⟩, 41) := ⟨⟨by decide +kernel, by decide +kernel⟩, List.mem_of_getElem? (i := 697) (by decide +kernel), List.mem_of_getElem? (i := 884) (by decide +kernel), List.mem_of_getElem? (i := 885) (by decide +kernel)⟩
theorem lw_p34 : lw_okq (⟨"PileSharesModel", "ofPile", "(II)I"⟩, 41) := ⟨⟨by decide +kernel, by decide +kernel⟩, List.mem_of_getElem? (i := 697) (by decide +kernel), List.mem_of_getElem? (i := 888) (by decide +kernel), List.mem_of_getElem? (i := 889) (by decide +kernel)⟩
theorem lw_p35 : lw_okq (⟨"PileSharesModel", "notes", "()V"⟩, 41) := ⟨⟨by decide +kernel, by decide +kernel⟩, List.mem_of_getElem? (i := 697) (by decide +kernel), List.mem_of_getElem? (i := 892) (by decide +kernel), List.mem_of_getElem? (i := 893) (by decide +kernel)⟩
theorem lw_p36 : lw_okq (⟨"PileSharesModel", "becomes", "(II)I"⟩, 41) := ⟨⟨by decide +kernel, by decide +kernel⟩, List.mem_of_getElem? (i := 697) (by decide +kernel), List.mem_of_getElem? (i := 900) (by decide +kernel), List.mem_of_getElem? (i := 901) (by decide +kernel)⟩
theorem lw_p37 : lw_okq (⟨"PileSharesModel", "isPile", "(I)Z"⟩, 41) := ⟨⟨by decide +kernel, by decide +kernel⟩, List.mem_of_getElem? (i := 697) (by decide +kernel), List.mem_of_getElem? (i := 904) (by decide +kernel), List.mem_of_getElem? (i := 905) (by decide +kernel)⟩
theorem lw_p38 : lw_okq (⟨"PileSharesModel", "wholes", "()I"⟩, 41) := ⟨⟨by decide +kernel, by decide +kernel⟩, List.mem_of_getElem? (i := 697) (by decide +kernel), List.mem_of_getElem? (i := 908) (by decide +kernel), List.mem_of_getElem? (i := 909) (by decide +kernel)⟩
theorem lw_p39 : lw_okq (⟨"PileSharesModel", "isColumn", "(I)Z"⟩, 41) := ⟨⟨by decide +kernel, by decide +kernel⟩, List.mem_of_getElem? (i := 697) (by decide +kernel), List.mem_of_getElem? (i := 920) (by decide +kernel), List.mem_of_getElem? (i := 921) (by decide +kernel)⟩
theorem lw_p40 : lw_okq (⟨"PileSharesModel", "ofColumn", "(II)I"⟩, 41) := ⟨⟨by decide +kernel, by decide +kernel⟩, List.mem_of_getElem? (i := 697) (by decide +kernel), List.mem_of_getElem? (i := 924) (by decide +kernel), List.mem_of_getElem? (i := 925) (by decide +kernel)⟩
theorem lw_p41 : lw_okq (⟨"PileSharesModel", "sharesNow", "()V"⟩, 41) := ⟨⟨by decide +kernel, by decide +kernel⟩, List.mem_of_getElem? (i := 697) (by decide +kernel), List.mem_of_getElem? (i := 945) (by decide +kernel), List.mem_of_getElem? (i := 946) (by decide +kernel)⟩
theorem lw_p42 : lw_okq (⟨"PileSharesModel", "laysPiles", "()V"⟩, 41) := ⟨⟨by decide +kernel, by decide +kernel⟩, List.mem_of_getElem? (i := 697) (by decide +kernel), List.mem_of_getElem? (i := 949) (by decide +kernel), List.mem_of_getElem? (i := 950) (by decide +kernel)⟩
theorem lw_p43 : lw_okq (⟨"PileSharesModel", "laysSums", "()V"⟩, 41) := ⟨⟨by decide +kernel, by decide +kernel⟩, List.mem_of_getElem? (i := 697) (by decide +kernel), List.mem_of_getElem? (i := 953) (by decide +kernel), List.mem_of_getElem? (i := 954) (by decide +kernel)⟩
theorem lw_p44 : lw_okq (⟨"PileSharesModel", "sumOf", "(I)J"⟩, 41) := ⟨⟨by decide +kernel, by decide +kernel⟩, List.mem_of_getElem? (i := 697) (by decide +kernel), List.mem_of_getElem? (i := 957) (by decide +kernel), List.mem_of_getElem? (i := 958) (by decide +kernel)⟩
theorem lw_p45 : lw_okq (⟨"PileSharesModel", "shares", "()V"⟩, 41) := ⟨⟨by decide +kernel, by decide +kernel⟩, List.mem_of_getElem? (i := 697) (by decide +kernel), List.mem_of_getElem? (i := 961) (by decide +kernel), List.mem_of_getElem? (i := 962) (by decide +kernel)⟩
theorem lw_p46 : lw_okq (⟨"PileSharesModel", "isSteady", "(I)Z"⟩, 41) := ⟨⟨by decide +kernel, by decide +kernel⟩, List.mem_of_getElem? (i := 697) (by decide +kernel), List.mem_of_getElem? (i := 965) (by decide +kernel), List.mem_of_getElem? (i := 966) (by decide +kernel)⟩
theorem lw_p47 : lw_okq (⟨"PileSharesModel", "goesOut", "()I"⟩, 41) := ⟨⟨by decide +kernel, by decide +kernel⟩, List.mem_of_getElem? (i := 697) (by decide +kernel), List.mem_of_getElem? (i := 972) (by decide +kernel), List.mem_of_getElem? (i := 973) (by decide +kernel)⟩
def lw_privs_3 : List (MethodName × Nat) := [(⟨"PileSharesModel", "readsWind", "()V"⟩, 41), (⟨"PileSharesModel", "isTaken", "(II)Z"⟩, 41), (⟨"PileSharesModel", "ofPile", "(II)I"⟩, 41), (⟨"PileSharesModel", "notes", "()V"⟩, 41), (⟨"PileSharesModel", "becomes", "(II)I"⟩, 41), (⟨"PileSharesModel", "isPile", "(I)Z"⟩, 41), (⟨"PileSharesModel", "wholes", "()I"⟩, 41), (⟨"PileSharesModel", "isColumn", "(I)Z"⟩, 41), (⟨"PileSharesModel", "ofColumn", "(II)I"⟩, 41), (⟨"PileSharesModel", "sharesNow", "()V"⟩, 41), (⟨"PileSharesModel", "laysPiles", "()V"⟩, 41), (⟨"PileSharesModel", "laysSums", "()V"⟩, 41), (⟨"PileSharesModel", "sumOf", "(I)J"⟩, 41), (⟨"PileSharesModel", "shares", "()V"⟩, 41), (⟨"PileSharesModel", "isSteady", "(I)Z"⟩, 41), (⟨"PileSharesModel", "goesOut", "()I"⟩, 41)]
theorem lw_r3 : ∀ q ∈ lw_privs_3, lw_okq q := List.forall_mem_cons.mpr ⟨lw_p32, List.forall_mem_cons.mpr ⟨lw_p33, List.forall_mem_cons.mpr ⟨lw_p34, List.forall_mem_cons.mpr ⟨lw_p35, List.forall_mem_cons.mpr ⟨lw_p36, List.forall_mem_cons.mpr ⟨lw_p37, List.forall_mem_cons.mpr ⟨lw_p38, List.forall_mem_cons.mpr ⟨lw_p39, List.forall_mem_cons.mpr ⟨lw_p40, List.forall_mem_cons.mpr ⟨lw_p41, List.forall_mem_cons.mpr ⟨lw_p42, List.forall_mem_cons.mpr ⟨lw_p43, List.forall_mem_cons.mpr ⟨lw_p44, List.forall_mem_cons.mpr ⟨lw_p45, List.forall_mem_cons.mpr ⟨lw_p46, List.forall_mem_cons.mpr ⟨lw_p47, fun _ h => absurd h List.not_mem_nil⟩⟩⟩⟩⟩⟩⟩⟩⟩⟩⟩⟩⟩⟩⟩⟩
theorem lw_p48 : lw_okq (⟨"PileSharesModel", "bears", "(I)J"⟩, 41) := ⟨⟨by decide +kernel, by decide +kernel⟩, List.mem_of_getElem? (i := 697) (by decide +kernel), List.mem_of_getElem? (i := 976) (by decide +kernel), List.mem_of_getElem? (i := 977) (by decide +kernel)⟩
theorem lw_p49 : lw_okq (⟨"PileSharesModel", "pressAt", "(II)J"⟩, 41) := ⟨⟨by decide +kernel, by decide +kernel⟩, List.mem_of_getElem? (i := 697) (by decide +kernel), List.mem_of_getElem? (i := 980) (by decide +kernel), List.mem_of_getElem? (i := 981) (by decide +kernel)⟩
theorem lw_p50 : lw_okq (⟨"PileSharesModel", "comesIn", "()I"⟩, 41) := ⟨⟨by decide +kernel, by decide +kernel⟩, List.mem_of_getElem? (i := 697) (by decide +kernel), List.mem_of_getElem? (i := 984) (by decide +kernel), List.mem_of_getElem? (i := 985) (by decide +kernel)⟩
theorem lw_p51 : lw_okq (⟨"PileSharesModel", "laysMost", "()Z"⟩, 41) := ⟨⟨by decide +kernel, by decide +kernel⟩, List.mem_of_getElem? (i := 697) (by decide +kernel), List.mem_of_getElem? (i := 1021) (by decide +kernel), List.mem_of_getElem? (i := 1022) (by decide +kernel)⟩
theorem lw_p52 : lw_okq (⟨"PileSharesModel", "tellsMost", "(I)J"⟩, 41) := ⟨⟨by decide +kernel, by decide +kernel⟩, List.mem_of_getElem? (i := 697) (by decide +kernel), List.mem_of_getElem? (i := 1025) (by decide +kernel), List.mem_of_getElem? (i := 1026) (by decide +kernel)⟩
theorem lw_p53 : lw_okq (⟨"PileSharesModel", "isKern", "(II)I"⟩, 41) := ⟨⟨by decide +kernel, by decide +kernel⟩, List.mem_of_getElem? (i := 697) (by decide +kernel), List.mem_of_getElem? (i := 1037) (by decide +kernel), List.mem_of_getElem? (i := 1038) (by decide +kernel)⟩
theorem lw_p54 : lw_okq (⟨"PileSharesModel", "laysLoad", "(III)V"⟩, 41) := ⟨⟨by decide +kernel, by decide +kernel⟩, List.mem_of_getElem? (i := 697) (by decide +kernel), List.mem_of_getElem? (i := 1041) (by decide +kernel), List.mem_of_getElem? (i := 1042) (by decide +kernel)⟩
theorem lw_p55 : lw_okq (⟨"PileSharesModel", "laysWithout", "(I)Z"⟩, 41) := ⟨⟨by decide +kernel, by decide +kernel⟩, List.mem_of_getElem? (i := 697) (by decide +kernel), List.mem_of_getElem? (i := 1054) (by decide +kernel), List.mem_of_getElem? (i := 1055) (by decide +kernel)⟩
theorem lw_p56 : lw_okq (⟨"PileSharesModel", "laysSpots", "()V"⟩, 41) := ⟨⟨by decide +kernel, by decide +kernel⟩, List.mem_of_getElem? (i := 697) (by decide +kernel), List.mem_of_getElem? (i := 1090) (by decide +kernel), List.mem_of_getElem? (i := 1091) (by decide +kernel)⟩
theorem lw_p57 : lw_okq (⟨"PileSharesModel", "isSo", "()Z"⟩, 41) := ⟨⟨by decide +kernel, by decide +kernel⟩, List.mem_of_getElem? (i := 697) (by decide +kernel), List.mem_of_getElem? (i := 1094) (by decide +kernel), List.mem_of_getElem? (i := 1095) (by decide +kernel)⟩
theorem lw_p58 : lw_okq (⟨"PileSharesModel", "mostAlike", "(I)I"⟩, 41) := ⟨⟨by decide +kernel, by decide +kernel⟩, List.mem_of_getElem? (i := 697) (by decide +kernel), List.mem_of_getElem? (i := 1102) (by decide +kernel), List.mem_of_getElem? (i := 1103) (by decide +kernel)⟩
def lw_privs_4 : List (MethodName × Nat) := [(⟨"PileSharesModel", "bears", "(I)J"⟩, 41), (⟨"PileSharesModel", "pressAt", "(II)J"⟩, 41), (⟨"PileSharesModel", "comesIn", "()I"⟩, 41), (⟨"PileSharesModel", "laysMost", "()Z"⟩, 41), (⟨"PileSharesModel", "tellsMost", "(I)J"⟩, 41), (⟨"PileSharesModel", "isKern", "(II)I"⟩, 41), (⟨"PileSharesModel", "laysLoad", "(III)V"⟩, 41), (⟨"PileSharesModel", "laysWithout", "(I)Z"⟩, 41), (⟨"PileSharesModel", "laysSpots", "()V"⟩, 41), (⟨"PileSharesModel", "isSo", "()Z"⟩, 41), (⟨"PileSharesModel", "mostAlike", "(I)I"⟩, 41)]
theorem lw_r4 : ∀ q ∈ lw_privs_4, lw_okq q := List.forall_mem_cons.mpr ⟨lw_p48, List.forall_mem_cons.mpr ⟨lw_p49, List.forall_mem_cons.mpr ⟨lw_p50, List.forall_mem_cons.mpr ⟨lw_p51, List.forall_mem_cons.mpr ⟨lw_p52, List.forall_mem_cons.mpr ⟨lw_p53, List.forall_mem_cons.mpr ⟨lw_p54, List.forall_mem_cons.mpr ⟨lw_p55, List.forall_mem_cons.mpr ⟨lw_p56, List.forall_mem_cons.mpr ⟨lw_p57, List.forall_mem_cons.mpr ⟨lw_p58, fun _ h => absurd h List.not_mem_nil⟩⟩⟩⟩⟩⟩⟩⟩⟩⟩⟩
def lw_privs : List (MethodName × Nat) := lw_privs_1 ++ (lw_privs_2 ++ (lw_privs_3 ++ (lw_privs_4)))
def lw_tbl : List Cond := k2_sels lw_privs ++ tables_1
theorem lw_privs_ok : ∀ q ∈ lw_privs, lw_okq q := by
  show ∀ q ∈ lw_privs_1 ++ (lw_privs_2 ++ (lw_privs_3 ++ (lw_privs_4))), lw_okq q
  exact List.forall_mem_append.mpr ⟨lw_r1, List.forall_mem_append.mpr ⟨lw_r2, List.forall_mem_append.mpr ⟨lw_r3, lw_r4⟩⟩⟩


def RX0 : String := "PileShares$Distribution"
def TX0 : u_T := fun k => match k with
  | 0 => ("PileShares$Distribution", "x", "[I", true)
  | 1 => ("PileShares$Distribution", "y", "[I", true)
  | 2 => ("PileShares$Distribution", "stiff", "[I", true)
  | 3 => ("PileShares$Distribution", "can", "[I", true)
  | 4 => ("PileShares$Distribution", "piles", "I", false)
  | 5 => ("PileShares$Distribution", "w", "J", false)
  | 6 => ("PileShares$Distribution", "u", "J", false)
  | 7 => ("PileShares$Distribution", "v", "J", false)
  | 8 => ("PileShares$Distribution", "set", "I", false)
  | 9 => ("PileShares$Distribution", "active", "I", false)
  | 10 => ("PileShares$Distribution", "rounds", "I", false)
  | 11 => ("PileShares$Distribution", "settled", "Z", false)
  | 12 => ("PileShares$Distribution", "mostUsed", "I", false)
  | 13 => ("PileShares$Distribution", "whole", "LPileShares$Plane;", true)
  | _ => ("PileShares$Distribution", "plane", "LPileShares$Plane;", true)
def tyX0 : Nat → FieldType := fun k => match k with
  | 0 => .array .int
  | 1 => .array .int
  | 2 => .array .int
  | 3 => .array .int
  | 4 => .int
  | 5 => .long
  | 6 => .long
  | 7 => .long
  | 8 => .int
  | 9 => .int
  | 10 => .int
  | 11 => .boolean
  | 12 => .int
  | 13 => .object "PileShares$Plane"
  | _ => .object "PileShares$Plane"
abbrev wsX00 : List Cond := u_ws RX0 TX0 15
theorem nmX0 : ∀ a, a < 15 → ∀ b, b < 15 → a ≠ b → (TX0 a).2.1 ≠ (TX0 b).2.1 := by decide +kernel
theorem tyX0_ok : ∀ k, k < 15 → parseFieldDescriptor (TX0 k).2.2.1 = some (tyX0 k) := by decide +kernel
abbrev cX0_init : ByteArray := prog_2_method_1_code
def yX0_init : MethodName := ⟨RX0, "<init>", "()V"⟩
abbrev cX0_takePiles : ByteArray := prog_2_method_2_code
def yX0_takePiles : MethodName := ⟨RX0, "takePiles", "(LPileShares$Structure;)V"⟩
abbrev cX0_bear : ByteArray := prog_2_method_3_code
def yX0_bear : MethodName := ⟨RX0, "bear", "(JJJ)V"⟩
abbrev cX0_settleOn : ByteArray := prog_2_method_4_code
def yX0_settleOn : MethodName := ⟨RX0, "settleOn", "(I)V"⟩
abbrev cX0_beginWith : ByteArray := prog_2_method_5_code
def yX0_beginWith : MethodName := ⟨RX0, "beginWith", "(I)V"⟩
abbrev cX0_putFurther : ByteArray := prog_2_method_6_code
def yX0_putFurther : MethodName := ⟨RX0, "putFurther", "(IIII)V"⟩
abbrev cX0_takeFurtherAway : ByteArray := prog_2_method_7_code
def yX0_takeFurtherAway : MethodName := ⟨RX0, "takeFurtherAway", "()V"⟩
abbrev cX0_settle : ByteArray := prog_2_method_8_code
def yX0_settle : MethodName := ⟨RX0, "settle", "()V"⟩
abbrev cX0_anotherRoundFollows : ByteArray := prog_2_method_9_code
def yX0_anotherRoundFollows : MethodName := ⟨RX0, "anotherRoundFollows", "()Z"⟩
abbrev cX0_mostPulled : ByteArray := prog_2_method_10_code
def yX0_mostPulled : MethodName := ⟨RX0, "mostPulled", "()I"⟩
abbrev cX0_mostPressedOfReleased : ByteArray := prog_2_method_11_code
def yX0_mostPressedOfReleased : MethodName := ⟨RX0, "mostPressedOfReleased", "()I"⟩
abbrev cX0_findMostUsed : ByteArray := prog_2_method_12_code
def yX0_findMostUsed : MethodName := ⟨RX0, "findMostUsed", "()V"⟩
abbrev cX0_pullsNoPile : ByteArray := prog_2_method_13_code
def yX0_pullsNoPile : MethodName := ⟨RX0, "pullsNoPile", "(II)Z"⟩
abbrev cX0_braceAll : ByteArray := prog_2_method_14_code
def yX0_braceAll : MethodName := ⟨RX0, "braceAll", "(I)Z"⟩
abbrev cX0_isActive : ByteArray := prog_2_method_15_code
def yX0_isActive : MethodName := ⟨RX0, "isActive", "(I)Z"⟩
abbrev cX0_isSlot : ByteArray := prog_2_method_16_code
def yX0_isSlot : MethodName := ⟨RX0, "isSlot", "(I)Z"⟩
abbrev cX0_shareTop : ByteArray := prog_2_method_17_code
def yX0_shareTop : MethodName := ⟨RX0, "shareTop", "(I)J"⟩
abbrev cX0_bottom : ByteArray := prog_2_method_18_code
def yX0_bottom : MethodName := ⟨RX0, "bottom", "()J"⟩
abbrev cX0_shareDown : ByteArray := prog_2_method_19_code
def yX0_shareDown : MethodName := ⟨RX0, "shareDown", "(I)J"⟩
abbrev cX0_useTop : ByteArray := prog_2_method_20_code
def yX0_useTop : MethodName := ⟨RX0, "useTop", "()J"⟩
abbrev cX0_useBottom : ByteArray := prog_2_method_21_code
def yX0_useBottom : MethodName := ⟨RX0, "useBottom", "()J"⟩
def RX1 : String := "PileShares$Plane"
def TX1 : u_T := fun k => match k with
  | 0 => ("PileShares$Plane", "k", "J", false)
  | 1 => ("PileShares$Plane", "kx", "J", false)
  | 2 => ("PileShares$Plane", "ky", "J", false)
  | 3 => ("PileShares$Plane", "kxx", "J", false)
  | 4 => ("PileShares$Plane", "kxy", "J", false)
  | 5 => ("PileShares$Plane", "kyy", "J", false)
  | 6 => ("PileShares$Plane", "inverse00", "J", false)
  | 7 => ("PileShares$Plane", "inverse01", "J", false)
  | 8 => ("PileShares$Plane", "inverse02", "J", false)
  | 9 => ("PileShares$Plane", "inverse11", "J", false)
  | 10 => ("PileShares$Plane", "inverse12", "J", false)
  | 11 => ("PileShares$Plane", "inverse22", "J", false)
  | 12 => ("PileShares$Plane", "bottom", "J", false)
  | 13 => ("PileShares$Plane", "a", "J", false)
  | 14 => ("PileShares$Plane", "b", "J", false)
  | _ => ("PileShares$Plane", "c", "J", false)
def tyX1 : Nat → FieldType := fun k => match k with
  | 0 => .long
  | 1 => .long
  | 2 => .long
  | 3 => .long
  | 4 => .long
  | 5 => .long
  | 6 => .long
  | 7 => .long
  | 8 => .long
  | 9 => .long
  | 10 => .long
  | 11 => .long
  | 12 => .long
  | 13 => .long
  | 14 => .long
  | _ => .long
abbrev wsX10 : List Cond := u_ws RX1 TX1 16
theorem nmX1 : ∀ a, a < 16 → ∀ b, b < 16 → a ≠ b → (TX1 a).2.1 ≠ (TX1 b).2.1 := by decide +kernel
theorem tyX1_ok : ∀ k, k < 16 → parseFieldDescriptor (TX1 k).2.2.1 = some (tyX1 k) := by decide +kernel
abbrev cX1_init : ByteArray := prog_3_method_1_code
def yX1_init : MethodName := ⟨RX1, "<init>", "()V"⟩
abbrev cX1_empty : ByteArray := prog_3_method_2_code
def yX1_empty : MethodName := ⟨RX1, "empty", "()V"⟩
abbrev cX1_copySums : ByteArray := prog_3_method_3_code
def yX1_copySums : MethodName := ⟨RX1, "copySums", "(LPileShares$Plane;)V"⟩
abbrev cX1_put : ByteArray := prog_3_method_4_code
def yX1_put : MethodName := ⟨RX1, "put", "(III)V"⟩
abbrev cX1_brace : ByteArray := prog_3_method_5_code
def yX1_brace : MethodName := ⟨RX1, "brace", "()Z"⟩
abbrev cX1_tilt : ByteArray := prog_3_method_6_code
def yX1_tilt : MethodName := ⟨RX1, "tilt", "(JJJ)V"⟩
abbrev cX1_topAt : ByteArray := prog_3_method_7_code
def yX1_topAt : MethodName := ⟨RX1, "topAt", "(II)J"⟩
def RX2 : String := "PileShares$Script"
def TX2 : u_T := fun k => match k with
  | 0 => ("PileShares$Script", "letters", "[I", true)
  | 1 => ("PileShares$Script", "length", "I", false)
  | 2 => ("PileShares$Script", "at", "I", false)
  | 3 => ("PileShares$Script", "numberStart", "I", false)
  | 4 => ("PileShares$Script", "placeX", "I", false)
  | 5 => ("PileShares$Script", "placeY", "I", false)
  | _ => ("PileShares$Script", "windTold", "Z", false)
def tyX2 : Nat → FieldType := fun k => match k with
  | 0 => .array .int
  | 1 => .int
  | 2 => .int
  | 3 => .int
  | 4 => .int
  | 5 => .int
  | _ => .boolean
abbrev wsX20 : List Cond := u_ws RX2 TX2 7
theorem nmX2 : ∀ a, a < 7 → ∀ b, b < 7 → a ≠ b → (TX2 a).2.1 ≠ (TX2 b).2.1 := by decide +kernel
theorem tyX2_ok : ∀ k, k < 7 → parseFieldDescriptor (TX2 k).2.2.1 = some (tyX2 k) := by decide +kernel
abbrev cX2_init : ByteArray := prog_4_method_1_code
def yX2_init : MethodName := ⟨RX2, "<init>", "()V"⟩
abbrev cX2_append : ByteArray := prog_4_method_2_code
def yX2_append : MethodName := ⟨RX2, "append", "(I)Z"⟩
abbrev cX2_readInto : ByteArray := prog_4_method_3_code
def yX2_readInto : MethodName := ⟨RX2, "readInto", "(LPileShares$Structure;)I"⟩
abbrev cX2_readItem : ByteArray := prog_4_method_4_code
def yX2_readItem : MethodName := ⟨RX2, "readItem", "(LPileShares$Structure;)Z"⟩
abbrev cX2_readPile : ByteArray := prog_4_method_5_code
def yX2_readPile : MethodName := ⟨RX2, "readPile", "(LPileShares$Structure;)Z"⟩
abbrev cX2_readColumn : ByteArray := prog_4_method_6_code
def yX2_readColumn : MethodName := ⟨RX2, "readColumn", "(LPileShares$Structure;)Z"⟩
abbrev cX2_readPlace : ByteArray := prog_4_method_7_code
def yX2_readPlace : MethodName := ⟨RX2, "readPlace", "()Z"⟩
abbrev cX2_readWind : ByteArray := prog_4_method_8_code
def yX2_readWind : MethodName := ⟨RX2, "readWind", "(LPileShares$Structure;)Z"⟩
abbrev cX2_readNumber : ByteArray := prog_4_method_9_code
def yX2_readNumber : MethodName := ⟨RX2, "readNumber", "(II)I"⟩
abbrev cX2_readSemicolon : ByteArray := prog_4_method_10_code
def yX2_readSemicolon : MethodName := ⟨RX2, "readSemicolon", "()Z"⟩
abbrev cX2_skipBlanks : ByteArray := prog_4_method_11_code
def yX2_skipBlanks : MethodName := ⟨RX2, "skipBlanks", "()V"⟩
abbrev cX2_letterHere : ByteArray := prog_4_method_12_code
def yX2_letterHere : MethodName := ⟨RX2, "letterHere", "()I"⟩
abbrev cX2_isDigit : ByteArray := prog_4_method_13_code
def yX2_isDigit : MethodName := ⟨RX2, "isDigit", "(I)Z"⟩
def RX3 : String := "PileShares$Structure"
def TX3 : u_T := fun k => match k with
  | 0 => ("PileShares$Structure", "x", "[I", true)
  | 1 => ("PileShares$Structure", "y", "[I", true)
  | 2 => ("PileShares$Structure", "stiff", "[I", true)
  | 3 => ("PileShares$Structure", "can", "[I", true)
  | 4 => ("PileShares$Structure", "piles", "I", false)
  | 5 => ("PileShares$Structure", "intact", "I", false)
  | 6 => ("PileShares$Structure", "columnX", "[I", true)
  | 7 => ("PileShares$Structure", "columnY", "[I", true)
  | 8 => ("PileShares$Structure", "load", "[I", true)
  | 9 => ("PileShares$Structure", "columns", "I", false)
  | 10 => ("PileShares$Structure", "windX", "I", false)
  | _ => ("PileShares$Structure", "windY", "I", false)
def tyX3 : Nat → FieldType := fun k => match k with
  | 0 => .array .int
  | 1 => .array .int
  | 2 => .array .int
  | 3 => .array .int
  | 4 => .int
  | 5 => .int
  | 6 => .array .int
  | 7 => .array .int
  | 8 => .array .int
  | 9 => .int
  | 10 => .int
  | _ => .int
abbrev wsX30 : List Cond := u_ws RX3 TX3 12
theorem nmX3 : ∀ a, a < 12 → ∀ b, b < 12 → a ≠ b → (TX3 a).2.1 ≠ (TX3 b).2.1 := by decide +kernel
theorem tyX3_ok : ∀ k, k < 12 → parseFieldDescriptor (TX3 k).2.2.1 = some (tyX3 k) := by decide +kernel
abbrev cX3_init : ByteArray := prog_5_method_1_code
def yX3_init : MethodName := ⟨RX3, "<init>", "()V"⟩
abbrev cX3_empty : ByteArray := prog_5_method_2_code
def yX3_empty : MethodName := ⟨RX3, "empty", "()V"⟩
abbrev cX3_copy : ByteArray := prog_5_method_3_code
def yX3_copy : MethodName := ⟨RX3, "copy", "(LPileShares$Structure;LPileShares$Structure;)V"⟩
abbrev cX3_hasPileAt : ByteArray := prog_5_method_4_code
def yX3_hasPileAt : MethodName := ⟨RX3, "hasPileAt", "(II)Z"⟩
abbrev cX3_isIntact : ByteArray := prog_5_method_5_code
def yX3_isIntact : MethodName := ⟨RX3, "isIntact", "(I)Z"⟩
abbrev cX3_addPile : ByteArray := prog_5_method_6_code
def yX3_addPile : MethodName := ⟨RX3, "addPile", "(IIII)V"⟩
abbrev cX3_addColumn : ByteArray := prog_5_method_7_code
def yX3_addColumn : MethodName := ⟨RX3, "addColumn", "(III)V"⟩
abbrev cX3_weight : ByteArray := prog_5_method_8_code
def yX3_weight : MethodName := ⟨RX3, "weight", "()I"⟩
abbrev cX3_momentX : ByteArray := prog_5_method_9_code
def yX3_momentX : MethodName := ⟨RX3, "momentX", "()I"⟩
abbrev cX3_momentY : ByteArray := prog_5_method_10_code
def yX3_momentY : MethodName := ⟨RX3, "momentY", "()I"⟩
def RX4 : String := "PileShares"
def TX4 : u_T := fun k => match k with
  | 0 => ("PileShares", "now", "LPileShares$Structure;", true)
  | 1 => ("PileShares", "told", "LPileShares$Structure;", true)
  | 2 => ("PileShares", "script", "LPileShares$Script;", true)
  | 3 => ("PileShares", "past", "[LPileShares$Structure;", true)
  | 4 => ("PileShares", "recorded", "I", false)
  | 5 => ("PileShares", "images", "[LPileShares$Structure;", true)
  | 6 => ("PileShares", "kept", "[Z", true)
  | 7 => ("PileShares", "unknown", "I", false)
  | 8 => ("PileShares", "seenPile", "[I", true)
  | 9 => ("PileShares", "seenShare", "[I", true)
  | 10 => ("PileShares", "sights", "I", false)
  | 11 => ("PileShares", "groups", "[I", true)
  | _ => ("PileShares", "spread", "LPileShares$Distribution;", true)
def tyX4 : Nat → FieldType := fun k => match k with
  | 0 => .object "PileShares$Structure"
  | 1 => .object "PileShares$Structure"
  | 2 => .object "PileShares$Script"
  | 3 => .array (.object "PileShares$Structure")
  | 4 => .int
  | 5 => .array (.object "PileShares$Structure")
  | 6 => .array .boolean
  | 7 => .int
  | 8 => .array .int
  | 9 => .array .int
  | 10 => .int
  | 11 => .array .int
  | _ => .object "PileShares$Distribution"
abbrev wsX40 : List Cond := u_ws RX4 TX4 13
theorem nmX4 : ∀ a, a < 13 → ∀ b, b < 13 → a ≠ b → (TX4 a).2.1 ≠ (TX4 b).2.1 := by decide +kernel
theorem tyX4_ok : ∀ k, k < 13 → parseFieldDescriptor (TX4 k).2.2.1 = some (tyX4 k) := by decide +kernel
abbrev cX4_init : ByteArray := prog_1_method_1_code
def yX4_init : MethodName := ⟨RX4, "<init>", "()V"⟩
abbrev cX4_type : ByteArray := prog_1_method_2_code
def yX4_type : MethodName := ⟨RX4, "type", "(I)I"⟩
abbrev cX4_clear : ByteArray := prog_1_method_3_code
def yX4_clear : MethodName := ⟨RX4, "clear", "()I"⟩
abbrev cX4_tells : ByteArray := prog_1_method_4_code
def yX4_tells : MethodName := ⟨RX4, "tells", "()I"⟩
abbrev cX4_drives : ByteArray := prog_1_method_5_code
def yX4_drives : MethodName := ⟨RX4, "drives", "(IIII)I"⟩
abbrev cX4_loses : ByteArray := prog_1_method_6_code
def yX4_loses : MethodName := ⟨RX4, "loses", "(I)I"⟩
abbrev cX4_mends : ByteArray := prog_1_method_7_code
def yX4_mends : MethodName := ⟨RX4, "mends", "(I)I"⟩
abbrev cX4_loads : ByteArray := prog_1_method_8_code
def yX4_loads : MethodName := ⟨RX4, "loads", "(II)I"⟩
abbrev cX4_moves : ByteArray := prog_1_method_9_code
def yX4_moves : MethodName := ⟨RX4, "moves", "(III)I"⟩
abbrev cX4_winds : ByteArray := prog_1_method_10_code
def yX4_winds : MethodName := ⟨RX4, "winds", "(II)I"⟩
abbrev cX4_undo : ByteArray := prog_1_method_11_code
def yX4_undo : MethodName := ⟨RX4, "undo", "()I"⟩
abbrev cX4_pile : ByteArray := prog_1_method_12_code
def yX4_pile : MethodName := ⟨RX4, "pile", "(II)J"⟩
abbrev cX4_column : ByteArray := prog_1_method_13_code
def yX4_column : MethodName := ⟨RX4, "column", "(II)J"⟩
abbrev cX4_sum : ByteArray := prog_1_method_14_code
def yX4_sum : MethodName := ⟨RX4, "sum", "(I)J"⟩
abbrev cX4_sharing : ByteArray := prog_1_method_15_code
def yX4_sharing : MethodName := ⟨RX4, "sharing", "(I)I"⟩
abbrev cX4_share : ByteArray := prog_1_method_16_code
def yX4_share : MethodName := ⟨RX4, "share", "(II)J"⟩
abbrev cX4_press : ByteArray := prog_1_method_17_code
def yX4_press : MethodName := ⟨RX4, "press", "(III)J"⟩
abbrev cX4_most : ByteArray := prog_1_method_18_code
def yX4_most : MethodName := ⟨RX4, "most", "(I)J"⟩
abbrev cX4_factor : ByteArray := prog_1_method_19_code
def yX4_factor : MethodName := ⟨RX4, "factor", "(I)J"⟩
abbrev cX4_kern : ByteArray := prog_1_method_20_code
def yX4_kern : MethodName := ⟨RX4, "kern", "(II)I"⟩
abbrev cX4_kerns : ByteArray := prog_1_method_21_code
def yX4_kerns : MethodName := ⟨RX4, "kerns", "(I)I"⟩
abbrev cX4_without : ByteArray := prog_1_method_22_code
def yX4_without : MethodName := ⟨RX4, "without", "(II)J"⟩
abbrev cX4_key : ByteArray := prog_1_method_23_code
def yX4_key : MethodName := ⟨RX4, "key", "()I"⟩
abbrev cX4_extra : ByteArray := prog_1_method_24_code
def yX4_extra : MethodName := ⟨RX4, "extra", "(II)I"⟩
abbrev cX4_odds : ByteArray := prog_1_method_25_code
def yX4_odds : MethodName := ⟨RX4, "odds", "(II)I"⟩
abbrev cX4_hunts : ByteArray := prog_1_method_26_code
def yX4_hunts : MethodName := ⟨RX4, "hunts", "(I)I"⟩
abbrev cX4_sees : ByteArray := prog_1_method_27_code
def yX4_sees : MethodName := ⟨RX4, "sees", "(II)I"⟩
abbrev cX4_forget : ByteArray := prog_1_method_28_code
def yX4_forget : MethodName := ⟨RX4, "forget", "()I"⟩
abbrev cX4_spots : ByteArray := prog_1_method_29_code
def yX4_spots : MethodName := ⟨RX4, "spots", "(I)I"⟩
abbrev cX4_ask : ByteArray := prog_1_method_30_code
def yX4_ask : MethodName := ⟨RX4, "ask", "()I"⟩
abbrev cX4_keep : ByteArray := prog_1_method_31_code
def yX4_keep : MethodName := ⟨RX4, "keep", "(I)I"⟩
abbrev cX4_back : ByteArray := prog_1_method_32_code
def yX4_back : MethodName := ⟨RX4, "back", "(I)I"⟩
abbrev cX4_count : ByteArray := prog_1_method_33_code
def yX4_count : MethodName := ⟨RX4, "count", "(I)I"⟩
abbrev cX4_isPlace : ByteArray := prog_1_method_34_code
def yX4_isPlace : MethodName := ⟨RX4, "isPlace", "(II)Z"⟩
abbrev cX4_isPileKind : ByteArray := prog_1_method_35_code
def yX4_isPileKind : MethodName := ⟨RX4, "isPileKind", "(II)Z"⟩
abbrev cX4_isPile : ByteArray := prog_1_method_36_code
def yX4_isPile : MethodName := ⟨RX4, "isPile", "(I)Z"⟩
abbrev cX4_isColumn : ByteArray := prog_1_method_37_code
def yX4_isColumn : MethodName := ⟨RX4, "isColumn", "(I)Z"⟩
abbrev cX4_xOf : ByteArray := prog_1_method_38_code
def yX4_xOf : MethodName := ⟨RX4, "xOf", "(I)I"⟩
abbrev cX4_yOf : ByteArray := prog_1_method_39_code
def yX4_yOf : MethodName := ⟨RX4, "yOf", "(I)I"⟩
abbrev cX4_record : ByteArray := prog_1_method_40_code
def yX4_record : MethodName := ⟨RX4, "record", "()V"⟩
abbrev cX4_dropSights : ByteArray := prog_1_method_41_code
def yX4_dropSights : MethodName := ⟨RX4, "dropSights", "()I"⟩
abbrev cX4_takePresent : ByteArray := prog_1_method_42_code
def yX4_takePresent : MethodName := ⟨RX4, "takePresent", "()V"⟩
abbrev cX4_spreadPresent : ByteArray := prog_1_method_43_code
def yX4_spreadPresent : MethodName := ⟨RX4, "spreadPresent", "()V"⟩
abbrev cX4_bracePresent : ByteArray := prog_1_method_44_code
def yX4_bracePresent : MethodName := ⟨RX4, "bracePresent", "()Z"⟩
abbrev cX4_greatestUse : ByteArray := prog_1_method_45_code
def yX4_greatestUse : MethodName := ⟨RX4, "greatestUse", "(I)J"⟩
abbrev cX4_standsOn : ByteArray := prog_1_method_46_code
def yX4_standsOn : MethodName := ⟨RX4, "standsOn", "(I)Z"⟩
abbrev cX4_isSpot : ByteArray := prog_1_method_47_code
def yX4_isSpot : MethodName := ⟨RX4, "isSpot", "(I)Z"⟩
abbrev cX4_groupShares : ByteArray := prog_1_method_48_code
def yX4_groupShares : MethodName := ⟨RX4, "groupShares", "()V"⟩
abbrev cX4_pileWithSmallestLargestGroup : ByteArray := prog_1_method_49_code
def yX4_pileWithSmallestLargestGroup : MethodName := ⟨RX4, "pileWithSmallestLargestGroup", "()I"⟩
abbrev cX4_power : ByteArray := prog_1_method_50_code
def yX4_power : MethodName := ⟨RX4, "power", "(II)I"⟩
abbrev cX4_inLowestTerms : ByteArray := prog_1_method_51_code
def yX4_inLowestTerms : MethodName := ⟨RX4, "inLowestTerms", "(JJI)J"⟩
abbrev cX4_commonDivisor : ByteArray := prog_1_method_52_code
def yX4_commonDivisor : MethodName := ⟨RX4, "commonDivisor", "(JJ)J"⟩
abbrev cX4_compareFractions : ByteArray := prog_1_method_53_code
def yX4_compareFractions : MethodName := ⟨RX4, "compareFractions", "(JJJJ)I"⟩
def RX5 : String := "PileSharesModel"
def TX5 : u_T := fun k => match k with
  | 0 => ("PileSharesModel", "s", "[I", true)
  | 1 => ("PileSharesModel", "past", "[I", true)
  | 2 => ("PileSharesModel", "undos", "I", false)
  | 3 => ("PileSharesModel", "kept", "[I", true)
  | 4 => ("PileSharesModel", "isKept", "[Z", true)
  | 5 => ("PileSharesModel", "hunted", "I", false)
  | 6 => ("PileSharesModel", "sight", "[I", true)
  | 7 => ("PileSharesModel", "sights", "I", false)
  | 8 => ("PileSharesModel", "text", "[I", true)
  | 9 => ("PileSharesModel", "typed", "I", false)
  | 10 => ("PileSharesModel", "at", "I", false)
  | 11 => ("PileSharesModel", "start", "I", false)
  | 12 => ("PileSharesModel", "token", "I", false)
  | 13 => ("PileSharesModel", "value", "I", false)
  | 14 => ("PileSharesModel", "fault", "I", false)
  | 15 => ("PileSharesModel", "draft", "[I", true)
  | 16 => ("PileSharesModel", "isBlown", "Z", false)
  | 17 => ("PileSharesModel", "px", "[I", true)
  | 18 => ("PileSharesModel", "py", "[I", true)
  | 19 => ("PileSharesModel", "pk", "[I", true)
  | 20 => ("PileSharesModel", "pc", "[I", true)
  | 21 => ("PileSharesModel", "many", "I", false)
  | 22 => ("PileSharesModel", "whole", "I", false)
  | 23 => ("PileSharesModel", "sumW", "J", false)
  | 24 => ("PileSharesModel", "sumU", "J", false)
  | 25 => ("PileSharesModel", "sumV", "J", false)
  | 26 => ("PileSharesModel", "inside", "I", false)
  | 27 => ("PileSharesModel", "rounds", "I", false)
  | 28 => ("PileSharesModel", "isSettled", "Z", false)
  | 29 => ("PileSharesModel", "all", "J", false)
  | 30 => ("PileSharesModel", "da", "J", false)
  | 31 => ("PileSharesModel", "db", "J", false)
  | 32 => ("PileSharesModel", "dc", "J", false)
  | 33 => ("PileSharesModel", "useUp", "J", false)
  | 34 => ("PileSharesModel", "useDown", "J", false)
  | 35 => ("PileSharesModel", "used", "I", false)
  | 36 => ("PileSharesModel", "isSpot", "[Z", true)
  | 37 => ("PileSharesModel", "borne", "[I", true)
  | 38 => ("PileSharesModel", "spots", "I", false)
  | 39 => ("PileSharesModel", "firstSpot", "I", false)
  | _ => ("PileSharesModel", "alike", "[I", true)
def tyX5 : Nat → FieldType := fun k => match k with
  | 0 => .array .int
  | 1 => .array .int
  | 2 => .int
  | 3 => .array .int
  | 4 => .array .boolean
  | 5 => .int
  | 6 => .array .int
  | 7 => .int
  | 8 => .array .int
  | 9 => .int
  | 10 => .int
  | 11 => .int
  | 12 => .int
  | 13 => .int
  | 14 => .int
  | 15 => .array .int
  | 16 => .boolean
  | 17 => .array .int
  | 18 => .array .int
  | 19 => .array .int
  | 20 => .array .int
  | 21 => .int
  | 22 => .int
  | 23 => .long
  | 24 => .long
  | 25 => .long
  | 26 => .int
  | 27 => .int
  | 28 => .boolean
  | 29 => .long
  | 30 => .long
  | 31 => .long
  | 32 => .long
  | 33 => .long
  | 34 => .long
  | 35 => .int
  | 36 => .array .boolean
  | 37 => .array .int
  | 38 => .int
  | 39 => .int
  | _ => .array .int
abbrev wsX50 : List Cond := u_ws RX5 TX5 41
theorem nmX5 : ∀ a, a < 41 → ∀ b, b < 41 → a ≠ b → (TX5 a).2.1 ≠ (TX5 b).2.1 := by decide +kernel
theorem tyX5_ok : ∀ k, k < 41 → parseFieldDescriptor (TX5 k).2.2.1 = some (tyX5 k) := by decide +kernel
abbrev cX5_init : ByteArray := prog_7_method_1_code
def yX5_init : MethodName := ⟨RX5, "<init>", "()V"⟩
abbrev cX5_in : ByteArray := prog_7_method_2_code
def yX5_in : MethodName := ⟨RX5, "in", "(III)Z"⟩
abbrev cX5_ofPile : ByteArray := prog_7_method_3_code
def yX5_ofPile : MethodName := ⟨RX5, "ofPile", "(II)I"⟩
abbrev cX5_ofColumn : ByteArray := prog_7_method_4_code
def yX5_ofColumn : MethodName := ⟨RX5, "ofColumn", "(II)I"⟩
abbrev cX5_isPile : ByteArray := prog_7_method_5_code
def yX5_isPile : MethodName := ⟨RX5, "isPile", "(I)Z"⟩
abbrev cX5_isColumn : ByteArray := prog_7_method_6_code
def yX5_isColumn : MethodName := ⟨RX5, "isColumn", "(I)Z"⟩
abbrev cX5_isPlace : ByteArray := prog_7_method_7_code
def yX5_isPlace : MethodName := ⟨RX5, "isPlace", "(II)Z"⟩
abbrev cX5_type : ByteArray := prog_7_method_8_code
def yX5_type : MethodName := ⟨RX5, "type", "(I)I"⟩
abbrev cX5_clear : ByteArray := prog_7_method_9_code
def yX5_clear : MethodName := ⟨RX5, "clear", "()I"⟩
abbrev cX5_isFigure : ByteArray := prog_7_method_10_code
def yX5_isFigure : MethodName := ⟨RX5, "isFigure", "()Z"⟩
abbrev cX5_next : ByteArray := prog_7_method_11_code
def yX5_next : MethodName := ⟨RX5, "next", "()V"⟩
abbrev cX5_due : ByteArray := prog_7_method_12_code
def yX5_due : MethodName := ⟨RX5, "due", "(Z)V"⟩
abbrev cX5_reads : ByteArray := prog_7_method_13_code
def yX5_reads : MethodName := ⟨RX5, "reads", "(IIII)V"⟩
abbrev cX5_isTakenByDraft : ByteArray := prog_7_method_14_code
def yX5_isTakenByDraft : MethodName := ⟨RX5, "isTakenByDraft", "(II)Z"⟩
abbrev cX5_readsPile : ByteArray := prog_7_method_15_code
def yX5_readsPile : MethodName := ⟨RX5, "readsPile", "()V"⟩
abbrev cX5_readsColumn : ByteArray := prog_7_method_16_code
def yX5_readsColumn : MethodName := ⟨RX5, "readsColumn", "()V"⟩
abbrev cX5_readsWind : ByteArray := prog_7_method_17_code
def yX5_readsWind : MethodName := ⟨RX5, "readsWind", "()V"⟩
abbrev cX5_tells : ByteArray := prog_7_method_18_code
def yX5_tells : MethodName := ⟨RX5, "tells", "()I"⟩
abbrev cX5_notes : ByteArray := prog_7_method_19_code
def yX5_notes : MethodName := ⟨RX5, "notes", "()V"⟩
abbrev cX5_isTaken : ByteArray := prog_7_method_20_code
def yX5_isTaken : MethodName := ⟨RX5, "isTaken", "(II)Z"⟩
abbrev cX5_isKind : ByteArray := prog_7_method_21_code
def yX5_isKind : MethodName := ⟨RX5, "isKind", "(II)Z"⟩
abbrev cX5_drives : ByteArray := prog_7_method_22_code
def yX5_drives : MethodName := ⟨RX5, "drives", "(IIII)I"⟩
abbrev cX5_wholes : ByteArray := prog_7_method_23_code
def yX5_wholes : MethodName := ⟨RX5, "wholes", "()I"⟩
abbrev cX5_becomes : ByteArray := prog_7_method_24_code
def yX5_becomes : MethodName := ⟨RX5, "becomes", "(II)I"⟩
abbrev cX5_loses : ByteArray := prog_7_method_25_code
def yX5_loses : MethodName := ⟨RX5, "loses", "(I)I"⟩
abbrev cX5_mends : ByteArray := prog_7_method_26_code
def yX5_mends : MethodName := ⟨RX5, "mends", "(I)I"⟩
abbrev cX5_loads : ByteArray := prog_7_method_27_code
def yX5_loads : MethodName := ⟨RX5, "loads", "(II)I"⟩
abbrev cX5_moves : ByteArray := prog_7_method_28_code
def yX5_moves : MethodName := ⟨RX5, "moves", "(III)I"⟩
abbrev cX5_winds : ByteArray := prog_7_method_29_code
def yX5_winds : MethodName := ⟨RX5, "winds", "(II)I"⟩
abbrev cX5_undo : ByteArray := prog_7_method_30_code
def yX5_undo : MethodName := ⟨RX5, "undo", "()I"⟩
abbrev cX5_laysPiles : ByteArray := prog_7_method_31_code
def yX5_laysPiles : MethodName := ⟨RX5, "laysPiles", "()V"⟩
abbrev cX5_sumOf : ByteArray := prog_7_method_32_code
def yX5_sumOf : MethodName := ⟨RX5, "sumOf", "(I)J"⟩
abbrev cX5_laysSums : ByteArray := prog_7_method_33_code
def yX5_laysSums : MethodName := ⟨RX5, "laysSums", "()V"⟩
abbrev cX5_laysLoad : ByteArray := prog_7_method_34_code
def yX5_laysLoad : MethodName := ⟨RX5, "laysLoad", "(III)V"⟩
abbrev cX5_det : ByteArray := prog_7_method_35_code
def yX5_det : MethodName := ⟨RX5, "det", "(JJJJJJJJJ)J"⟩
abbrev cX5_isSteady : ByteArray := prog_7_method_36_code
def yX5_isSteady : MethodName := ⟨RX5, "isSteady", "(I)Z"⟩
abbrev cX5_pressAt : ByteArray := prog_7_method_37_code
def yX5_pressAt : MethodName := ⟨RX5, "pressAt", "(II)J"⟩
abbrev cX5_bears : ByteArray := prog_7_method_38_code
def yX5_bears : MethodName := ⟨RX5, "bears", "(I)J"⟩
abbrev cX5_goesOut : ByteArray := prog_7_method_39_code
def yX5_goesOut : MethodName := ⟨RX5, "goesOut", "()I"⟩
abbrev cX5_comesIn : ByteArray := prog_7_method_40_code
def yX5_comesIn : MethodName := ⟨RX5, "comesIn", "()I"⟩
abbrev cX5_shares : ByteArray := prog_7_method_41_code
def yX5_shares : MethodName := ⟨RX5, "shares", "()V"⟩
abbrev cX5_sharesNow : ByteArray := prog_7_method_42_code
def yX5_sharesNow : MethodName := ⟨RX5, "sharesNow", "()V"⟩
abbrev cX5_common : ByteArray := prog_7_method_43_code
def yX5_common : MethodName := ⟨RX5, "common", "(JJ)J"⟩
abbrev cX5_part : ByteArray := prog_7_method_44_code
def yX5_part : MethodName := ⟨RX5, "part", "(JJI)J"⟩
abbrev cX5_against : ByteArray := prog_7_method_45_code
def yX5_against : MethodName := ⟨RX5, "against", "(JJJJ)I"⟩
abbrev cX5_laysMost : ByteArray := prog_7_method_46_code
def yX5_laysMost : MethodName := ⟨RX5, "laysMost", "()Z"⟩
abbrev cX5_tellsMost : ByteArray := prog_7_method_47_code
def yX5_tellsMost : MethodName := ⟨RX5, "tellsMost", "(I)J"⟩
abbrev cX5_pile : ByteArray := prog_7_method_48_code
def yX5_pile : MethodName := ⟨RX5, "pile", "(II)J"⟩
abbrev cX5_column : ByteArray := prog_7_method_49_code
def yX5_column : MethodName := ⟨RX5, "column", "(II)J"⟩
abbrev cX5_sum : ByteArray := prog_7_method_50_code
def yX5_sum : MethodName := ⟨RX5, "sum", "(I)J"⟩
abbrev cX5_sharing : ByteArray := prog_7_method_51_code
def yX5_sharing : MethodName := ⟨RX5, "sharing", "(I)I"⟩
abbrev cX5_share : ByteArray := prog_7_method_52_code
def yX5_share : MethodName := ⟨RX5, "share", "(II)J"⟩
abbrev cX5_press : ByteArray := prog_7_method_53_code
def yX5_press : MethodName := ⟨RX5, "press", "(III)J"⟩
abbrev cX5_most : ByteArray := prog_7_method_54_code
def yX5_most : MethodName := ⟨RX5, "most", "(I)J"⟩
abbrev cX5_factor : ByteArray := prog_7_method_55_code
def yX5_factor : MethodName := ⟨RX5, "factor", "(I)J"⟩
abbrev cX5_isKern : ByteArray := prog_7_method_56_code
def yX5_isKern : MethodName := ⟨RX5, "isKern", "(II)I"⟩
abbrev cX5_kern : ByteArray := prog_7_method_57_code
def yX5_kern : MethodName := ⟨RX5, "kern", "(II)I"⟩
abbrev cX5_kerns : ByteArray := prog_7_method_58_code
def yX5_kerns : MethodName := ⟨RX5, "kerns", "(I)I"⟩
abbrev cX5_laysWithout : ByteArray := prog_7_method_59_code
def yX5_laysWithout : MethodName := ⟨RX5, "laysWithout", "(I)Z"⟩
abbrev cX5_without : ByteArray := prog_7_method_60_code
def yX5_without : MethodName := ⟨RX5, "without", "(II)J"⟩
abbrev cX5_key : ByteArray := prog_7_method_61_code
def yX5_key : MethodName := ⟨RX5, "key", "()I"⟩
abbrev cX5_extra : ByteArray := prog_7_method_62_code
def yX5_extra : MethodName := ⟨RX5, "extra", "(II)I"⟩
abbrev cX5_odds : ByteArray := prog_7_method_63_code
def yX5_odds : MethodName := ⟨RX5, "odds", "(II)I"⟩
abbrev cX5_hunts : ByteArray := prog_7_method_64_code
def yX5_hunts : MethodName := ⟨RX5, "hunts", "(I)I"⟩
abbrev cX5_sees : ByteArray := prog_7_method_65_code
def yX5_sees : MethodName := ⟨RX5, "sees", "(II)I"⟩
abbrev cX5_forget : ByteArray := prog_7_method_66_code
def yX5_forget : MethodName := ⟨RX5, "forget", "()I"⟩
abbrev cX5_isSo : ByteArray := prog_7_method_67_code
def yX5_isSo : MethodName := ⟨RX5, "isSo", "()Z"⟩
abbrev cX5_laysSpots : ByteArray := prog_7_method_68_code
def yX5_laysSpots : MethodName := ⟨RX5, "laysSpots", "()V"⟩
abbrev cX5_spots : ByteArray := prog_7_method_69_code
def yX5_spots : MethodName := ⟨RX5, "spots", "(I)I"⟩
abbrev cX5_mostAlike : ByteArray := prog_7_method_70_code
def yX5_mostAlike : MethodName := ⟨RX5, "mostAlike", "(I)I"⟩
abbrev cX5_ask : ByteArray := prog_7_method_71_code
def yX5_ask : MethodName := ⟨RX5, "ask", "()I"⟩
abbrev cX5_keep : ByteArray := prog_7_method_72_code
def yX5_keep : MethodName := ⟨RX5, "keep", "(I)I"⟩
abbrev cX5_back : ByteArray := prog_7_method_73_code
def yX5_back : MethodName := ⟨RX5, "back", "(I)I"⟩
abbrev cX5_count : ByteArray := prog_7_method_74_code
def yX5_count : MethodName := ⟨RX5, "count", "(I)I"⟩
def RJ6 : String := "java/lang/Integer"
def TJ6 : u_T := fun k => match k with
  | _ => ("", "", "", false)
def tyJ6 : Nat → FieldType := fun k => match k with
  | _ => .int
abbrev wsJ60 : List Cond := u_ws RJ6 TJ6 0
theorem nmJ6 : ∀ a, a < 0 → ∀ b, b < 0 → a ≠ b → (TJ6 a).2.1 ≠ (TJ6 b).2.1 := by decide +kernel
theorem tyJ6_ok : ∀ k, k < 0 → parseFieldDescriptor (TJ6 k).2.2.1 = some (tyJ6 k) := by decide +kernel
abbrev cJ6_bitCount_0f7a4 : ByteArray := prog_8_method_49_code
def yJ6_bitCount_0f7a4 : MethodName := ⟨RJ6, "bitCount", "(I)I"⟩
def RJ13 : String := "java/lang/Long"
def TJ13 : u_T := fun k => match k with
  | _ => ("", "", "", false)
def tyJ13 : Nat → FieldType := fun k => match k with
  | _ => .int
abbrev wsJ130 : List Cond := u_ws RJ13 TJ13 0
theorem nmJ13 : ∀ a, a < 0 → ∀ b, b < 0 → a ≠ b → (TJ13 a).2.1 ≠ (TJ13 b).2.1 := by decide +kernel
theorem tyJ13_ok : ∀ k, k < 0 → parseFieldDescriptor (TJ13 k).2.2.1 = some (tyJ13 k) := by decide +kernel
abbrev cJ13_compare_74951 : ByteArray := prog_9_method_42_code
def yJ13_compare_74951 : MethodName := ⟨RJ13, "compare", "(JJ)I"⟩
def RJ9 : String := "java/lang/Math"
def TJ9 : u_T := fun k => match k with
  | _ => ("", "", "", false)
def tyJ9 : Nat → FieldType := fun k => match k with
  | _ => .int
abbrev wsJ90 : List Cond := u_ws RJ9 TJ9 0
theorem nmJ9 : ∀ a, a < 0 → ∀ b, b < 0 → a ≠ b → (TJ9 a).2.1 ≠ (TJ9 b).2.1 := by decide +kernel
theorem tyJ9_ok : ∀ k, k < 0 → parseFieldDescriptor (TJ9 k).2.2.1 = some (tyJ9 k) := by decide +kernel
abbrev cJ9_floorDiv_f86c9 : ByteArray := prog_10_method_49_code
def yJ9_floorDiv_f86c9 : MethodName := ⟨RJ9, "floorDiv", "(JJ)J"⟩
abbrev cJ9_abs_067f4 : ByteArray := prog_10_method_61_code
def yJ9_abs_067f4 : MethodName := ⟨RJ9, "abs", "(J)J"⟩
abbrev cJ9_max_7cf53 : ByteArray := prog_10_method_65_code
def yJ9_max_7cf53 : MethodName := ⟨RJ9, "max", "(II)I"⟩
abbrev cJ9_min_7cf53 : ByteArray := prog_10_method_69_code
def yJ9_min_7cf53 : MethodName := ⟨RJ9, "min", "(II)I"⟩
def RJ10 : String := "java/lang/System"
def TJ10 : u_T := fun k => match k with
  | _ => ("", "", "", false)
def tyJ10 : Nat → FieldType := fun k => match k with
  | _ => .int
abbrev wsJ100 : List Cond := u_ws RJ10 TJ10 0
theorem nmJ10 : ∀ a, a < 0 → ∀ b, b < 0 → a ≠ b → (TJ10 a).2.1 ≠ (TJ10 b).2.1 := by decide +kernel
theorem tyJ10_ok : ∀ k, k < 0 → parseFieldDescriptor (TJ10 k).2.2.1 = some (tyJ10 k) := by decide +kernel
def RJ7 : String := "java/util/Arrays"
def TJ7 : u_T := fun k => match k with
  | _ => ("", "", "", false)
def tyJ7 : Nat → FieldType := fun k => match k with
  | _ => .int
abbrev wsJ70 : List Cond := u_ws RJ7 TJ7 0
theorem nmJ7 : ∀ a, a < 0 → ∀ b, b < 0 → a ≠ b → (TJ7 a).2.1 ≠ (TJ7 b).2.1 := by decide +kernel
theorem tyJ7_ok : ∀ k, k < 0 → parseFieldDescriptor (TJ7 k).2.2.1 = some (tyJ7 k) := by decide +kernel
abbrev cJ7_fill_53178 : ByteArray := prog_12_method_103_code
def yJ7_fill_53178 : MethodName := ⟨RJ7, "fill", "([II)V"⟩
def RL : String := "PileSharesLaw"
abbrev cL_law : ByteArray := code
def yL_law : MethodName := ⟨RL, "law", "([I)Z"⟩
def wsL_law_r1 : List Cond := [Cond.classLink RL 7 RX4, Cond.instantiable RX4 13, Cond.initialized RX4, Cond.classLink RL 10 RX5, Cond.instantiable RX5 41, Cond.initialized RX5, Cond.methodLink RL 9 yX4_init, Cond.instanceMethod yX4_init, Cond.code yX4_init cX4_init 2 none, Cond.methodLink RX4 3 objectInit, Cond.instanceMethod objectInit, Cond.code objectInit ⟨#[0xb1]⟩ 1 none, Cond.classLink RX4 9 RX3, Cond.instantiable RX3 12, Cond.initialized RX3, Cond.fieldLink RX4 12 "PileShares" "now" "LPileShares$Structure;", Cond.fieldLink RX4 16 "PileShares" "told" "LPileShares$Structure;", Cond.classLink RX4 19 RX2, Cond.instantiable RX2 7, Cond.initialized RX2, Cond.fieldLink RX4 22 "PileShares" "script" "LPileShares$Script;", Cond.fieldLink RX4 26 "PileShares" "past" "[LPileShares$Structure;", Cond.fieldLink RX4 30 "PileShares" "images" "[LPileShares$Structure;", Cond.arrayClass .boolean]
def wsL_law_r2 : List Cond := [Cond.fieldLink RX4 33 "PileShares" "kept" "[Z", Cond.fieldLink RX4 37 "PileShares" "unknown" "I", Cond.arrayClass .int, Cond.fieldLink RX4 41 "PileShares" "seenPile" "[I", Cond.fieldLink RX4 45 "PileShares" "seenShare" "[I", Cond.fieldLink RX4 48 "PileShares" "groups" "[I", Cond.classLink RX4 51 RX0, Cond.instantiable RX0 15, Cond.initialized RX0, Cond.fieldLink RX4 54 "PileShares" "spread" "LPileShares$Distribution;", Cond.instanceMethod yX3_init, Cond.code yX3_init cX3_init 1 none, Cond.methodLink RX3 3 objectInit, Cond.fieldLink RX3 9 "PileShares$Structure" "x" "[I", Cond.fieldLink RX3 15 "PileShares$Structure" "y" "[I", Cond.fieldLink RX3 18 "PileShares$Structure" "stiff" "[I", Cond.fieldLink RX3 21 "PileShares$Structure" "can" "[I", Cond.fieldLink RX3 24 "PileShares$Structure" "columnX" "[I", Cond.fieldLink RX3 27 "PileShares$Structure" "columnY" "[I", Cond.fieldLink RX3 30 "PileShares$Structure" "load" "[I", Cond.instanceMethod yX2_init, Cond.code yX2_init cX2_init 1 none, Cond.methodLink RX2 3 objectInit, Cond.fieldLink RX2 9 "PileShares$Script" "letters" "[I"]
def wsL_law_r3 : List Cond := [Cond.instanceMethod yX0_init, Cond.code yX0_init cX0_init 1 none, Cond.methodLink RX0 3 objectInit, Cond.fieldLink RX0 11 "PileShares$Distribution" "x" "[I", Cond.fieldLink RX0 15 "PileShares$Distribution" "y" "[I", Cond.fieldLink RX0 18 "PileShares$Distribution" "stiff" "[I", Cond.fieldLink RX0 21 "PileShares$Distribution" "can" "[I", Cond.classLink RX0 24 RX1, Cond.instantiable RX1 16, Cond.initialized RX1, Cond.fieldLink RX0 27 "PileShares$Distribution" "whole" "LPileShares$Plane;", Cond.fieldLink RX0 31 "PileShares$Distribution" "plane" "LPileShares$Plane;", Cond.instanceMethod yX1_init, Cond.code yX1_init cX1_init 1 none, Cond.methodLink RX1 1 objectInit, Cond.methodLink RL 12 yX5_init, Cond.instanceMethod yX5_init, Cond.code yX5_init cX5_init 1 none, Cond.methodLink RX5 1 objectInit, Cond.fieldLink RX5 7 "PileSharesModel" "s" "[I", Cond.fieldLink RX5 13 "PileSharesModel" "past" "[I", Cond.fieldLink RX5 16 "PileSharesModel" "kept" "[I", Cond.fieldLink RX5 19 "PileSharesModel" "isKept" "[Z", Cond.fieldLink RX5 23 "PileSharesModel" "hunted" "I"]
def wsL_law_r4 : List Cond := [Cond.fieldLink RX5 27 "PileSharesModel" "sight" "[I", Cond.fieldLink RX5 30 "PileSharesModel" "text" "[I", Cond.fieldLink RX5 33 "PileSharesModel" "draft" "[I", Cond.fieldLink RX5 36 "PileSharesModel" "px" "[I", Cond.fieldLink RX5 39 "PileSharesModel" "py" "[I", Cond.fieldLink RX5 42 "PileSharesModel" "pk" "[I", Cond.fieldLink RX5 45 "PileSharesModel" "pc" "[I", Cond.fieldLink RX5 48 "PileSharesModel" "isSpot" "[Z", Cond.fieldLink RX5 51 "PileSharesModel" "borne" "[I", Cond.fieldLink RX5 54 "PileSharesModel" "alike" "[I", Cond.methodLink RL 13 yX4_type, Cond.instanceMethod yX4_type, Cond.selects RX4 yX4_type yX4_type, Cond.code yX4_type cX4_type 2 (some .int), Cond.methodLink RX4 58 yX2_append, Cond.instanceMethod yX2_append, Cond.selects RX2 yX2_append yX2_append, Cond.code yX2_append cX2_append 2 (some .boolean), Cond.fieldLink RX2 15 "PileShares$Script" "length" "I", Cond.methodLink RL 17 yX5_type, Cond.instanceMethod yX5_type, Cond.selects RX5 yX5_type yX5_type, Cond.code yX5_type cX5_type 2 (some .int), Cond.fieldLink RX5 61 "PileSharesModel" "typed" "I"]
def wsL_law_r5 : List Cond := [Cond.methodLink RX5 57 yX5_in, Cond.static yX5_in, Cond.code yX5_in cX5_in 3 (some .boolean), Cond.methodLink RL 18 yX4_clear, Cond.instanceMethod yX4_clear, Cond.selects RX4 yX4_clear yX4_clear, Cond.code yX4_clear cX4_clear 2 (some .int), Cond.methodLink RL 22 yX5_clear, Cond.instanceMethod yX5_clear, Cond.selects RX5 yX5_clear yX5_clear, Cond.code yX5_clear cX5_clear 2 (some .int), Cond.methodLink RL 23 yX4_tells, Cond.instanceMethod yX4_tells, Cond.selects RX4 yX4_tells yX4_tells, Cond.code yX4_tells cX4_tells 3 (some .int), Cond.fieldLink RX4 73 "PileShares" "recorded" "I", Cond.fieldLink RX4 76 "PileShares" "sights" "I", Cond.methodLink RX4 65 yX2_readInto, Cond.instanceMethod yX2_readInto, Cond.selects RX2 yX2_readInto yX2_readInto, Cond.code yX2_readInto cX2_readInto 3 (some .int), Cond.fieldLink RX2 24 "PileShares$Script" "at" "I", Cond.fieldLink RX2 27 "PileShares$Script" "windTold" "Z", Cond.methodLink RX2 19 yX3_empty]
def wsL_law_r6 : List Cond := [Cond.instanceMethod yX3_empty, Cond.selects RX3 yX3_empty yX3_empty, Cond.code yX3_empty cX3_empty 1 none, Cond.fieldLink RX3 33 "PileShares$Structure" "piles" "I", Cond.fieldLink RX3 37 "PileShares$Structure" "intact" "I", Cond.fieldLink RX3 40 "PileShares$Structure" "columns" "I", Cond.fieldLink RX3 43 "PileShares$Structure" "windX" "I", Cond.fieldLink RX3 46 "PileShares$Structure" "windY" "I", Cond.methodLink RX2 31 yX2_skipBlanks, Cond.instanceMethod yX2_skipBlanks, Cond.selects RX2 yX2_skipBlanks yX2_skipBlanks, Cond.code yX2_skipBlanks cX2_skipBlanks 2 none, Cond.methodLink RX2 34 yX2_readItem, Cond.instanceMethod yX2_readItem, Cond.selects RX2 yX2_readItem yX2_readItem, Cond.code yX2_readItem cX2_readItem 2 (some .boolean), Cond.methodLink RX2 38 yX2_letterHere, Cond.instanceMethod yX2_letterHere, Cond.selects RX2 yX2_letterHere yX2_letterHere, Cond.code yX2_letterHere cX2_letterHere 1 (some .int), Cond.methodLink RX2 45 yX2_readPile, Cond.instanceMethod yX2_readPile, Cond.selects RX2 yX2_readPile yX2_readPile, Cond.code yX2_readPile cX2_readPile 4 (some .boolean)]
def wsL_law_r7 : List Cond := [Cond.fieldLink RX2 61 "PileShares$Script" "placeX" "I", Cond.fieldLink RX2 64 "PileShares$Script" "placeY" "I", Cond.fieldLink RX2 71 "PileShares$Script" "numberStart" "I", Cond.methodLink RX2 57 yX2_readPlace, Cond.instanceMethod yX2_readPlace, Cond.selects RX2 yX2_readPlace yX2_readPlace, Cond.code yX2_readPlace cX2_readPlace 3 (some .boolean), Cond.methodLink RX2 74 yX2_readNumber, Cond.instanceMethod yX2_readNumber, Cond.selects RX2 yX2_readNumber yX2_readNumber, Cond.code yX2_readNumber cX2_readNumber 6 (some .int), Cond.methodLink RX2 99 Lib.Math.min.name, Cond.static Lib.Math.min.name, Cond.initialized "java/lang/Math", Cond.code Lib.Math.min.name Lib.Math.min.code 2 (some .int), Cond.methodLink RX2 95 yX2_isDigit, Cond.static yX2_isDigit, Cond.code yX2_isDigit cX2_isDigit 1 (some .boolean), Cond.methodLink RX2 67 yX3_hasPileAt, Cond.instanceMethod yX3_hasPileAt, Cond.selects RX3 yX3_hasPileAt yX3_hasPileAt, Cond.code yX3_hasPileAt cX3_hasPileAt 4 (some .boolean), Cond.methodLink RX2 78 yX2_readSemicolon, Cond.instanceMethod yX2_readSemicolon]
def wsL_law_r8 : List Cond := [Cond.selects RX2 yX2_readSemicolon yX2_readSemicolon, Cond.code yX2_readSemicolon cX2_readSemicolon 1 (some .boolean), Cond.methodLink RX2 81 yX3_addPile, Cond.instanceMethod yX3_addPile, Cond.selects RX3 yX3_addPile yX3_addPile, Cond.code yX3_addPile cX3_addPile 5 none, Cond.methodLink RX2 51 yX2_readColumn, Cond.instanceMethod yX2_readColumn, Cond.selects RX2 yX2_readColumn yX2_readColumn, Cond.code yX2_readColumn cX2_readColumn 3 (some .boolean), Cond.methodLink RX2 85 yX3_addColumn, Cond.instanceMethod yX3_addColumn, Cond.selects RX3 yX3_addColumn yX3_addColumn, Cond.code yX3_addColumn cX3_addColumn 4 none, Cond.methodLink RX2 54 yX2_readWind, Cond.instanceMethod yX2_readWind, Cond.selects RX2 yX2_readWind yX2_readWind, Cond.code yX2_readWind cX2_readWind 4 (some .boolean), Cond.methodLink RX4 69 yX3_copy, Cond.static yX3_copy, Cond.code yX3_copy cX3_copy 2 none, Cond.methodLink RX3 49 arraycopyName, Cond.native arraycopyName, Cond.static arraycopyName]
def wsL_law_r9 : List Cond := [Cond.initialized "java/lang/System", Cond.methodLink RL 26 yX5_tells, Cond.instanceMethod yX5_tells, Cond.selects RX5 yX5_tells yX5_tells, Cond.code yX5_tells cX5_tells 3 (some .int), Cond.fieldLink RX5 64 "PileSharesModel" "at" "I", Cond.fieldLink RX5 80 "PileSharesModel" "fault" "I", Cond.fieldLink RX5 98 "PileSharesModel" "isBlown" "Z", Cond.fieldLink RX5 70 "PileSharesModel" "token" "I", Cond.fieldLink RX5 111 "PileSharesModel" "undos" "I", Cond.fieldLink RX5 114 "PileSharesModel" "sights" "I", Cond.methodLink RX5 87 yX5_next, Cond.instanceMethod yX5_next, Cond.selects RX5 yX5_next yX5_next, Cond.code yX5_next cX5_next 2 none, Cond.fieldLink RX5 67 "PileSharesModel" "start" "I", Cond.fieldLink RX5 77 "PileSharesModel" "value" "I", Cond.methodLink RX5 73 yX5_isFigure, Cond.instanceMethod yX5_isFigure, Cond.selects RX5 yX5_isFigure yX5_isFigure, Cond.code yX5_isFigure cX5_isFigure 1 (some .boolean), Cond.methodLink RX5 102 yX5_readsPile, Cond.instanceMethod yX5_readsPile, Cond.selects RX5 yX5_readsPile yX5_readsPile]
def wsL_law_r10 : List Cond := [Cond.code yX5_readsPile cX5_readsPile 2 none, Cond.methodLink RX5 83 yX5_due, Cond.instanceMethod yX5_due, Cond.selects RX5 yX5_due yX5_due, Cond.code yX5_due cX5_due 2 none, Cond.methodLink RX5 90 yX5_reads, Cond.instanceMethod yX5_reads, Cond.selects RX5 yX5_reads yX5_reads, Cond.code yX5_reads cX5_reads 5 none, Cond.methodLink RX5 94 yX5_isTakenByDraft, Cond.instanceMethod yX5_isTakenByDraft, Cond.selects RX5 yX5_isTakenByDraft yX5_isTakenByDraft, Cond.code yX5_isTakenByDraft cX5_isTakenByDraft 5 (some .boolean), Cond.methodLink RX5 105 yX5_readsColumn, Cond.instanceMethod yX5_readsColumn, Cond.selects RX5 yX5_readsColumn yX5_readsColumn, Cond.code yX5_readsColumn cX5_readsColumn 2 none, Cond.methodLink RX5 108 yX5_readsWind, Cond.instanceMethod yX5_readsWind, Cond.selects RX5 yX5_readsWind yX5_readsWind, Cond.code yX5_readsWind cX5_readsWind 1 none, Cond.methodLink RL 27 yX4_drives, Cond.instanceMethod yX4_drives, Cond.selects RX4 yX4_drives yX4_drives]
def wsL_law_r11 : List Cond := [Cond.code yX4_drives cX4_drives 5 (some .int), Cond.methodLink RX4 79 yX4_isPlace, Cond.static yX4_isPlace, Cond.code yX4_isPlace cX4_isPlace 2 (some .boolean), Cond.methodLink RX4 83 yX4_isPileKind, Cond.static yX4_isPileKind, Cond.code yX4_isPileKind cX4_isPileKind 2 (some .boolean), Cond.methodLink RX4 86 yX3_hasPileAt, Cond.methodLink RX4 92 yX4_record, Cond.instanceMethod yX4_record, Cond.selects RX4 yX4_record yX4_record, Cond.code yX4_record cX4_record 3 none, Cond.methodLink RX4 95 yX3_addPile, Cond.methodLink RL 31 yX5_drives, Cond.instanceMethod yX5_drives, Cond.selects RX5 yX5_drives yX5_drives, Cond.code yX5_drives cX5_drives 6 (some .int), Cond.methodLink RX5 121 yX5_isPlace, Cond.static yX5_isPlace, Cond.code yX5_isPlace cX5_isPlace 2 (some .boolean), Cond.methodLink RX5 124 yX5_isKind, Cond.static yX5_isKind, Cond.code yX5_isKind cX5_isKind 2 (some .boolean), Cond.methodLink RX5 127 yX5_isTaken]
def wsL_law_r12 : List Cond := [Cond.instanceMethod yX5_isTaken, Cond.selects RX5 yX5_isTaken yX5_isTaken, Cond.code yX5_isTaken cX5_isTaken 5 (some .boolean), Cond.methodLink RX5 117 yX5_ofPile, Cond.instanceMethod yX5_ofPile, Cond.selects RX5 yX5_ofPile yX5_ofPile, Cond.code yX5_ofPile cX5_ofPile 3 (some .int), Cond.methodLink RX5 130 yX5_notes, Cond.instanceMethod yX5_notes, Cond.selects RX5 yX5_notes yX5_notes, Cond.code yX5_notes cX5_notes 2 none, Cond.methodLink RL 32 yX4_loses, Cond.instanceMethod yX4_loses, Cond.selects RX4 yX4_loses yX4_loses, Cond.code yX4_loses cX4_loses 2 (some .int), Cond.methodLink RX4 99 yX4_isPile, Cond.instanceMethod yX4_isPile, Cond.selects RX4 yX4_isPile yX4_isPile, Cond.code yX4_isPile cX4_isPile 2 (some .boolean), Cond.methodLink RX4 102 yX3_isIntact, Cond.instanceMethod yX3_isIntact, Cond.selects RX3 yX3_isIntact yX3_isIntact, Cond.code yX3_isIntact cX3_isIntact 2 (some .boolean), Cond.methodLink RX4 108 yJ6_bitCount_0f7a4]
def wsL_law_r13 : List Cond := [Cond.static yJ6_bitCount_0f7a4, Cond.initialized RJ6, Cond.code yJ6_bitCount_0f7a4 cJ6_bitCount_0f7a4 1 (some .int), Cond.constant RJ6 265 (1431655765), Cond.constant RJ6 266 (858993459), Cond.constant RJ6 267 (252645135), Cond.methodLink RL 35 yX5_loses, Cond.instanceMethod yX5_loses, Cond.selects RX5 yX5_loses yX5_loses, Cond.code yX5_loses cX5_loses 2 (some .int), Cond.methodLink RX5 141 yX5_becomes, Cond.instanceMethod yX5_becomes, Cond.selects RX5 yX5_becomes yX5_becomes, Cond.code yX5_becomes cX5_becomes 3 (some .int), Cond.methodLink RX5 133 yX5_isPile, Cond.instanceMethod yX5_isPile, Cond.selects RX5 yX5_isPile yX5_isPile, Cond.code yX5_isPile cX5_isPile 2 (some .boolean), Cond.methodLink RX5 137 yX5_wholes, Cond.instanceMethod yX5_wholes, Cond.selects RX5 yX5_wholes yX5_wholes, Cond.code yX5_wholes cX5_wholes 3 (some .int), Cond.methodLink RL 36 yX4_mends, Cond.instanceMethod yX4_mends]
def wsL_law_r14 : List Cond := [Cond.selects RX4 yX4_mends yX4_mends, Cond.code yX4_mends cX4_mends 2 (some .int), Cond.methodLink RL 39 yX5_mends, Cond.instanceMethod yX5_mends, Cond.selects RX5 yX5_mends yX5_mends, Cond.code yX5_mends cX5_mends 2 (some .int), Cond.methodLink RL 40 yX4_loads, Cond.instanceMethod yX4_loads, Cond.selects RX4 yX4_loads yX4_loads, Cond.code yX4_loads cX4_loads 4 (some .int), Cond.methodLink RX4 114 yX4_isColumn, Cond.instanceMethod yX4_isColumn, Cond.selects RX4 yX4_isColumn yX4_isColumn, Cond.code yX4_isColumn cX4_isColumn 2 (some .boolean), Cond.methodLink RL 44 yX5_loads, Cond.instanceMethod yX5_loads, Cond.selects RX5 yX5_loads yX5_loads, Cond.code yX5_loads cX5_loads 4 (some .int), Cond.methodLink RX5 144 yX5_isColumn, Cond.instanceMethod yX5_isColumn, Cond.selects RX5 yX5_isColumn yX5_isColumn, Cond.code yX5_isColumn cX5_isColumn 2 (some .boolean), Cond.methodLink RX5 147 yX5_ofColumn, Cond.instanceMethod yX5_ofColumn]
def wsL_law_r15 : List Cond := [Cond.selects RX5 yX5_ofColumn yX5_ofColumn, Cond.code yX5_ofColumn cX5_ofColumn 3 (some .int), Cond.methodLink RL 45 yX4_moves, Cond.instanceMethod yX4_moves, Cond.selects RX4 yX4_moves yX4_moves, Cond.code yX4_moves cX4_moves 4 (some .int), Cond.methodLink RL 49 yX5_moves, Cond.instanceMethod yX5_moves, Cond.selects RX5 yX5_moves yX5_moves, Cond.code yX5_moves cX5_moves 4 (some .int), Cond.methodLink RL 50 yX4_winds, Cond.instanceMethod yX4_winds, Cond.selects RX4 yX4_winds yX4_winds, Cond.code yX4_winds cX4_winds 3 (some .int), Cond.methodLink RL 53 yX5_winds, Cond.instanceMethod yX5_winds, Cond.selects RX5 yX5_winds yX5_winds, Cond.code yX5_winds cX5_winds 3 (some .int), Cond.methodLink RL 54 yX4_undo, Cond.instanceMethod yX4_undo, Cond.selects RX4 yX4_undo yX4_undo, Cond.code yX4_undo cX4_undo 1 (some .int), Cond.methodLink RL 57 yX5_undo, Cond.instanceMethod yX5_undo]
def wsL_law_r16 : List Cond := [Cond.selects RX5 yX5_undo yX5_undo, Cond.code yX5_undo cX5_undo 2 (some .int), Cond.methodLink RL 58 yX4_pile, Cond.instanceMethod yX4_pile, Cond.selects RX4 yX4_pile yX4_pile, Cond.code yX4_pile cX4_pile 3 (some .long), Cond.constantLong RX4 132 (-1000000000000000000), Cond.constantLong RX4 156 (-9), Cond.methodLink RX4 146 yX4_spreadPresent, Cond.instanceMethod yX4_spreadPresent, Cond.selects RX4 yX4_spreadPresent yX4_spreadPresent, Cond.code yX4_spreadPresent cX4_spreadPresent 1 none, Cond.methodLink RX4 230 yX4_takePresent, Cond.instanceMethod yX4_takePresent, Cond.selects RX4 yX4_takePresent yX4_takePresent, Cond.code yX4_takePresent cX4_takePresent 1 none, Cond.methodLink RX4 263 yX0_takePiles, Cond.instanceMethod yX0_takePiles, Cond.selects RX0 yX0_takePiles yX0_takePiles, Cond.code yX0_takePiles cX0_takePiles 2 none, Cond.methodLink RX0 37 arraycopyName, Cond.fieldLink RX0 50 "PileShares$Distribution" "piles" "I", Cond.methodLink RX4 158 yX3_weight, Cond.instanceMethod yX3_weight]
def wsL_law_r17 : List Cond := [Cond.selects RX3 yX3_weight yX3_weight, Cond.code yX3_weight cX3_weight 3 (some .int), Cond.methodLink RX4 162 yX3_momentX, Cond.instanceMethod yX3_momentX, Cond.selects RX3 yX3_momentX yX3_momentX, Cond.code yX3_momentX cX3_momentX 3 (some .int), Cond.methodLink RX4 165 yX3_momentY, Cond.instanceMethod yX3_momentY, Cond.selects RX3 yX3_momentY yX3_momentY, Cond.code yX3_momentY cX3_momentY 3 (some .int), Cond.methodLink RX4 285 yX0_bear, Cond.instanceMethod yX0_bear, Cond.selects RX0 yX0_bear yX0_bear, Cond.code yX0_bear cX0_bear 7 none, Cond.fieldLink RX0 51 "PileShares$Distribution" "w" "J", Cond.fieldLink RX0 55 "PileShares$Distribution" "u" "J", Cond.fieldLink RX0 58 "PileShares$Distribution" "v" "J", Cond.methodLink RX4 233 yX0_settleOn, Cond.instanceMethod yX0_settleOn, Cond.selects RX0 yX0_settleOn yX0_settleOn, Cond.code yX0_settleOn cX0_settleOn 2 none, Cond.methodLink RX0 61 yX0_beginWith, Cond.instanceMethod yX0_beginWith, Cond.selects RX0 yX0_beginWith yX0_beginWith]
def wsL_law_r18 : List Cond := [Cond.code yX0_beginWith cX0_beginWith 3 none, Cond.fieldLink RX0 68 "PileShares$Distribution" "set" "I", Cond.methodLink RX0 71 yX1_empty, Cond.instanceMethod yX1_empty, Cond.selects RX1 yX1_empty yX1_empty, Cond.code yX1_empty cX1_empty 1 none, Cond.fieldLink RX1 7 "PileShares$Plane" "k" "J", Cond.fieldLink RX1 13 "PileShares$Plane" "kx" "J", Cond.fieldLink RX1 16 "PileShares$Plane" "ky" "J", Cond.fieldLink RX1 19 "PileShares$Plane" "kxx" "J", Cond.fieldLink RX1 22 "PileShares$Plane" "kxy" "J", Cond.fieldLink RX1 25 "PileShares$Plane" "kyy" "J", Cond.methodLink RX0 74 yX1_put, Cond.instanceMethod yX1_put, Cond.selects RX1 yX1_put yX1_put, Cond.code yX1_put cX1_put 6 none, Cond.methodLink RX0 65 yX0_settle, Cond.instanceMethod yX0_settle, Cond.selects RX0 yX0_settle yX0_settle, Cond.code yX0_settle cX0_settle 3 none, Cond.fieldLink RX0 82 "PileShares$Distribution" "active" "I", Cond.fieldLink RX0 85 "PileShares$Distribution" "settled" "Z", Cond.fieldLink RX0 89 "PileShares$Distribution" "rounds" "I", Cond.methodLink RX0 78 yX1_copySums]
def wsL_law_r19 : List Cond := [Cond.instanceMethod yX1_copySums, Cond.selects RX1 yX1_copySums yX1_copySums, Cond.code yX1_copySums cX1_copySums 2 none, Cond.methodLink RX0 92 yX0_anotherRoundFollows, Cond.instanceMethod yX0_anotherRoundFollows, Cond.selects RX0 yX0_anotherRoundFollows yX0_anotherRoundFollows, Cond.code yX0_anotherRoundFollows cX0_anotherRoundFollows 3 (some .boolean), Cond.methodLink RX0 99 yX1_brace, Cond.instanceMethod yX1_brace, Cond.selects RX1 yX1_brace yX1_brace, Cond.code yX1_brace cX1_brace 1 (some .boolean), Cond.fieldLink RX1 28 "PileShares$Plane" "inverse00" "J", Cond.fieldLink RX1 31 "PileShares$Plane" "inverse01" "J", Cond.fieldLink RX1 34 "PileShares$Plane" "inverse02" "J", Cond.fieldLink RX1 37 "PileShares$Plane" "inverse11" "J", Cond.fieldLink RX1 40 "PileShares$Plane" "inverse12" "J", Cond.fieldLink RX1 43 "PileShares$Plane" "inverse22" "J", Cond.fieldLink RX1 46 "PileShares$Plane" "bottom" "J", Cond.methodLink RX0 102 yX1_tilt, Cond.instanceMethod yX1_tilt, Cond.selects RX1 yX1_tilt yX1_tilt, Cond.code yX1_tilt cX1_tilt 7 none, Cond.fieldLink RX1 49 "PileShares$Plane" "a" "J", Cond.fieldLink RX1 52 "PileShares$Plane" "b" "J"]
def wsL_law_r20 : List Cond := [Cond.fieldLink RX1 55 "PileShares$Plane" "c" "J", Cond.methodLink RX0 106 yX0_mostPulled, Cond.instanceMethod yX0_mostPulled, Cond.selects RX0 yX0_mostPulled yX0_mostPulled, Cond.code yX0_mostPulled cX0_mostPulled 7 (some .int), Cond.methodLink RX0 113 yX1_topAt, Cond.instanceMethod yX1_topAt, Cond.selects RX1 yX1_topAt yX1_topAt, Cond.code yX1_topAt cX1_topAt 3 (some .long), Cond.methodLink RX0 110 yX0_mostPressedOfReleased, Cond.instanceMethod yX0_mostPressedOfReleased, Cond.selects RX0 yX0_mostPressedOfReleased yX0_mostPressedOfReleased, Cond.code yX0_mostPressedOfReleased cX0_mostPressedOfReleased 8 (some .int), Cond.methodLink RX0 96 yX0_findMostUsed, Cond.instanceMethod yX0_findMostUsed, Cond.selects RX0 yX0_findMostUsed yX0_findMostUsed, Cond.code yX0_findMostUsed cX0_findMostUsed 6 none, Cond.fieldLink RX0 117 "PileShares$Distribution" "mostUsed" "I", Cond.methodLink RX0 120 yX0_shareTop, Cond.instanceMethod yX0_shareTop, Cond.selects RX0 yX0_shareTop yX0_shareTop, Cond.code yX0_shareTop cX0_shareTop 2 (some .long), Cond.methodLink RX0 124 yX0_isSlot, Cond.static yX0_isSlot]
def wsL_law_r21 : List Cond := [Cond.code yX0_isSlot cX0_isSlot 1 (some .boolean), Cond.methodLink RX0 128 yX0_isActive, Cond.instanceMethod yX0_isActive, Cond.selects RX0 yX0_isActive yX0_isActive, Cond.code yX0_isActive cX0_isActive 2 (some .boolean), Cond.methodLink RX4 153 yX0_isActive, Cond.methodLink RL 62 yX5_pile, Cond.instanceMethod yX5_pile, Cond.selects RX5 yX5_pile yX5_pile, Cond.code yX5_pile cX5_pile 3 (some .long), Cond.constantLong RX5 237 (-1000000000000000000), Cond.fieldLink RX5 199 "PileSharesModel" "isSettled" "Z", Cond.constantLong RX5 242 (-9), Cond.fieldLink RX5 186 "PileSharesModel" "inside" "I", Cond.methodLink RX5 239 yX5_sharesNow, Cond.instanceMethod yX5_sharesNow, Cond.selects RX5 yX5_sharesNow yX5_sharesNow, Cond.code yX5_sharesNow cX5_sharesNow 1 none, Cond.methodLink RX5 211 yX5_laysPiles, Cond.instanceMethod yX5_laysPiles, Cond.selects RX5 yX5_laysPiles yX5_laysPiles, Cond.code yX5_laysPiles cX5_laysPiles 2 none, Cond.fieldLink RX5 150 "PileSharesModel" "many" "I", Cond.fieldLink RX5 153 "PileSharesModel" "whole" "I"]
def wsL_law_r22 : List Cond := [Cond.methodLink RX5 214 yX5_laysSums, Cond.instanceMethod yX5_laysSums, Cond.selects RX5 yX5_laysSums yX5_laysSums, Cond.code yX5_laysSums cX5_laysSums 1 none, Cond.fieldLink RX5 160 "PileSharesModel" "sumW" "J", Cond.fieldLink RX5 164 "PileSharesModel" "sumU" "J", Cond.fieldLink RX5 167 "PileSharesModel" "sumV" "J", Cond.methodLink RX5 156 yX5_sumOf, Cond.instanceMethod yX5_sumOf, Cond.selects RX5 yX5_sumOf yX5_sumOf, Cond.code yX5_sumOf cX5_sumOf 5 (some .long), Cond.methodLink RX5 217 yX5_shares, Cond.instanceMethod yX5_shares, Cond.selects RX5 yX5_shares yX5_shares, Cond.code yX5_shares cX5_shares 3 none, Cond.fieldLink RX5 196 "PileSharesModel" "rounds" "I", Cond.methodLink RX5 202 yX5_isSteady, Cond.instanceMethod yX5_isSteady, Cond.selects RX5 yX5_isSteady yX5_isSteady, Cond.code yX5_isSteady cX5_isSteady 15 (some .boolean), Cond.fieldLink RX5 174 "PileSharesModel" "all" "J", Cond.fieldLink RX5 177 "PileSharesModel" "da" "J", Cond.fieldLink RX5 180 "PileSharesModel" "db" "J", Cond.fieldLink RX5 183 "PileSharesModel" "dc" "J"]
def wsL_law_r23 : List Cond := [Cond.methodLink RX5 170 yX5_det, Cond.static yX5_det, Cond.code yX5_det cX5_det 18 (some .long), Cond.methodLink RX5 205 yX5_goesOut, Cond.instanceMethod yX5_goesOut, Cond.selects RX5 yX5_goesOut yX5_goesOut, Cond.code yX5_goesOut cX5_goesOut 3 (some .int), Cond.methodLink RX5 193 yX5_bears, Cond.instanceMethod yX5_bears, Cond.selects RX5 yX5_bears yX5_bears, Cond.code yX5_bears cX5_bears 2 (some .long), Cond.methodLink RX5 189 yX5_pressAt, Cond.instanceMethod yX5_pressAt, Cond.selects RX5 yX5_pressAt yX5_pressAt, Cond.code yX5_pressAt cX5_pressAt 3 (some .long), Cond.methodLink RX5 208 yX5_comesIn, Cond.instanceMethod yX5_comesIn, Cond.selects RX5 yX5_comesIn yX5_comesIn, Cond.code yX5_comesIn cX5_comesIn 5 (some .int), Cond.methodLink RL 63 yX4_column, Cond.instanceMethod yX4_column, Cond.selects RX4 yX4_column yX4_column, Cond.code yX4_column cX4_column 3 (some .long), Cond.methodLink RL 66 yX5_column]
def wsL_law_r24 : List Cond := [Cond.instanceMethod yX5_column, Cond.selects RX5 yX5_column yX5_column, Cond.code yX5_column cX5_column 3 (some .long), Cond.methodLink RL 67 yX4_sum, Cond.instanceMethod yX4_sum, Cond.selects RX4 yX4_sum yX4_sum, Cond.code yX4_sum cX4_sum 2 (some .long), Cond.methodLink RL 71 yX5_sum, Cond.instanceMethod yX5_sum, Cond.selects RX5 yX5_sum yX5_sum, Cond.code yX5_sum cX5_sum 2 (some .long), Cond.methodLink RL 72 yX4_sharing, Cond.instanceMethod yX4_sharing, Cond.selects RX4 yX4_sharing yX4_sharing, Cond.code yX4_sharing cX4_sharing 2 (some .int), Cond.methodLink RL 75 yX5_sharing, Cond.instanceMethod yX5_sharing, Cond.selects RX5 yX5_sharing yX5_sharing, Cond.code yX5_sharing cX5_sharing 2 (some .int), Cond.methodLink RL 76 yX4_share, Cond.instanceMethod yX4_share, Cond.selects RX4 yX4_share yX4_share, Cond.code yX4_share cX4_share 3 (some .long), Cond.constantLong RX4 177 (-2000000000000000000)]
def wsL_law_r25 : List Cond := [Cond.methodLink RX4 179 yX0_shareDown, Cond.instanceMethod yX0_shareDown, Cond.selects RX0 yX0_shareDown yX0_shareDown, Cond.code yX0_shareDown cX0_shareDown 2 (some .long), Cond.methodLink RX0 134 yJ9_floorDiv_f86c9, Cond.static yJ9_floorDiv_f86c9, Cond.initialized RJ9, Cond.code yJ9_floorDiv_f86c9 cJ9_floorDiv_f86c9 6 (some .long), Cond.methodLink RX4 183 yX0_shareTop, Cond.methodLink RX4 186 yX0_bottom, Cond.instanceMethod yX0_bottom, Cond.selects RX0 yX0_bottom yX0_bottom, Cond.code yX0_bottom cX0_bottom 1 (some .long), Cond.methodLink RX4 190 yX4_inLowestTerms, Cond.static yX4_inLowestTerms, Cond.code yX4_inLowestTerms cX4_inLowestTerms 7 (some .long), Cond.methodLink RX4 302 Lib.MathLoose.abs_long.x, Cond.static Lib.MathLoose.abs_long.x, Cond.code Lib.MathLoose.abs_long.x Lib.MathLoose.abs_long.code 2 (some .long), Cond.methodLink RX4 306 yX4_commonDivisor, Cond.static yX4_commonDivisor, Cond.code yX4_commonDivisor cX4_commonDivisor 7 (some .long), Cond.methodLink RL 79 yX5_share, Cond.instanceMethod yX5_share]
def wsL_law_r26 : List Cond := [Cond.selects RX5 yX5_share yX5_share, Cond.code yX5_share cX5_share 3 (some .long), Cond.constantLong RX5 244 (-2000000000000000000), Cond.methodLink RX5 233 yX5_part, Cond.static yX5_part, Cond.code yX5_part cX5_part 7 (some .long), Cond.methodLink RX5 220 yX5_common, Cond.static yX5_common, Cond.code yX5_common cX5_common 10 (some .long), Cond.methodLink RL 80 yX4_press, Cond.instanceMethod yX4_press, Cond.selects RX4 yX4_press yX4_press, Cond.code yX4_press cX4_press 4 (some .long), Cond.methodLink RX4 198 yX1_topAt, Cond.methodLink RL 84 yX5_press, Cond.instanceMethod yX5_press, Cond.selects RX5 yX5_press yX5_press, Cond.code yX5_press cX5_press 4 (some .long), Cond.methodLink RL 85 yX4_most, Cond.instanceMethod yX4_most, Cond.selects RX4 yX4_most yX4_most, Cond.code yX4_most cX4_most 2 (some .long), Cond.constantLong RX4 204 (-1), Cond.methodLink RX4 206 yX4_greatestUse]
def wsL_law_r27 : List Cond := [Cond.instanceMethod yX4_greatestUse, Cond.selects RX4 yX4_greatestUse yX4_greatestUse, Cond.code yX4_greatestUse cX4_greatestUse 2 (some .long), Cond.methodLink RX4 209 yX0_useTop, Cond.instanceMethod yX0_useTop, Cond.selects RX0 yX0_useTop yX0_useTop, Cond.code yX0_useTop cX0_useTop 1 (some .long), Cond.methodLink RX4 212 yX0_useBottom, Cond.instanceMethod yX0_useBottom, Cond.selects RX0 yX0_useBottom yX0_useBottom, Cond.code yX0_useBottom cX0_useBottom 1 (some .long), Cond.methodLink RL 88 yX5_most, Cond.instanceMethod yX5_most, Cond.selects RX5 yX5_most yX5_most, Cond.code yX5_most cX5_most 2 (some .long), Cond.constantLong RX5 246 (-1), Cond.methodLink RX5 248 yX5_laysMost, Cond.instanceMethod yX5_laysMost, Cond.selects RX5 yX5_laysMost yX5_laysMost, Cond.code yX5_laysMost cX5_laysMost 2 (some .boolean), Cond.fieldLink RX5 224 "PileSharesModel" "used" "I", Cond.fieldLink RX5 227 "PileSharesModel" "useUp" "J", Cond.fieldLink RX5 230 "PileSharesModel" "useDown" "J", Cond.methodLink RX5 251 yX5_tellsMost]
def wsL_law_r28 : List Cond := [Cond.instanceMethod yX5_tellsMost, Cond.selects RX5 yX5_tellsMost yX5_tellsMost, Cond.code yX5_tellsMost cX5_tellsMost 2 (some .long), Cond.methodLink RL 89 yX4_factor, Cond.instanceMethod yX4_factor, Cond.selects RX4 yX4_factor yX4_factor, Cond.code yX4_factor cX4_factor 2 (some .long), Cond.methodLink RL 92 yX5_factor, Cond.instanceMethod yX5_factor, Cond.selects RX5 yX5_factor yX5_factor, Cond.code yX5_factor cX5_factor 2 (some .long), Cond.methodLink RL 93 yX4_kern, Cond.instanceMethod yX4_kern, Cond.selects RX4 yX4_kern yX4_kern, Cond.code yX4_kern cX4_kern 3 (some .int), Cond.methodLink RX4 215 yX4_bracePresent, Cond.instanceMethod yX4_bracePresent, Cond.selects RX4 yX4_bracePresent yX4_bracePresent, Cond.code yX4_bracePresent cX4_bracePresent 1 (some .boolean), Cond.methodLink RX4 289 yX0_braceAll, Cond.instanceMethod yX0_braceAll, Cond.selects RX0 yX0_braceAll yX0_braceAll, Cond.code yX0_braceAll cX0_braceAll 2 (some .boolean), Cond.methodLink RX4 219 yX0_pullsNoPile]
def wsL_law_r29 : List Cond := [Cond.instanceMethod yX0_pullsNoPile, Cond.selects RX0 yX0_pullsNoPile yX0_pullsNoPile, Cond.code yX0_pullsNoPile cX0_pullsNoPile 3 (some .boolean), Cond.methodLink RL 96 yX5_kern, Cond.instanceMethod yX5_kern, Cond.selects RX5 yX5_kern yX5_kern, Cond.code yX5_kern cX5_kern 3 (some .int), Cond.methodLink RX5 258 yX5_isKern, Cond.instanceMethod yX5_isKern, Cond.selects RX5 yX5_isKern yX5_isKern, Cond.code yX5_isKern cX5_isKern 3 (some .int), Cond.methodLink RX5 254 yX5_laysLoad, Cond.instanceMethod yX5_laysLoad, Cond.selects RX5 yX5_laysLoad yX5_laysLoad, Cond.code yX5_laysLoad cX5_laysLoad 4 none, Cond.methodLink RL 97 yX4_kerns, Cond.instanceMethod yX4_kerns, Cond.selects RX4 yX4_kerns yX4_kerns, Cond.code yX4_kerns cX4_kerns 5 (some .int), Cond.methodLink RX4 222 yX4_xOf, Cond.static yX4_xOf, Cond.code yX4_xOf cX4_xOf 1 (some .int), Cond.methodLink RX4 225 yX4_yOf, Cond.static yX4_yOf]
def wsL_law_r30 : List Cond := [Cond.code yX4_yOf cX4_yOf 1 (some .int), Cond.methodLink RL 100 yX5_kerns, Cond.instanceMethod yX5_kerns, Cond.selects RX5 yX5_kerns yX5_kerns, Cond.code yX5_kerns cX5_kerns 6 (some .int), Cond.methodLink RL 101 yX4_without, Cond.instanceMethod yX4_without, Cond.selects RX4 yX4_without yX4_without, Cond.code yX4_without cX4_without 3 (some .long), Cond.constantLong RX4 228 (-2), Cond.methodLink RL 104 yX5_without, Cond.instanceMethod yX5_without, Cond.selects RX5 yX5_without yX5_without, Cond.code yX5_without cX5_without 3 (some .long), Cond.constantLong RX5 261 (-2), Cond.methodLink RX5 263 yX5_laysWithout, Cond.instanceMethod yX5_laysWithout, Cond.selects RX5 yX5_laysWithout yX5_laysWithout, Cond.code yX5_laysWithout cX5_laysWithout 2 (some .boolean), Cond.methodLink RL 105 yX4_key, Cond.instanceMethod yX4_key, Cond.selects RX4 yX4_key yX4_key, Cond.code yX4_key cX4_key 7 (some .int), Cond.methodLink RX4 237 yX4_compareFractions]
def wsL_law_r31 : List Cond := [Cond.static yX4_compareFractions, Cond.code yX4_compareFractions cX4_compareFractions 18 (some .int), Cond.methodLink RX4 310 yJ13_compare_74951, Cond.static yJ13_compare_74951, Cond.initialized RJ13, Cond.code yJ13_compare_74951 cJ13_compare_74951 4 (some .int), Cond.methodLink RL 108 yX5_key, Cond.instanceMethod yX5_key, Cond.selects RX5 yX5_key yX5_key, Cond.code yX5_key cX5_key 7 (some .int), Cond.methodLink RX5 266 yX5_against, Cond.static yX5_against, Cond.code yX5_against cX5_against 23 (some .int), Cond.methodLink RL 109 yX4_extra, Cond.instanceMethod yX4_extra, Cond.selects RX4 yX4_extra yX4_extra, Cond.code yX4_extra cX4_extra 11 (some .int), Cond.methodLink RX4 241 yX0_beginWith, Cond.methodLink RX4 244 yX0_putFurther, Cond.instanceMethod yX0_putFurther, Cond.selects RX0 yX0_putFurther yX0_putFurther, Cond.code yX0_putFurther cX0_putFurther 5 none, Cond.methodLink RX4 247 yX0_settle, Cond.methodLink RX4 250 yX0_takeFurtherAway]
def wsL_law_r32 : List Cond := [Cond.instanceMethod yX0_takeFurtherAway, Cond.selects RX0 yX0_takeFurtherAway yX0_takeFurtherAway, Cond.code yX0_takeFurtherAway cX0_takeFurtherAway 1 none, Cond.methodLink RL 112 yX5_extra, Cond.instanceMethod yX5_extra, Cond.selects RX5 yX5_extra yX5_extra, Cond.code yX5_extra cX5_extra 11 (some .int), Cond.methodLink RL 113 yX4_odds, Cond.instanceMethod yX4_odds, Cond.selects RX4 yX4_odds yX4_odds, Cond.code yX4_odds cX4_odds 8 (some .int), Cond.methodLink RX4 253 yX4_power, Cond.static yX4_power, Cond.code yX4_power cX4_power 4 (some .int), Cond.methodLink RX4 257 yX4_standsOn, Cond.instanceMethod yX4_standsOn, Cond.selects RX4 yX4_standsOn yX4_standsOn, Cond.code yX4_standsOn cX4_standsOn 2 (some .boolean), Cond.methodLink RL 116 yX5_odds, Cond.instanceMethod yX5_odds, Cond.selects RX5 yX5_odds yX5_odds, Cond.code yX5_odds cX5_odds 12 (some .int), Cond.constantLong RX5 270 (10), Cond.methodLink RL 117 yX4_hunts]
def wsL_law_r33 : List Cond := [Cond.instanceMethod yX4_hunts, Cond.selects RX4 yX4_hunts yX4_hunts, Cond.code yX4_hunts cX4_hunts 2 (some .int), Cond.methodLink RX4 260 yX4_dropSights, Cond.instanceMethod yX4_dropSights, Cond.selects RX4 yX4_dropSights yX4_dropSights, Cond.code yX4_dropSights cX4_dropSights 2 (some .int), Cond.methodLink RL 120 yX5_hunts, Cond.instanceMethod yX5_hunts, Cond.selects RX5 yX5_hunts yX5_hunts, Cond.code yX5_hunts cX5_hunts 3 (some .int), Cond.methodLink RL 121 yX4_sees, Cond.instanceMethod yX4_sees, Cond.selects RX4 yX4_sees yX4_sees, Cond.code yX4_sees cX4_sees 3 (some .int), Cond.methodLink RL 124 yX5_sees, Cond.instanceMethod yX5_sees, Cond.selects RX5 yX5_sees yX5_sees, Cond.code yX5_sees cX5_sees 3 (some .int), Cond.methodLink RL 125 yX4_forget, Cond.instanceMethod yX4_forget, Cond.selects RX4 yX4_forget yX4_forget, Cond.code yX4_forget cX4_forget 1 (some .int), Cond.methodLink RL 128 yX5_forget]
def wsL_law_r34 : List Cond := [Cond.instanceMethod yX5_forget, Cond.selects RX5 yX5_forget yX5_forget, Cond.code yX5_forget cX5_forget 2 (some .int), Cond.methodLink RL 129 yX4_spots, Cond.instanceMethod yX4_spots, Cond.selects RX4 yX4_spots yX4_spots, Cond.code yX4_spots cX4_spots 5 (some .int), Cond.methodLink RX4 267 yX4_isSpot, Cond.instanceMethod yX4_isSpot, Cond.selects RX4 yX4_isSpot yX4_isSpot, Cond.code yX4_isSpot cX4_isSpot 3 (some .boolean), Cond.methodLink RL 132 yX5_spots, Cond.instanceMethod yX5_spots, Cond.selects RX5 yX5_spots yX5_spots, Cond.code yX5_spots cX5_spots 2 (some .int), Cond.fieldLink RX5 272 "PileSharesModel" "spots" "I", Cond.fieldLink RX5 275 "PileSharesModel" "firstSpot" "I", Cond.methodLink RX5 281 yX5_laysSpots, Cond.instanceMethod yX5_laysSpots, Cond.selects RX5 yX5_laysSpots yX5_laysSpots, Cond.code yX5_laysSpots cX5_laysSpots 3 none, Cond.methodLink RX5 278 yX5_isSo, Cond.instanceMethod yX5_isSo, Cond.selects RX5 yX5_isSo yX5_isSo]
def wsL_law_r35 : List Cond := [Cond.code yX5_isSo cX5_isSo 4 (some .boolean), Cond.methodLink RL 133 yX4_ask, Cond.instanceMethod yX4_ask, Cond.selects RX4 yX4_ask yX4_ask, Cond.code yX4_ask cX4_ask 3 (some .int), Cond.methodLink RX4 270 yJ7_fill_53178, Cond.static yJ7_fill_53178, Cond.initialized RJ7, Cond.code yJ7_fill_53178 cJ7_fill_53178 4 none, Cond.methodLink RX4 276 yX4_groupShares, Cond.instanceMethod yX4_groupShares, Cond.selects RX4 yX4_groupShares yX4_groupShares, Cond.code yX4_groupShares cX4_groupShares 4 none, Cond.constantLong RX4 295 (100), Cond.methodLink RX4 279 yX4_pileWithSmallestLargestGroup, Cond.instanceMethod yX4_pileWithSmallestLargestGroup, Cond.selects RX4 yX4_pileWithSmallestLargestGroup yX4_pileWithSmallestLargestGroup, Cond.code yX4_pileWithSmallestLargestGroup cX4_pileWithSmallestLargestGroup 6 (some .int), Cond.methodLink RX4 297 Lib.Math.max.name, Cond.static Lib.Math.max.name, Cond.code Lib.Math.max.name Lib.Math.max.code 2 (some .int), Cond.methodLink RL 136 yX5_ask, Cond.instanceMethod yX5_ask, Cond.selects RX5 yX5_ask yX5_ask]
def wsL_law_r36 : List Cond := [Cond.code yX5_ask cX5_ask 5 (some .int), Cond.methodLink RX5 284 yX5_mostAlike, Cond.instanceMethod yX5_mostAlike, Cond.selects RX5 yX5_mostAlike yX5_mostAlike, Cond.code yX5_mostAlike cX5_mostAlike 5 (some .int), Cond.methodLink RL 137 yX4_keep, Cond.instanceMethod yX4_keep, Cond.selects RX4 yX4_keep yX4_keep, Cond.code yX4_keep cX4_keep 2 (some .int), Cond.methodLink RL 140 yX5_keep, Cond.instanceMethod yX5_keep, Cond.selects RX5 yX5_keep yX5_keep, Cond.code yX5_keep cX5_keep 3 (some .int), Cond.methodLink RL 141 yX4_back, Cond.instanceMethod yX4_back, Cond.selects RX4 yX4_back yX4_back, Cond.code yX4_back cX4_back 2 (some .int), Cond.methodLink RL 144 yX5_back, Cond.instanceMethod yX5_back, Cond.selects RX5 yX5_back yX5_back, Cond.code yX5_back cX5_back 3 (some .int), Cond.methodLink RL 145 yX4_count, Cond.instanceMethod yX4_count, Cond.selects RX4 yX4_count yX4_count]
def wsL_law_r37 : List Cond := [Cond.code yX4_count cX4_count 2 (some .int), Cond.methodLink RL 148 yX5_count, Cond.instanceMethod yX5_count, Cond.selects RX5 yX5_count yX5_count, Cond.code yX5_count cX5_count 2 (some .int)]
def wsL_law : List Cond := (wsL_law_r1 ++ (wsL_law_r2 ++ (wsL_law_r3 ++ (wsL_law_r4 ++ (wsL_law_r5 ++ (wsL_law_r6 ++ (wsL_law_r7 ++ (wsL_law_r8 ++ (wsL_law_r9 ++ (wsL_law_r10 ++ (wsL_law_r11 ++ (wsL_law_r12 ++ (wsL_law_r13 ++ (wsL_law_r14 ++ (wsL_law_r15 ++ (wsL_law_r16 ++ (wsL_law_r17 ++ (wsL_law_r18 ++ (wsL_law_r19 ++ (wsL_law_r20 ++ (wsL_law_r21 ++ (wsL_law_r22 ++ (wsL_law_r23 ++ (wsL_law_r24 ++ (wsL_law_r25 ++ (wsL_law_r26 ++ (wsL_law_r27 ++ (wsL_law_r28 ++ (wsL_law_r29 ++ (wsL_law_r30 ++ (wsL_law_r31 ++ (wsL_law_r32 ++ (wsL_law_r33 ++ (wsL_law_r34 ++ (wsL_law_r35 ++ (wsL_law_r36 ++ wsL_law_r37)))))))))))))))))))))))))))))))))))) ++ wsX40 ++ wsX50 ++ wsX30 ++ wsX20 ++ wsX00 ++ wsX10 ++ ([] : List Cond)
set_option maxRecDepth 20000 in
theorem wsL_law_in : ∀ w ∈ wsL_law, w ∈ lw_tbl := fun w h => (goodIn_p wsL_law [75, 78, 83, 148, 178, 184, 759, 332, 336, 888, 891, 340, 895, 344, 348, 352, 356, 360, 364, 368, 372, 376, 382, 379, 386, 390, 394, 398, 402, 406, 409, 899, 903, 907, 911, 915, 919, 923, 927, 931, 416, 419, 422, 427, 935, 938, 941, 945, 949, 953, 432, 436, 440, 443, 957, 961, 965, 969, 450, 973, 454, 458, 977, 981, 985, 462, 989, 466, 993, 470, 997, 474, 479, 483, 487, 492, 496, 500, 504, 508, 512, 516, 520, 524, 528, 532, 536, 540, 544, 548, 552, 556, 560, 563, 567, 1001, 1006, 1010, 1014, 1018, 1022, 1026, 1029, 1033, 1037, 1041, 1045, 573, 1050, 577, 1054, 581, 1058, 585, 590, 593, 598, 601, 604, 607, 1062, 1066, 1069, 611, 1073, 616, 621, 625, 629, 1077, 1082, 1086, 633, 1090, 637, 641, 645, 649, 1094, 1098, 1102, 653, 656, 659, 1106, 663, 1110, 1115, 668, 671, 674, 1119, 1122, 678, 683, 688, 1126, 692, 695, 699, 1130, 703, 707, 1135, 711, 1139, 715, 1143, 719, 723, 1147, 1151, 1155, 727, 730, 734, 739, 742, 1159, 1163, 746, 1167, 750, 1171, 754, 1175] (by decide +kernel) (by decide +kernel) w h).1
theorem inlX0 : ∀ w ∈ wsX00, w ∈ wsL_law := fun _ h => List.mem_append_left _ (List.mem_append_left _ (List.mem_append_right _ h))
theorem inlX1 : ∀ w ∈ wsX10, w ∈ wsL_law := fun _ h => List.mem_append_left _ (List.mem_append_right _ h)
theorem inlX2 : ∀ w ∈ wsX20, w ∈ wsL_law := fun _ h => List.mem_append_left _ (List.mem_append_left _ (List.mem_append_left _ (List.mem_append_right _ h)))
theorem inlX3 : ∀ w ∈ wsX30, w ∈ wsL_law := fun _ h => List.mem_append_left _ (List.mem_append_left _ (List.mem_append_left _ (List.mem_append_left _ (List.mem_append_right _ h))))
theorem inlX4 : ∀ w ∈ wsX40, w ∈ wsL_law := fun _ h => List.mem_append_left _ (List.mem_append_left _ (List.mem_append_left _ (List.mem_append_left _ (List.mem_append_left _ (List.mem_append_left _ (List.mem_append_right _ h))))))
theorem inlX5 : ∀ w ∈ wsX50, w ∈ wsL_law := fun _ h => List.mem_append_left _ (List.mem_append_left _ (List.mem_append_left _ (List.mem_append_left _ (List.mem_append_left _ (List.mem_append_right _ h)))))
abbrev vwCl : List vw_C := [(RX0, TX0, 15), (RX1, TX1, 16), (RX2, TX2, 7), (RX3, TX3, 12), (RX4, TX4, 13), (RX5, TX5, 41)]

