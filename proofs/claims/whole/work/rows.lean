section
/-- a private method of a class that the tables say can be made, by its rows of tables_1 -/
def lw_okq (q : MethodName × Nat) : Prop := (q.1.cls ≠ "java/lang/invoke/MethodHandle" ∧ q.1.cls ≠ "java/lang/invoke/VarHandle") ∧ Cond.instantiable q.1.cls q.2 ∈ tables_1 ∧ Cond.privateMethod q.1 ∈ tables_1 ∧ Cond.instanceMethod q.1 ∈ tables_1
theorem lw_p0 : lw_okq (⟨"PileShares$Script", "skipBlanks", "()V"⟩, 7) := ⟨⟨by decide +kernel, by decide +kernel⟩, List.mem_of_getElem? (i := 86) (by decide +kernel), List.mem_of_getElem? (i := 295) (by decide +kernel), List.mem_of_getElem? (i := 296) (by decide +kernel)⟩
theorem lw_p1 : lw_okq (⟨"PileShares$Script", "readItem", "(LPileShares$Structure;)Z"⟩, 7) := ⟨⟨by decide +kernel, by decide +kernel⟩, List.mem_of_getElem? (i := 86) (by decide +kernel), List.mem_of_getElem? (i := 299) (by decide +kernel), List.mem_of_getElem? (i := 300) (by decide +kernel)⟩
theorem lw_p2 : lw_okq (⟨"PileShares$Script", "letterHere", "()I"⟩, 7) := ⟨⟨by decide +kernel, by decide +kernel⟩, List.mem_of_getElem? (i := 86) (by decide +kernel), List.mem_of_getElem? (i := 303) (by decide +kernel), List.mem_of_getElem? (i := 304) (by decide +kernel)⟩
theorem lw_p3 : lw_okq (⟨"PileShares$Script", "readPile", "(LPileShares$Structure;)Z"⟩, 7) := ⟨⟨by decide +kernel, by decide +kernel⟩, List.mem_of_getElem? (i := 86) (by decide +kernel), List.mem_of_getElem? (i := 307) (by decide +kernel), List.mem_of_getElem? (i := 308) (by decide +kernel)⟩
theorem lw_p4 : lw_okq (⟨"PileShares$Script", "readPlace", "()Z"⟩, 7) := ⟨⟨by decide +kernel, by decide +kernel⟩, List.mem_of_getElem? (i := 86) (by decide +kernel), List.mem_of_getElem? (i := 311) (by decide +kernel), List.mem_of_getElem? (i := 312) (by decide +kernel)⟩
theorem lw_p5 : lw_okq (⟨"PileShares$Script", "readNumber", "(II)I"⟩, 7) := ⟨⟨by decide +kernel, by decide +kernel⟩, List.mem_of_getElem? (i := 86) (by decide +kernel), List.mem_of_getElem? (i := 315) (by decide +kernel), List.mem_of_getElem? (i := 316) (by decide +kernel)⟩
theorem lw_p6 : lw_okq (⟨"PileShares$Script", "readSemicolon", "()Z"⟩, 7) := ⟨⟨by decide +kernel, by decide +kernel⟩, List.mem_of_getElem? (i := 86) (by decide +kernel), List.mem_of_getElem? (i := 329) (by decide +kernel), List.mem_of_getElem? (i := 330) (by decide +kernel)⟩
theorem lw_p7 : lw_okq (⟨"PileShares$Script", "readColumn", "(LPileShares$Structure;)Z"⟩, 7) := ⟨⟨by decide +kernel, by decide +kernel⟩, List.mem_of_getElem? (i := 86) (by decide +kernel), List.mem_of_getElem? (i := 337) (by decide +kernel), List.mem_of_getElem? (i := 338) (by decide +kernel)⟩
theorem lw_p8 : lw_okq (⟨"PileShares$Script", "readWind", "(LPileShares$Structure;)Z"⟩, 7) := ⟨⟨by decide +kernel, by decide +kernel⟩, List.mem_of_getElem? (i := 86) (by decide +kernel), List.mem_of_getElem? (i := 345) (by decide +kernel), List.mem_of_getElem? (i := 346) (by decide +kernel)⟩
theorem lw_p9 : lw_okq (⟨"PileShares", "record", "()V"⟩, 13) := ⟨⟨by decide +kernel, by decide +kernel⟩, List.mem_of_getElem? (i := 13) (by decide +kernel), List.mem_of_getElem? (i := 366) (by decide +kernel), List.mem_of_getElem? (i := 367) (by decide +kernel)⟩
theorem lw_p10 : lw_okq (⟨"PileShares", "isPile", "(I)Z"⟩, 13) := ⟨⟨by decide +kernel, by decide +kernel⟩, List.mem_of_getElem? (i := 13) (by decide +kernel), List.mem_of_getElem? (i := 375) (by decide +kernel), List.mem_of_getElem? (i := 376) (by decide +kernel)⟩
theorem lw_p11 : lw_okq (⟨"PileShares", "isColumn", "(I)Z"⟩, 13) := ⟨⟨by decide +kernel, by decide +kernel⟩, List.mem_of_getElem? (i := 13) (by decide +kernel), List.mem_of_getElem? (i := 397) (by decide +kernel), List.mem_of_getElem? (i := 398) (by decide +kernel)⟩
theorem lw_p12 : lw_okq (⟨"PileShares", "spreadPresent", "()V"⟩, 13) := ⟨⟨by decide +kernel, by decide +kernel⟩, List.mem_of_getElem? (i := 13) (by decide +kernel), List.mem_of_getElem? (i := 418) (by decide +kernel), List.mem_of_getElem? (i := 419) (by decide +kernel)⟩
theorem lw_p13 : lw_okq (⟨"PileShares", "takePresent", "()V"⟩, 13) := ⟨⟨by decide +kernel, by decide +kernel⟩, List.mem_of_getElem? (i := 13) (by decide +kernel), List.mem_of_getElem? (i := 422) (by decide +kernel), List.mem_of_getElem? (i := 423) (by decide +kernel)⟩
theorem lw_p14 : lw_okq (⟨"PileShares$Distribution", "anotherRoundFollows", "()Z"⟩, 15) := ⟨⟨by decide +kernel, by decide +kernel⟩, List.mem_of_getElem? (i := 116) (by decide +kernel), List.mem_of_getElem? (i := 471) (by decide +kernel), List.mem_of_getElem? (i := 472) (by decide +kernel)⟩
theorem lw_p15 : lw_okq (⟨"PileShares$Distribution", "mostPulled", "()I"⟩, 15) := ⟨⟨by decide +kernel, by decide +kernel⟩, List.mem_of_getElem? (i := 116) (by decide +kernel), List.mem_of_getElem? (i := 483) (by decide +kernel), List.mem_of_getElem? (i := 484) (by decide +kernel)⟩
def lw_privs_1 : List (MethodName × Nat) := [(⟨"PileShares$Script", "skipBlanks", "()V"⟩, 7), (⟨"PileShares$Script", "readItem", "(LPileShares$Structure;)Z"⟩, 7), (⟨"PileShares$Script", "letterHere", "()I"⟩, 7), (⟨"PileShares$Script", "readPile", "(LPileShares$Structure;)Z"⟩, 7), (⟨"PileShares$Script", "readPlace", "()Z"⟩, 7), (⟨"PileShares$Script", "readNumber", "(II)I"⟩, 7), (⟨"PileShares$Script", "readSemicolon", "()Z"⟩, 7), (⟨"PileShares$Script", "readColumn", "(LPileShares$Structure;)Z"⟩, 7), (⟨"PileShares$Script", "readWind", "(LPileShares$Structure;)Z"⟩, 7), (⟨"PileShares", "record", "()V"⟩, 13), (⟨"PileShares", "isPile", "(I)Z"⟩, 13), (⟨"PileShares", "isColumn", "(I)Z"⟩, 13), (⟨"PileShares", "spreadPresent", "()V"⟩, 13), (⟨"PileShares", "takePresent", "()V"⟩, 13), (⟨"PileShares$Distribution", "anotherRoundFollows", "()Z"⟩, 15), (⟨"PileShares$Distribution", "mostPulled", "()I"⟩, 15)]
theorem lw_r1 : ∀ q ∈ lw_privs_1, lw_okq q := List.forall_mem_cons.mpr ⟨lw_p0, List.forall_mem_cons.mpr ⟨lw_p1, List.forall_mem_cons.mpr ⟨lw_p2, List.forall_mem_cons.mpr ⟨lw_p3, List.forall_mem_cons.mpr ⟨lw_p4, List.forall_mem_cons.mpr ⟨lw_p5, List.forall_mem_cons.mpr ⟨lw_p6, List.forall_mem_cons.mpr ⟨lw_p7, List.forall_mem_cons.mpr ⟨lw_p8, List.forall_mem_cons.mpr ⟨lw_p9, List.forall_mem_cons.mpr ⟨lw_p10, List.forall_mem_cons.mpr ⟨lw_p11, List.forall_mem_cons.mpr ⟨lw_p12, List.forall_mem_cons.mpr ⟨lw_p13, List.forall_mem_cons.mpr ⟨lw_p14, List.forall_mem_cons.mpr ⟨lw_p15, fun _ h => absurd h List.not_mem_nil⟩⟩⟩⟩⟩⟩⟩⟩⟩⟩⟩⟩⟩⟩⟩⟩
theorem lw_p16 : lw_okq (⟨"PileShares$Distribution", "mostPressedOfReleased", "()I"⟩, 15) := ⟨⟨by decide +kernel, by decide +kernel⟩, List.mem_of_getElem? (i := 116) (by decide +kernel), List.mem_of_getElem? (i := 491) (by decide +kernel), List.mem_of_getElem? (i := 492) (by decide +kernel)⟩
theorem lw_p17 : lw_okq (⟨"PileShares$Distribution", "findMostUsed", "()V"⟩, 15) := ⟨⟨by decide +kernel, by decide +kernel⟩, List.mem_of_getElem? (i := 116) (by decide +kernel), List.mem_of_getElem? (i := 495) (by decide +kernel), List.mem_of_getElem? (i := 496) (by decide +kernel)⟩
theorem lw_p18 : lw_okq (⟨"PileShares", "greatestUse", "(I)J"⟩, 13) := ⟨⟨by decide +kernel, by decide +kernel⟩, List.mem_of_getElem? (i := 13) (by decide +kernel), List.mem_of_getElem? (i := 560) (by decide +kernel), List.mem_of_getElem? (i := 561) (by decide +kernel)⟩
theorem lw_p19 : lw_okq (⟨"PileShares", "bracePresent", "()Z"⟩, 13) := ⟨⟨by decide +kernel, by decide +kernel⟩, List.mem_of_getElem? (i := 13) (by decide +kernel), List.mem_of_getElem? (i := 580) (by decide +kernel), List.mem_of_getElem? (i := 581) (by decide +kernel)⟩
theorem lw_p20 : lw_okq (⟨"PileShares", "standsOn", "(I)Z"⟩, 13) := ⟨⟨by decide +kernel, by decide +kernel⟩, List.mem_of_getElem? (i := 13) (by decide +kernel), List.mem_of_getElem? (i := 638) (by decide +kernel), List.mem_of_getElem? (i := 639) (by decide +kernel)⟩
theorem lw_p21 : lw_okq (⟨"PileShares", "dropSights", "()I"⟩, 13) := ⟨⟨by decide +kernel, by decide +kernel⟩, List.mem_of_getElem? (i := 13) (by decide +kernel), List.mem_of_getElem? (i := 646) (by decide +kernel), List.mem_of_getElem? (i := 647) (by decide +kernel)⟩
theorem lw_p22 : lw_okq (⟨"PileShares", "isSpot", "(I)Z"⟩, 13) := ⟨⟨by decide +kernel, by decide +kernel⟩, List.mem_of_getElem? (i := 13) (by decide +kernel), List.mem_of_getElem? (i := 662) (by decide +kernel), List.mem_of_getElem? (i := 663) (by decide +kernel)⟩
theorem lw_p23 : lw_okq (⟨"PileShares", "groupShares", "()V"⟩, 13) := ⟨⟨by decide +kernel, by decide +kernel⟩, List.mem_of_getElem? (i := 13) (by decide +kernel), List.mem_of_getElem? (i := 673) (by decide +kernel), List.mem_of_getElem? (i := 674) (by decide +kernel)⟩
theorem lw_p24 : lw_okq (⟨"PileShares", "pileWithSmallestLargestGroup", "()I"⟩, 13) := ⟨⟨by decide +kernel, by decide +kernel⟩, List.mem_of_getElem? (i := 13) (by decide +kernel), List.mem_of_getElem? (i := 678) (by decide +kernel), List.mem_of_getElem? (i := 679) (by decide +kernel)⟩
theorem lw_p25 : lw_okq (⟨"PileSharesModel", "next", "()V"⟩, 41) := ⟨⟨by decide +kernel, by decide +kernel⟩, List.mem_of_getElem? (i := 697) (by decide +kernel), List.mem_of_getElem? (i := 842) (by decide +kernel), List.mem_of_getElem? (i := 843) (by decide +kernel)⟩
theorem lw_p26 : lw_okq (⟨"PileSharesModel", "isFigure", "()Z"⟩, 41) := ⟨⟨by decide +kernel, by decide +kernel⟩, List.mem_of_getElem? (i := 697) (by decide +kernel), List.mem_of_getElem? (i := 846) (by decide +kernel), List.mem_of_getElem? (i := 847) (by decide +kernel)⟩
theorem lw_p27 : lw_okq (⟨"PileSharesModel", "readsPile", "()V"⟩, 41) := ⟨⟨by decide +kernel, by decide +kernel⟩, List.mem_of_getElem? (i := 697) (by decide +kernel), List.mem_of_getElem? (i := 850) (by decide +kernel), List.mem_of_getElem? (i := 851) (by decide +kernel)⟩
theorem lw_p28 : lw_okq (⟨"PileSharesModel", "due", "(Z)V"⟩, 41) := ⟨⟨by decide +kernel, by decide +kernel⟩, List.mem_of_getElem? (i := 697) (by decide +kernel), List.mem_of_getElem? (i := 854) (by decide +kernel), List.mem_of_getElem? (i := 855) (by decide +kernel)⟩
theorem lw_p29 : lw_okq (⟨"PileSharesModel", "reads", "(IIII)V"⟩, 41) := ⟨⟨by decide +kernel, by decide +kernel⟩, List.mem_of_getElem? (i := 697) (by decide +kernel), List.mem_of_getElem? (i := 858) (by decide +kernel), List.mem_of_getElem? (i := 859) (by decide +kernel)⟩
theorem lw_p30 : lw_okq (⟨"PileSharesModel", "isTakenByDraft", "(II)Z"⟩, 41) := ⟨⟨by decide +kernel, by decide +kernel⟩, List.mem_of_getElem? (i := 697) (by decide +kernel), List.mem_of_getElem? (i := 862) (by decide +kernel), List.mem_of_getElem? (i := 863) (by decide +kernel)⟩
theorem lw_p31 : lw_okq (⟨"PileSharesModel", "readsColumn", "()V"⟩, 41) := ⟨⟨by decide +kernel, by decide +kernel⟩, List.mem_of_getElem? (i := 697) (by decide +kernel), List.mem_of_getElem? (i := 866) (by decide +kernel), List.mem_of_getElem? (i := 867) (by decide +kernel)⟩
def lw_privs_2 : List (MethodName × Nat) := [(⟨"PileShares$Distribution", "mostPressedOfReleased", "()I"⟩, 15), (⟨"PileShares$Distribution", "findMostUsed", "()V"⟩, 15), (⟨"PileShares", "greatestUse", "(I)J"⟩, 13), (⟨"PileShares", "bracePresent", "()Z"⟩, 13), (⟨"PileShares", "standsOn", "(I)Z"⟩, 13), (⟨"PileShares", "dropSights", "()I"⟩, 13), (⟨"PileShares", "isSpot", "(I)Z"⟩, 13), (⟨"PileShares", "groupShares", "()V"⟩, 13), (⟨"PileShares", "pileWithSmallestLargestGroup", "()I"⟩, 13), (⟨"PileSharesModel", "next", "()V"⟩, 41), (⟨"PileSharesModel", "isFigure", "()Z"⟩, 41), (⟨"PileSharesModel", "readsPile", "()V"⟩, 41), (⟨"PileSharesModel", "due", "(Z)V"⟩, 41), (⟨"PileSharesModel", "reads", "(IIII)V"⟩, 41), (⟨"PileSharesModel", "isTakenByDraft", "(II)Z"⟩, 41), (⟨"PileSharesModel", "readsColumn", "()V"⟩, 41)]
theorem lw_r2 : ∀ q ∈ lw_privs_2, lw_okq q := List.forall_mem_cons.mpr ⟨lw_p16, List.forall_mem_cons.mpr ⟨lw_p17, List.forall_mem_cons.mpr ⟨lw_p18, List.forall_mem_cons.mpr ⟨lw_p19, List.forall_mem_cons.mpr ⟨lw_p20, List.forall_mem_cons.mpr ⟨lw_p21, List.forall_mem_cons.mpr ⟨lw_p22, List.forall_mem_cons.mpr ⟨lw_p23, List.forall_mem_cons.mpr ⟨lw_p24, List.forall_mem_cons.mpr ⟨lw_p25, List.forall_mem_cons.mpr ⟨lw_p26, List.forall_mem_cons.mpr ⟨lw_p27, List.forall_mem_cons.mpr ⟨lw_p28, List.forall_mem_cons.mpr ⟨lw_p29, List.forall_mem_cons.mpr ⟨lw_p30, List.forall_mem_cons.mpr ⟨lw_p31, fun _ h => absurd h List.not_mem_nil⟩⟩⟩⟩⟩⟩⟩⟩⟩⟩⟩⟩⟩⟩⟩⟩
theorem lw_p32 : lw_okq (⟨"PileSharesModel", "readsWind", "()V"⟩, 41) := ⟨⟨by decide +kernel, by decide +kernel⟩, List.mem_of_getElem? (i := 697) (by decide +kernel), List.mem_of_getElem? (i := 870) (by decide +kernel), List.mem_of_getElem? (i := 871) (by decide +kernel)⟩
theorem lw_p33 : lw_okq (⟨"PileSharesModel", "isTaken", "(II)Z"⟩, 41) := ⟨⟨by decide +kernel, by decide +kernel⟩, List.mem_of_getElem? (i := 697) (by decide +kernel), List.mem_of_getElem? (i := 884) (by decide +kernel), List.mem_of_getElem? (i := 885) (by decide +kernel)⟩
theorem lw_p34 : lw_okq (⟨"PileSharesModel", "ofPile", "(II)I"⟩, 41) := ⟨⟨by decide +kernel, by decide +kernel⟩, List.mem_of_getElem? (i := 697) (by decide +kernel), List.mem_of_getElem? (i := 888) (by decide +kernel), List.mem_of_getElem? (i := 889) (by decide +kernel)⟩
theorem lw_p35 : lw_okq (⟨"PileSharesModel", "notes", "()V"⟩, 41) := ⟨⟨by decide +kernel, by decide +kernel⟩, List.mem_of_getElem? (i := 697) (by decide +kernel), List.mem_of_getElem? (i := 892) (by decide +kernel), List.mem_of_getElem? (i := 893) (by decide +kernel)⟩
theorem lw_p36 : lw_okq (⟨"PileSharesModel", "becomes", "(II)I"⟩, 41) := ⟨⟨by decide +kernel, by decide +kernel⟩, List.mem_of_getElem? (i := 697) (by decide +kernel), List.mem_of_getElem? (i := 900) (by decide +kernel), List.mem_of_getElem? (i := 901) (by decide +kernel)⟩
theorem lw_p37 : lw_okq (⟨"PileSharesModel", "isPile", "(I)Z"⟩, 41) := ⟨⟨by decide +kernel, by decide +kernel⟩, List.mem_of_getElem? (i := 697) (by decide +kernel), List.mem_of_getElem? (i := 904) (by decide +kernel), List.mem_of_getElem? (i := 905) (by decide +kernel)⟩
theorem lw_p38 : lw_okq (⟨"PileSharesModel", "wholes", "()I"⟩, 41) := ⟨⟨by decide +kernel, by decide +kernel⟩, List.mem_of_getElem? (i := 697) (by decide +kernel), List.mem_of_getElem? (i := 908) (by decide +kernel), List.mem_of_getElem? (i := 909) (by decide +kernel)⟩
theorem lw_p39 : lw_okq (⟨"PileSharesModel", "isColumn", "(I)Z"⟩, 41) := ⟨⟨by decide +kernel, by decide +kernel⟩, List.mem_of_getElem? (i := 697) (by decide +kernel), List.mem_of_getElem? (i := 920) (by decide +kernel), List.mem_of_getElem? (i := 921) (by decide +kernel)⟩
theorem lw_p40 : lw_okq (⟨"PileSharesModel", "ofColumn", "(II)I"⟩, 41) := ⟨⟨by decide +kernel, by decide +kernel⟩, List.mem_of_getElem? (i := 697) (by decide +kernel), List.mem_of_getElem? (i := 924) (by decide +kernel), List.mem_of_getElem? (i := 925) (by decide +kernel)⟩
theorem lw_p41 : lw_okq (⟨"PileSharesModel", "sharesNow", "()V"⟩, 41) := ⟨⟨by decide +kernel, by decide +kernel⟩, List.mem_of_getElem? (i := 697) (by decide +kernel), List.mem_of_getElem? (i := 945) (by decide +kernel), List.mem_of_getElem? (i := 946) (by decide +kernel)⟩
theorem lw_p42 : lw_okq (⟨"PileSharesModel", "laysPiles", "()V"⟩, 41) := ⟨⟨by decide +kernel, by decide +kernel⟩, List.mem_of_getElem? (i := 697) (by decide +kernel), List.mem_of_getElem? (i := 949) (by decide +kernel), List.mem_of_getElem? (i := 950) (by decide +kernel)⟩
theorem lw_p43 : lw_okq (⟨"PileSharesModel", "laysSums", "()V"⟩, 41) := ⟨⟨by decide +kernel, by decide +kernel⟩, List.mem_of_getElem? (i := 697) (by decide +kernel), List.mem_of_getElem? (i := 953) (by decide +kernel), List.mem_of_getElem? (i := 954) (by decide +kernel)⟩
theorem lw_p44 : lw_okq (⟨"PileSharesModel", "sumOf", "(I)J"⟩, 41) := ⟨⟨by decide +kernel, by decide +kernel⟩, List.mem_of_getElem? (i := 697) (by decide +kernel), List.mem_of_getElem? (i := 957) (by decide +kernel), List.mem_of_getElem? (i := 958) (by decide +kernel)⟩
theorem lw_p45 : lw_okq (⟨"PileSharesModel", "shares", "()V"⟩, 41) := ⟨⟨by decide +kernel, by decide +kernel⟩, List.mem_of_getElem? (i := 697) (by decide +kernel), List.mem_of_getElem? (i := 961) (by decide +kernel), List.mem_of_getElem? (i := 962) (by decide +kernel)⟩
theorem lw_p46 : lw_okq (⟨"PileSharesModel", "isSteady", "(I)Z"⟩, 41) := ⟨⟨by decide +kernel, by decide +kernel⟩, List.mem_of_getElem? (i := 697) (by decide +kernel), List.mem_of_getElem? (i := 965) (by decide +kernel), List.mem_of_getElem? (i := 966) (by decide +kernel)⟩
theorem lw_p47 : lw_okq (⟨"PileSharesModel", "goesOut", "()I"⟩, 41) := ⟨⟨by decide +kernel, by decide +kernel⟩, List.mem_of_getElem? (i := 697) (by decide +kernel), List.mem_of_getElem? (i := 972) (by decide +kernel), List.mem_of_getElem? (i := 973) (by decide +kernel)⟩
def lw_privs_3 : List (MethodName × Nat) := [(⟨"PileSharesModel", "readsWind", "()V"⟩, 41), (⟨"PileSharesModel", "isTaken", "(II)Z"⟩, 41), (⟨"PileSharesModel", "ofPile", "(II)I"⟩, 41), (⟨"PileSharesModel", "notes", "()V"⟩, 41), (⟨"PileSharesModel", "becomes", "(II)I"⟩, 41), (⟨"PileSharesModel", "isPile", "(I)Z"⟩, 41), (⟨"PileSharesModel", "wholes", "()I"⟩, 41), (⟨"PileSharesModel", "isColumn", "(I)Z"⟩, 41), (⟨"PileSharesModel", "ofColumn", "(II)I"⟩, 41), (⟨"PileSharesModel", "sharesNow", "()V"⟩, 41), (⟨"PileSharesModel", "laysPiles", "()V"⟩, 41), (⟨"PileSharesModel", "laysSums", "()V"⟩, 41), (⟨"PileSharesModel", "sumOf", "(I)J"⟩, 41), (⟨"PileSharesModel", "shares", "()V"⟩, 41), (⟨"PileSharesModel", "isSteady", "(I)Z"⟩, 41), (⟨"PileSharesModel", "goesOut", "()I"⟩, 41)]
theorem lw_r3 : ∀ q ∈ lw_privs_3, lw_okq q := List.forall_mem_cons.mpr ⟨lw_p32, List.forall_mem_cons.mpr ⟨lw_p33, List.forall_mem_cons.mpr ⟨lw_p34, List.forall_mem_cons.mpr ⟨lw_p35, List.forall_mem_cons.mpr ⟨lw_p36, List.forall_mem_cons.mpr ⟨lw_p37, List.forall_mem_cons.mpr ⟨lw_p38, List.forall_mem_cons.mpr ⟨lw_p39, List.forall_mem_cons.mpr ⟨lw_p40, List.forall_mem_cons.mpr ⟨lw_p41, List.forall_mem_cons.mpr ⟨lw_p42, List.forall_mem_cons.mpr ⟨lw_p43, List.forall_mem_cons.mpr ⟨lw_p44, List.forall_mem_cons.mpr ⟨lw_p45, List.forall_mem_cons.mpr ⟨lw_p46, List.forall_mem_cons.mpr ⟨lw_p47, fun _ h => absurd h List.not_mem_nil⟩⟩⟩⟩⟩⟩⟩⟩⟩⟩⟩⟩⟩⟩⟩⟩
theorem lw_p48 : lw_okq (⟨"PileSharesModel", "bears", "(I)J"⟩, 41) := ⟨⟨by decide +kernel, by decide +kernel⟩, List.mem_of_getElem? (i := 697) (by decide +kernel), List.mem_of_getElem? (i := 976) (by decide +kernel), List.mem_of_getElem? (i := 977) (by decide +kernel)⟩
theorem lw_p49 : lw_okq (⟨"PileSharesModel", "pressAt", "(II)J"⟩, 41) := ⟨⟨by decide +kernel, by decide +kernel⟩, List.mem_of_getElem? (i := 697) (by decide +kernel), List.mem_of_getElem? (i := 980) (by decide +kernel), List.mem_of_getElem? (i := 981) (by decide +kernel)⟩
theorem lw_p50 : lw_okq (⟨"PileSharesModel", "comesIn", "()I"⟩, 41) := ⟨⟨by decide +kernel, by decide +kernel⟩, List.mem_of_getElem? (i := 697) (by decide +kernel), List.mem_of_getElem? (i := 984) (by decide +kernel), List.mem_of_getElem? (i := 985) (by decide +kernel)⟩
theorem lw_p51 : lw_okq (⟨"PileSharesModel", "laysMost", "()Z"⟩, 41) := ⟨⟨by decide +kernel, by decide +kernel⟩, List.mem_of_getElem? (i := 697) (by decide +kernel), List.mem_of_getElem? (i := 1021) (by decide +kernel), List.mem_of_getElem? (i := 1022) (by decide +kernel)⟩
theorem lw_p52 : lw_okq (⟨"PileSharesModel", "tellsMost", "(I)J"⟩, 41) := ⟨⟨by decide +kernel, by decide +kernel⟩, List.mem_of_getElem? (i := 697) (by decide +kernel), List.mem_of_getElem? (i := 1025) (by decide +kernel), List.mem_of_getElem? (i := 1026) (by decide +kernel)⟩
theorem lw_p53 : lw_okq (⟨"PileSharesModel", "isKern", "(II)I"⟩, 41) := ⟨⟨by decide +kernel, by decide +kernel⟩, List.mem_of_getElem? (i := 697) (by decide +kernel), List.mem_of_getElem? (i := 1037) (by decide +kernel), List.mem_of_getElem? (i := 1038) (by decide +kernel)⟩
theorem lw_p54 : lw_okq (⟨"PileSharesModel", "laysLoad", "(III)V"⟩, 41) := ⟨⟨by decide +kernel, by decide +kernel⟩, List.mem_of_getElem? (i := 697) (by decide +kernel), List.mem_of_getElem? (i := 1041) (by decide +kernel), List.mem_of_getElem? (i := 1042) (by decide +kernel)⟩
theorem lw_p55 : lw_okq (⟨"PileSharesModel", "laysWithout", "(I)Z"⟩, 41) := ⟨⟨by decide +kernel, by decide +kernel⟩, List.mem_of_getElem? (i := 697) (by decide +kernel), List.mem_of_getElem? (i := 1054) (by decide +kernel), List.mem_of_getElem? (i := 1055) (by decide +kernel)⟩
theorem lw_p56 : lw_okq (⟨"PileSharesModel", "laysSpots", "()V"⟩, 41) := ⟨⟨by decide +kernel, by decide +kernel⟩, List.mem_of_getElem? (i := 697) (by decide +kernel), List.mem_of_getElem? (i := 1090) (by decide +kernel), List.mem_of_getElem? (i := 1091) (by decide +kernel)⟩
theorem lw_p57 : lw_okq (⟨"PileSharesModel", "isSo", "()Z"⟩, 41) := ⟨⟨by decide +kernel, by decide +kernel⟩, List.mem_of_getElem? (i := 697) (by decide +kernel), List.mem_of_getElem? (i := 1094) (by decide +kernel), List.mem_of_getElem? (i := 1095) (by decide +kernel)⟩
theorem lw_p58 : lw_okq (⟨"PileSharesModel", "mostAlike", "(I)I"⟩, 41) := ⟨⟨by decide +kernel, by decide +kernel⟩, List.mem_of_getElem? (i := 697) (by decide +kernel), List.mem_of_getElem? (i := 1102) (by decide +kernel), List.mem_of_getElem? (i := 1103) (by decide +kernel)⟩
def lw_privs_4 : List (MethodName × Nat) := [(⟨"PileSharesModel", "bears", "(I)J"⟩, 41), (⟨"PileSharesModel", "pressAt", "(II)J"⟩, 41), (⟨"PileSharesModel", "comesIn", "()I"⟩, 41), (⟨"PileSharesModel", "laysMost", "()Z"⟩, 41), (⟨"PileSharesModel", "tellsMost", "(I)J"⟩, 41), (⟨"PileSharesModel", "isKern", "(II)I"⟩, 41), (⟨"PileSharesModel", "laysLoad", "(III)V"⟩, 41), (⟨"PileSharesModel", "laysWithout", "(I)Z"⟩, 41), (⟨"PileSharesModel", "laysSpots", "()V"⟩, 41), (⟨"PileSharesModel", "isSo", "()Z"⟩, 41), (⟨"PileSharesModel", "mostAlike", "(I)I"⟩, 41)]
theorem lw_r4 : ∀ q ∈ lw_privs_4, lw_okq q := List.forall_mem_cons.mpr ⟨lw_p48, List.forall_mem_cons.mpr ⟨lw_p49, List.forall_mem_cons.mpr ⟨lw_p50, List.forall_mem_cons.mpr ⟨lw_p51, List.forall_mem_cons.mpr ⟨lw_p52, List.forall_mem_cons.mpr ⟨lw_p53, List.forall_mem_cons.mpr ⟨lw_p54, List.forall_mem_cons.mpr ⟨lw_p55, List.forall_mem_cons.mpr ⟨lw_p56, List.forall_mem_cons.mpr ⟨lw_p57, List.forall_mem_cons.mpr ⟨lw_p58, fun _ h => absurd h List.not_mem_nil⟩⟩⟩⟩⟩⟩⟩⟩⟩⟩⟩
def lw_privs : List (MethodName × Nat) := lw_privs_1 ++ (lw_privs_2 ++ (lw_privs_3 ++ (lw_privs_4)))
def lw_tbl : List Cond := k2_sels lw_privs ++ tables_1
theorem lw_privs_ok : ∀ q ∈ lw_privs, lw_okq q := by
  show ∀ q ∈ lw_privs_1 ++ (lw_privs_2 ++ (lw_privs_3 ++ (lw_privs_4))), lw_okq q
  exact List.forall_mem_append.mpr ⟨lw_r1, List.forall_mem_append.mpr ⟨lw_r2, List.forall_mem_append.mpr ⟨lw_r3, lw_r4⟩⟩⟩

-- names
def RX0 : String := "PileShares$Distribution"
def TX0 : u_T := fun k => match k with
  | 0 => ("PileShares$Distribution", "x", "[I", true)
  | 1 => ("PileShares$Distribution", "y", "[I", true)
  | 2 => ("PileShares$Distribution", "stiff", "[I", true)
  | 3 => ("PileShares$Distribution", "can", "[I", true)
  | 4 => ("PileShares$Distribution", "piles", "I", false)
  | 5 => ("PileShares$Distribution", "w", "J", false)
  | 6 => ("PileShares$Distribution", "u", "J", false)
  | 7 => ("PileShares$Distribution", "v", "J", false)
  | 8 => ("PileShares$Distribution", "set", "I", false)
  | 9 => ("PileShares$Distribution", "active", "I", false)
  | 10 => ("PileShares$Distribution", "rounds", "I", false)
  | 11 => ("PileShares$Distribution", "settled", "Z", false)
  | 12 => ("PileShares$Distribution", "mostUsed", "I", false)
  | 13 => ("PileShares$Distribution", "whole", "LPileShares$Plane;", true)
  | _ => ("PileShares$Distribution", "plane", "LPileShares$Plane;", true)
def tyX0 : Nat → FieldType := fun k => match k with
  | 0 => .array .int
  | 1 => .array .int
  | 2 => .array .int
  | 3 => .array .int
  | 4 => .int
  | 5 => .long
  | 6 => .long
  | 7 => .long
  | 8 => .int
  | 9 => .int
  | 10 => .int
  | 11 => .boolean
  | 12 => .int
  | 13 => .object "PileShares$Plane"
  | _ => .object "PileShares$Plane"
abbrev wsX00 : List Cond := u_ws RX0 TX0 15
theorem nmX0 : ∀ a, a < 15 → ∀ b, b < 15 → a ≠ b → (TX0 a).2.1 ≠ (TX0 b).2.1 := by decide +kernel
theorem tyX0_ok : ∀ k, k < 15 → parseFieldDescriptor (TX0 k).2.2.1 = some (tyX0 k) := by decide +kernel
abbrev cX0_init : ByteArray := prog_2_method_1_code
def yX0_init : MethodName := ⟨RX0, "<init>", "()V"⟩
abbrev cX0_takePiles : ByteArray := prog_2_method_2_code
def yX0_takePiles : MethodName := ⟨RX0, "takePiles", "(LPileShares$Structure;)V"⟩
abbrev cX0_bear : ByteArray := prog_2_method_3_code
def yX0_bear : MethodName := ⟨RX0, "bear", "(JJJ)V"⟩
abbrev cX0_settleOn : ByteArray := prog_2_method_4_code
def yX0_settleOn : MethodName := ⟨RX0, "settleOn", "(I)V"⟩
abbrev cX0_beginWith : ByteArray := prog_2_method_5_code
def yX0_beginWith : MethodName := ⟨RX0, "beginWith", "(I)V"⟩
abbrev cX0_putFurther : ByteArray := prog_2_method_6_code
def yX0_putFurther : MethodName := ⟨RX0, "putFurther", "(IIII)V"⟩
abbrev cX0_takeFurtherAway : ByteArray := prog_2_method_7_code
def yX0_takeFurtherAway : MethodName := ⟨RX0, "takeFurtherAway", "()V"⟩
abbrev cX0_settle : ByteArray := prog_2_method_8_code
def yX0_settle : MethodName := ⟨RX0, "settle", "()V"⟩
abbrev cX0_anotherRoundFollows : ByteArray := prog_2_method_9_code
def yX0_anotherRoundFollows : MethodName := ⟨RX0, "anotherRoundFollows", "()Z"⟩
abbrev cX0_mostPulled : ByteArray := prog_2_method_10_code
def yX0_mostPulled : MethodName := ⟨RX0, "mostPulled", "()I"⟩
abbrev cX0_mostPressedOfReleased : ByteArray := prog_2_method_11_code
def yX0_mostPressedOfReleased : MethodName := ⟨RX0, "mostPressedOfReleased", "()I"⟩
abbrev cX0_findMostUsed : ByteArray := prog_2_method_12_code
def yX0_findMostUsed : MethodName := ⟨RX0, "findMostUsed", "()V"⟩
abbrev cX0_pullsNoPile : ByteArray := prog_2_method_13_code
def yX0_pullsNoPile : MethodName := ⟨RX0, "pullsNoPile", "(II)Z"⟩
abbrev cX0_braceAll : ByteArray := prog_2_method_14_code
def yX0_braceAll : MethodName := ⟨RX0, "braceAll", "(I)Z"⟩
abbrev cX0_isActive : ByteArray := prog_2_method_15_code
def yX0_isActive : MethodName := ⟨RX0, "isActive", "(I)Z"⟩
abbrev cX0_isSlot : ByteArray := prog_2_method_16_code
def yX0_isSlot : MethodName := ⟨RX0, "isSlot", "(I)Z"⟩
abbrev cX0_shareTop : ByteArray := prog_2_method_17_code
def yX0_shareTop : MethodName := ⟨RX0, "shareTop", "(I)J"⟩
abbrev cX0_bottom : ByteArray := prog_2_method_18_code
def yX0_bottom : MethodName := ⟨RX0, "bottom", "()J"⟩
abbrev cX0_shareDown : ByteArray := prog_2_method_19_code
def yX0_shareDown : MethodName := ⟨RX0, "shareDown", "(I)J"⟩
abbrev cX0_useTop : ByteArray := prog_2_method_20_code
def yX0_useTop : MethodName := ⟨RX0, "useTop", "()J"⟩
abbrev cX0_useBottom : ByteArray := prog_2_method_21_code
def yX0_useBottom : MethodName := ⟨RX0, "useBottom", "()J"⟩
def RX1 : String := "PileShares$Plane"
def TX1 : u_T := fun k => match k with
  | 0 => ("PileShares$Plane", "k", "J", false)
  | 1 => ("PileShares$Plane", "kx", "J", false)
  | 2 => ("PileShares$Plane", "ky", "J", false)
  | 3 => ("PileShares$Plane", "kxx", "J", false)
  | 4 => ("PileShares$Plane", "kxy", "J", false)
  | 5 => ("PileShares$Plane", "kyy", "J", false)
  | 6 => ("PileShares$Plane", "inverse00", "J", false)
  | 7 => ("PileShares$Plane", "inverse01", "J", false)
  | 8 => ("PileShares$Plane", "inverse02", "J", false)
  | 9 => ("PileShares$Plane", "inverse11", "J", false)
  | 10 => ("PileShares$Plane", "inverse12", "J", false)
  | 11 => ("PileShares$Plane", "inverse22", "J", false)
  | 12 => ("PileShares$Plane", "bottom", "J", false)
  | 13 => ("PileShares$Plane", "a", "J", false)
  | 14 => ("PileShares$Plane", "b", "J", false)
  | _ => ("PileShares$Plane", "c", "J", false)
def tyX1 : Nat → FieldType := fun k => match k with
  | 0 => .long
  | 1 => .long
  | 2 => .long
  | 3 => .long
  | 4 => .long
  | 5 => .long
  | 6 => .long
  | 7 => .long
  | 8 => .long
  | 9 => .long
  | 10 => .long
  | 11 => .long
  | 12 => .long
  | 13 => .long
  | 14 => .long
  | _ => .long
abbrev wsX10 : List Cond := u_ws RX1 TX1 16
theorem nmX1 : ∀ a, a < 16 → ∀ b, b < 16 → a ≠ b → (TX1 a).2.1 ≠ (TX1 b).2.1 := by decide +kernel
theorem tyX1_ok : ∀ k, k < 16 → parseFieldDescriptor (TX1 k).2.2.1 = some (tyX1 k) := by decide +kernel
abbrev cX1_init : ByteArray := prog_3_method_1_code
def yX1_init : MethodName := ⟨RX1, "<init>", "()V"⟩
abbrev cX1_empty : ByteArray := prog_3_method_2_code
def yX1_empty : MethodName := ⟨RX1, "empty", "()V"⟩
abbrev cX1_copySums : ByteArray := prog_3_method_3_code
def yX1_copySums : MethodName := ⟨RX1, "copySums", "(LPileShares$Plane;)V"⟩
abbrev cX1_put : ByteArray := prog_3_method_4_code
def yX1_put : MethodName := ⟨RX1, "put", "(III)V"⟩
abbrev cX1_brace : ByteArray := prog_3_method_5_code
def yX1_brace : MethodName := ⟨RX1, "brace", "()Z"⟩
abbrev cX1_tilt : ByteArray := prog_3_method_6_code
def yX1_tilt : MethodName := ⟨RX1, "tilt", "(JJJ)V"⟩
abbrev cX1_topAt : ByteArray := prog_3_method_7_code
def yX1_topAt : MethodName := ⟨RX1, "topAt", "(II)J"⟩
def RX2 : String := "PileShares$Script"
def TX2 : u_T := fun k => match k with
  | 0 => ("PileShares$Script", "letters", "[I", true)
  | 1 => ("PileShares$Script", "length", "I", false)
  | 2 => ("PileShares$Script", "at", "I", false)
  | 3 => ("PileShares$Script", "numberStart", "I", false)
  | 4 => ("PileShares$Script", "placeX", "I", false)
  | 5 => ("PileShares$Script", "placeY", "I", false)
  | _ => ("PileShares$Script", "windTold", "Z", false)
def tyX2 : Nat → FieldType := fun k => match k with
  | 0 => .array .int
  | 1 => .int
  | 2 => .int
  | 3 => .int
  | 4 => .int
  | 5 => .int
  | _ => .boolean
abbrev wsX20 : List Cond := u_ws RX2 TX2 7
theorem nmX2 : ∀ a, a < 7 → ∀ b, b < 7 → a ≠ b → (TX2 a).2.1 ≠ (TX2 b).2.1 := by decide +kernel
theorem tyX2_ok : ∀ k, k < 7 → parseFieldDescriptor (TX2 k).2.2.1 = some (tyX2 k) := by decide +kernel
abbrev cX2_init : ByteArray := prog_4_method_1_code
def yX2_init : MethodName := ⟨RX2, "<init>", "()V"⟩
abbrev cX2_append : ByteArray := prog_4_method_2_code
def yX2_append : MethodName := ⟨RX2, "append", "(I)Z"⟩
abbrev cX2_readInto : ByteArray := prog_4_method_3_code
def yX2_readInto : MethodName := ⟨RX2, "readInto", "(LPileShares$Structure;)I"⟩
abbrev cX2_readItem : ByteArray := prog_4_method_4_code
def yX2_readItem : MethodName := ⟨RX2, "readItem", "(LPileShares$Structure;)Z"⟩
abbrev cX2_readPile : ByteArray := prog_4_method_5_code
def yX2_readPile : MethodName := ⟨RX2, "readPile", "(LPileShares$Structure;)Z"⟩
abbrev cX2_readColumn : ByteArray := prog_4_method_6_code
def yX2_readColumn : MethodName := ⟨RX2, "readColumn", "(LPileShares$Structure;)Z"⟩
abbrev cX2_readPlace : ByteArray := prog_4_method_7_code
def yX2_readPlace : MethodName := ⟨RX2, "readPlace", "()Z"⟩
abbrev cX2_readWind : ByteArray := prog_4_method_8_code
def yX2_readWind : MethodName := ⟨RX2, "readWind", "(LPileShares$Structure;)Z"⟩
abbrev cX2_readNumber : ByteArray := prog_4_method_9_code
def yX2_readNumber : MethodName := ⟨RX2, "readNumber", "(II)I"⟩
abbrev cX2_readSemicolon : ByteArray := prog_4_method_10_code
def yX2_readSemicolon : MethodName := ⟨RX2, "readSemicolon", "()Z"⟩
abbrev cX2_skipBlanks : ByteArray := prog_4_method_11_code
def yX2_skipBlanks : MethodName := ⟨RX2, "skipBlanks", "()V"⟩
abbrev cX2_letterHere : ByteArray := prog_4_method_12_code
def yX2_letterHere : MethodName := ⟨RX2, "letterHere", "()I"⟩
abbrev cX2_isDigit : ByteArray := prog_4_method_13_code
def yX2_isDigit : MethodName := ⟨RX2, "isDigit", "(I)Z"⟩
def RX3 : String := "PileShares$Structure"
def TX3 : u_T := fun k => match k with
  | 0 => ("PileShares$Structure", "x", "[I", true)
  | 1 => ("PileShares$Structure", "y", "[I", true)
  | 2 => ("PileShares$Structure", "stiff", "[I", true)
  | 3 => ("PileShares$Structure", "can", "[I", true)
  | 4 => ("PileShares$Structure", "piles", "I", false)
  | 5 => ("PileShares$Structure", "intact", "I", false)
  | 6 => ("PileShares$Structure", "columnX", "[I", true)
  | 7 => ("PileShares$Structure", "columnY", "[I", true)
  | 8 => ("PileShares$Structure", "load", "[I", true)
  | 9 => ("PileShares$Structure", "columns", "I", false)
  | 10 => ("PileShares$Structure", "windX", "I", false)
  | _ => ("PileShares$Structure", "windY", "I", false)
def tyX3 : Nat → FieldType := fun k => match k with
  | 0 => .array .int
  | 1 => .array .int
  | 2 => .array .int
  | 3 => .array .int
  | 4 => .int
  | 5 => .int
  | 6 => .array .int
  | 7 => .array .int
  | 8 => .array .int
  | 9 => .int
  | 10 => .int
  | _ => .int
abbrev wsX30 : List Cond := u_ws RX3 TX3 12
theorem nmX3 : ∀ a, a < 12 → ∀ b, b < 12 → a ≠ b → (TX3 a).2.1 ≠ (TX3 b).2.1 := by decide +kernel
theorem tyX3_ok : ∀ k, k < 12 → parseFieldDescriptor (TX3 k).2.2.1 = some (tyX3 k) := by decide +kernel
abbrev cX3_init : ByteArray := prog_5_method_1_code
def yX3_init : MethodName := ⟨RX3, "<init>", "()V"⟩
abbrev cX3_empty : ByteArray := prog_5_method_2_code
def yX3_empty : MethodName := ⟨RX3, "empty", "()V"⟩
abbrev cX3_copy : ByteArray := prog_5_method_3_code
def yX3_copy : MethodName := ⟨RX3, "copy", "(LPileShares$Structure;LPileShares$Structure;)V"⟩
abbrev cX3_hasPileAt : ByteArray := prog_5_method_4_code
def yX3_hasPileAt : MethodName := ⟨RX3, "hasPileAt", "(II)Z"⟩
abbrev cX3_isIntact : ByteArray := prog_5_method_5_code
def yX3_isIntact : MethodName := ⟨RX3, "isIntact", "(I)Z"⟩
abbrev cX3_addPile : ByteArray := prog_5_method_6_code
def yX3_addPile : MethodName := ⟨RX3, "addPile", "(IIII)V"⟩
abbrev cX3_addColumn : ByteArray := prog_5_method_7_code
def yX3_addColumn : MethodName := ⟨RX3, "addColumn", "(III)V"⟩
abbrev cX3_weight : ByteArray := prog_5_method_8_code
def yX3_weight : MethodName := ⟨RX3, "weight", "()I"⟩
abbrev cX3_momentX : ByteArray := prog_5_method_9_code
def yX3_momentX : MethodName := ⟨RX3, "momentX", "()I"⟩
abbrev cX3_momentY : ByteArray := prog_5_method_10_code
def yX3_momentY : MethodName := ⟨RX3, "momentY", "()I"⟩
def RX4 : String := "PileShares"
def TX4 : u_T := fun k => match k with
  | 0 => ("PileShares", "now", "LPileShares$Structure;", true)
  | 1 => ("PileShares", "told", "LPileShares$Structure;", true)
  | 2 => ("PileShares", "script", "LPileShares$Script;", true)
  | 3 => ("PileShares", "past", "[LPileShares$Structure;", true)
  | 4 => ("PileShares", "recorded", "I", false)
  | 5 => ("PileShares", "images", "[LPileShares$Structure;", true)
  | 6 => ("PileShares", "kept", "[Z", true)
  | 7 => ("PileShares", "unknown", "I", false)
  | 8 => ("PileShares", "seenPile", "[I", true)
  | 9 => ("PileShares", "seenShare", "[I", true)
  | 10 => ("PileShares", "sights", "I", false)
  | 11 => ("PileShares", "groups", "[I", true)
  | _ => ("PileShares", "spread", "LPileShares$Distribution;", true)
def tyX4 : Nat → FieldType := fun k => match k with
  | 0 => .object "PileShares$Structure"
  | 1 => .object "PileShares$Structure"
  | 2 => .object "PileShares$Script"
  | 3 => .array (.object "PileShares$Structure")
  | 4 => .int
  | 5 => .array (.object "PileShares$Structure")
  | 6 => .array .boolean
  | 7 => .int
  | 8 => .array .int
  | 9 => .array .int
  | 10 => .int
  | 11 => .array .int
  | _ => .object "PileShares$Distribution"
abbrev wsX40 : List Cond := u_ws RX4 TX4 13
theorem nmX4 : ∀ a, a < 13 → ∀ b, b < 13 → a ≠ b → (TX4 a).2.1 ≠ (TX4 b).2.1 := by decide +kernel
theorem tyX4_ok : ∀ k, k < 13 → parseFieldDescriptor (TX4 k).2.2.1 = some (tyX4 k) := by decide +kernel
abbrev cX4_init : ByteArray := prog_1_method_1_code
def yX4_init : MethodName := ⟨RX4, "<init>", "()V"⟩
abbrev cX4_type : ByteArray := prog_1_method_2_code
def yX4_type : MethodName := ⟨RX4, "type", "(I)I"⟩
abbrev cX4_clear : ByteArray := prog_1_method_3_code
def yX4_clear : MethodName := ⟨RX4, "clear", "()I"⟩
abbrev cX4_tells : ByteArray := prog_1_method_4_code
def yX4_tells : MethodName := ⟨RX4, "tells", "()I"⟩
abbrev cX4_drives : ByteArray := prog_1_method_5_code
def yX4_drives : MethodName := ⟨RX4, "drives", "(IIII)I"⟩
abbrev cX4_loses : ByteArray := prog_1_method_6_code
def yX4_loses : MethodName := ⟨RX4, "loses", "(I)I"⟩
abbrev cX4_mends : ByteArray := prog_1_method_7_code
def yX4_mends : MethodName := ⟨RX4, "mends", "(I)I"⟩
abbrev cX4_loads : ByteArray := prog_1_method_8_code
def yX4_loads : MethodName := ⟨RX4, "loads", "(II)I"⟩
abbrev cX4_moves : ByteArray := prog_1_method_9_code
def yX4_moves : MethodName := ⟨RX4, "moves", "(III)I"⟩
abbrev cX4_winds : ByteArray := prog_1_method_10_code
def yX4_winds : MethodName := ⟨RX4, "winds", "(II)I"⟩
abbrev cX4_undo : ByteArray := prog_1_method_11_code
def yX4_undo : MethodName := ⟨RX4, "undo", "()I"⟩
abbrev cX4_pile : ByteArray := prog_1_method_12_code
def yX4_pile : MethodName := ⟨RX4, "pile", "(II)J"⟩
abbrev cX4_column : ByteArray := prog_1_method_13_code
def yX4_column : MethodName := ⟨RX4, "column", "(II)J"⟩
abbrev cX4_sum : ByteArray := prog_1_method_14_code
def yX4_sum : MethodName := ⟨RX4, "sum", "(I)J"⟩
abbrev cX4_sharing : ByteArray := prog_1_method_15_code
def yX4_sharing : MethodName := ⟨RX4, "sharing", "(I)I"⟩
abbrev cX4_share : ByteArray := prog_1_method_16_code
def yX4_share : MethodName := ⟨RX4, "share", "(II)J"⟩
abbrev cX4_press : ByteArray := prog_1_method_17_code
def yX4_press : MethodName := ⟨RX4, "press", "(III)J"⟩
abbrev cX4_most : ByteArray := prog_1_method_18_code
def yX4_most : MethodName := ⟨RX4, "most", "(I)J"⟩
abbrev cX4_factor : ByteArray := prog_1_method_19_code
def yX4_factor : MethodName := ⟨RX4, "factor", "(I)J"⟩
abbrev cX4_kern : ByteArray := prog_1_method_20_code
def yX4_kern : MethodName := ⟨RX4, "kern", "(II)I"⟩
abbrev cX4_kerns : ByteArray := prog_1_method_21_code
def yX4_kerns : MethodName := ⟨RX4, "kerns", "(I)I"⟩
abbrev cX4_without : ByteArray := prog_1_method_22_code
def yX4_without : MethodName := ⟨RX4, "without", "(II)J"⟩
abbrev cX4_key : ByteArray := prog_1_method_23_code
def yX4_key : MethodName := ⟨RX4, "key", "()I"⟩
abbrev cX4_extra : ByteArray := prog_1_method_24_code
def yX4_extra : MethodName := ⟨RX4, "extra", "(II)I"⟩
abbrev cX4_odds : ByteArray := prog_1_method_25_code
def yX4_odds : MethodName := ⟨RX4, "odds", "(II)I"⟩
abbrev cX4_hunts : ByteArray := prog_1_method_26_code
def yX4_hunts : MethodName := ⟨RX4, "hunts", "(I)I"⟩
abbrev cX4_sees : ByteArray := prog_1_method_27_code
def yX4_sees : MethodName := ⟨RX4, "sees", "(II)I"⟩
abbrev cX4_forget : ByteArray := prog_1_method_28_code
def yX4_forget : MethodName := ⟨RX4, "forget", "()I"⟩
abbrev cX4_spots : ByteArray := prog_1_method_29_code
def yX4_spots : MethodName := ⟨RX4, "spots", "(I)I"⟩
abbrev cX4_ask : ByteArray := prog_1_method_30_code
def yX4_ask : MethodName := ⟨RX4, "ask", "()I"⟩
abbrev cX4_keep : ByteArray := prog_1_method_31_code
def yX4_keep : MethodName := ⟨RX4, "keep", "(I)I"⟩
abbrev cX4_back : ByteArray := prog_1_method_32_code
def yX4_back : MethodName := ⟨RX4, "back", "(I)I"⟩
abbrev cX4_count : ByteArray := prog_1_method_33_code
def yX4_count : MethodName := ⟨RX4, "count", "(I)I"⟩
abbrev cX4_isPlace : ByteArray := prog_1_method_34_code
def yX4_isPlace : MethodName := ⟨RX4, "isPlace", "(II)Z"⟩
abbrev cX4_isPileKind : ByteArray := prog_1_method_35_code
def yX4_isPileKind : MethodName := ⟨RX4, "isPileKind", "(II)Z"⟩
abbrev cX4_isPile : ByteArray := prog_1_method_36_code
def yX4_isPile : MethodName := ⟨RX4, "isPile", "(I)Z"⟩
abbrev cX4_isColumn : ByteArray := prog_1_method_37_code
def yX4_isColumn : MethodName := ⟨RX4, "isColumn", "(I)Z"⟩
abbrev cX4_xOf : ByteArray := prog_1_method_38_code
def yX4_xOf : MethodName := ⟨RX4, "xOf", "(I)I"⟩
abbrev cX4_yOf : ByteArray := prog_1_method_39_code
def yX4_yOf : MethodName := ⟨RX4, "yOf", "(I)I"⟩
abbrev cX4_record : ByteArray := prog_1_method_40_code
def yX4_record : MethodName := ⟨RX4, "record", "()V"⟩
abbrev cX4_dropSights : ByteArray := prog_1_method_41_code
def yX4_dropSights : MethodName := ⟨RX4, "dropSights", "()I"⟩
abbrev cX4_takePresent : ByteArray := prog_1_method_42_code
def yX4_takePresent : MethodName := ⟨RX4, "takePresent", "()V"⟩
abbrev cX4_spreadPresent : ByteArray := prog_1_method_43_code
def yX4_spreadPresent : MethodName := ⟨RX4, "spreadPresent", "()V"⟩
abbrev cX4_bracePresent : ByteArray := prog_1_method_44_code
def yX4_bracePresent : MethodName := ⟨RX4, "bracePresent", "()Z"⟩
abbrev cX4_greatestUse : ByteArray := prog_1_method_45_code
def yX4_greatestUse : MethodName := ⟨RX4, "greatestUse", "(I)J"⟩
abbrev cX4_standsOn : ByteArray := prog_1_method_46_code
def yX4_standsOn : MethodName := ⟨RX4, "standsOn", "(I)Z"⟩
abbrev cX4_isSpot : ByteArray := prog_1_method_47_code
def yX4_isSpot : MethodName := ⟨RX4, "isSpot", "(I)Z"⟩
abbrev cX4_groupShares : ByteArray := prog_1_method_48_code
def yX4_groupShares : MethodName := ⟨RX4, "groupShares", "()V"⟩
abbrev cX4_pileWithSmallestLargestGroup : ByteArray := prog_1_method_49_code
def yX4_pileWithSmallestLargestGroup : MethodName := ⟨RX4, "pileWithSmallestLargestGroup", "()I"⟩
abbrev cX4_power : ByteArray := prog_1_method_50_code
def yX4_power : MethodName := ⟨RX4, "power", "(II)I"⟩
abbrev cX4_inLowestTerms : ByteArray := prog_1_method_51_code
def yX4_inLowestTerms : MethodName := ⟨RX4, "inLowestTerms", "(JJI)J"⟩
abbrev cX4_commonDivisor : ByteArray := prog_1_method_52_code
def yX4_commonDivisor : MethodName := ⟨RX4, "commonDivisor", "(JJ)J"⟩
abbrev cX4_compareFractions : ByteArray := prog_1_method_53_code
def yX4_compareFractions : MethodName := ⟨RX4, "compareFractions", "(JJJJ)I"⟩
def RX5 : String := "PileSharesModel"
def TX5 : u_T := fun k => match k with
  | 0 => ("PileSharesModel", "s", "[I", true)
  | 1 => ("PileSharesModel", "past", "[I", true)
  | 2 => ("PileSharesModel", "undos", "I", false)
  | 3 => ("PileSharesModel", "kept", "[I", true)
  | 4 => ("PileSharesModel", "isKept", "[Z", true)
  | 5 => ("PileSharesModel", "hunted", "I", false)
  | 6 => ("PileSharesModel", "sight", "[I", true)
  | 7 => ("PileSharesModel", "sights", "I", false)
  | 8 => ("PileSharesModel", "text", "[I", true)
  | 9 => ("PileSharesModel", "typed", "I", false)
  | 10 => ("PileSharesModel", "at", "I", false)
  | 11 => ("PileSharesModel", "start", "I", false)
  | 12 => ("PileSharesModel", "token", "I", false)
  | 13 => ("PileSharesModel", "value", "I", false)
  | 14 => ("PileSharesModel", "fault", "I", false)
  | 15 => ("PileSharesModel", "draft", "[I", true)
  | 16 => ("PileSharesModel", "isBlown", "Z", false)
  | 17 => ("PileSharesModel", "px", "[I", true)
  | 18 => ("PileSharesModel", "py", "[I", true)
  | 19 => ("PileSharesModel", "pk", "[I", true)
  | 20 => ("PileSharesModel", "pc", "[I", true)
  | 21 => ("PileSharesModel", "many", "I", false)
  | 22 => ("PileSharesModel", "whole", "I", false)
  | 23 => ("PileSharesModel", "sumW", "J", false)
  | 24 => ("PileSharesModel", "sumU", "J", false)
  | 25 => ("PileSharesModel", "sumV", "J", false)
  | 26 => ("PileSharesModel", "inside", "I", false)
  | 27 => ("PileSharesModel", "rounds", "I", false)
  | 28 => ("PileSharesModel", "isSettled", "Z", false)
  | 29 => ("PileSharesModel", "all", "J", false)
  | 30 => ("PileSharesModel", "da", "J", false)
  | 31 => ("PileSharesModel", "db", "J", false)
  | 32 => ("PileSharesModel", "dc", "J", false)
  | 33 => ("PileSharesModel", "useUp", "J", false)
  | 34 => ("PileSharesModel", "useDown", "J", false)
  | 35 => ("PileSharesModel", "used", "I", false)
  | 36 => ("PileSharesModel", "isSpot", "[Z", true)
  | 37 => ("PileSharesModel", "borne", "[I", true)
  | 38 => ("PileSharesModel", "spots", "I", false)
  | 39 => ("PileSharesModel", "firstSpot", "I", false)
  | _ => ("PileSharesModel", "alike", "[I", true)
def tyX5 : Nat → FieldType := fun k => match k with
  | 0 => .array .int
  | 1 => .array .int
  | 2 => .int
  | 3 => .array .int
  | 4 => .array .boolean
  | 5 => .int
  | 6 => .array .int
  | 7 => .int
  | 8 => .array .int
  | 9 => .int
  | 10 => .int
  | 11 => .int
  | 12 => .int
  | 13 => .int
  | 14 => .int
  | 15 => .array .int
  | 16 => .boolean
  | 17 => .array .int
  | 18 => .array .int
  | 19 => .array .int
  | 20 => .array .int
  | 21 => .int
  | 22 => .int
  | 23 => .long
  | 24 => .long
  | 25 => .long
  | 26 => .int
  | 27 => .int
  | 28 => .boolean
  | 29 => .long
  | 30 => .long
  | 31 => .long
  | 32 => .long
  | 33 => .long
  | 34 => .long
  | 35 => .int
  | 36 => .array .boolean
  | 37 => .array .int
  | 38 => .int
  | 39 => .int
  | _ => .array .int
abbrev wsX50 : List Cond := u_ws RX5 TX5 41
theorem nmX5 : ∀ a, a < 41 → ∀ b, b < 41 → a ≠ b → (TX5 a).2.1 ≠ (TX5 b).2.1 := by decide +kernel
theorem tyX5_ok : ∀ k, k < 41 → parseFieldDescriptor (TX5 k).2.2.1 = some (tyX5 k) := by decide +kernel
abbrev cX5_init : ByteArray := prog_7_method_1_code
def yX5_init : MethodName := ⟨RX5, "<init>", "()V"⟩
abbrev cX5_in : ByteArray := prog_7_method_2_code
def yX5_in : MethodName := ⟨RX5, "in", "(III)Z"⟩
abbrev cX5_ofPile : ByteArray := prog_7_method_3_code
def yX5_ofPile : MethodName := ⟨RX5, "ofPile", "(II)I"⟩
abbrev cX5_ofColumn : ByteArray := prog_7_method_4_code
def yX5_ofColumn : MethodName := ⟨RX5, "ofColumn", "(II)I"⟩
abbrev cX5_isPile : ByteArray := prog_7_method_5_code
def yX5_isPile : MethodName := ⟨RX5, "isPile", "(I)Z"⟩
abbrev cX5_isColumn : ByteArray := prog_7_method_6_code
def yX5_isColumn : MethodName := ⟨RX5, "isColumn", "(I)Z"⟩
abbrev cX5_isPlace : ByteArray := prog_7_method_7_code
def yX5_isPlace : MethodName := ⟨RX5, "isPlace", "(II)Z"⟩
abbrev cX5_type : ByteArray := prog_7_method_8_code
def yX5_type : MethodName := ⟨RX5, "type", "(I)I"⟩
abbrev cX5_clear : ByteArray := prog_7_method_9_code
def yX5_clear : MethodName := ⟨RX5, "clear", "()I"⟩
abbrev cX5_isFigure : ByteArray := prog_7_method_10_code
def yX5_isFigure : MethodName := ⟨RX5, "isFigure", "()Z"⟩
abbrev cX5_next : ByteArray := prog_7_method_11_code
def yX5_next : MethodName := ⟨RX5, "next", "()V"⟩
abbrev cX5_due : ByteArray := prog_7_method_12_code
def yX5_due : MethodName := ⟨RX5, "due", "(Z)V"⟩
abbrev cX5_reads : ByteArray := prog_7_method_13_code
def yX5_reads : MethodName := ⟨RX5, "reads", "(IIII)V"⟩
abbrev cX5_isTakenByDraft : ByteArray := prog_7_method_14_code
def yX5_isTakenByDraft : MethodName := ⟨RX5, "isTakenByDraft", "(II)Z"⟩
abbrev cX5_readsPile : ByteArray := prog_7_method_15_code
def yX5_readsPile : MethodName := ⟨RX5, "readsPile", "()V"⟩
abbrev cX5_readsColumn : ByteArray := prog_7_method_16_code
def yX5_readsColumn : MethodName := ⟨RX5, "readsColumn", "()V"⟩
abbrev cX5_readsWind : ByteArray := prog_7_method_17_code
def yX5_readsWind : MethodName := ⟨RX5, "readsWind", "()V"⟩
abbrev cX5_tells : ByteArray := prog_7_method_18_code
def yX5_tells : MethodName := ⟨RX5, "tells", "()I"⟩
abbrev cX5_notes : ByteArray := prog_7_method_19_code
def yX5_notes : MethodName := ⟨RX5, "notes", "()V"⟩
abbrev cX5_isTaken : ByteArray := prog_7_method_20_code
def yX5_isTaken : MethodName := ⟨RX5, "isTaken", "(II)Z"⟩
abbrev cX5_isKind : ByteArray := prog_7_method_21_code
def yX5_isKind : MethodName := ⟨RX5, "isKind", "(II)Z"⟩
abbrev cX5_drives : ByteArray := prog_7_method_22_code
def yX5_drives : MethodName := ⟨RX5, "drives", "(IIII)I"⟩
abbrev cX5_wholes : ByteArray := prog_7_method_23_code
def yX5_wholes : MethodName := ⟨RX5, "wholes", "()I"⟩
abbrev cX5_becomes : ByteArray := prog_7_method_24_code
def yX5_becomes : MethodName := ⟨RX5, "becomes", "(II)I"⟩
abbrev cX5_loses : ByteArray := prog_7_method_25_code
def yX5_loses : MethodName := ⟨RX5, "loses", "(I)I"⟩
abbrev cX5_mends : ByteArray := prog_7_method_26_code
def yX5_mends : MethodName := ⟨RX5, "mends", "(I)I"⟩
abbrev cX5_loads : ByteArray := prog_7_method_27_code
def yX5_loads : MethodName := ⟨RX5, "loads", "(II)I"⟩
abbrev cX5_moves : ByteArray := prog_7_method_28_code
def yX5_moves : MethodName := ⟨RX5, "moves", "(III)I"⟩
abbrev cX5_winds : ByteArray := prog_7_method_29_code
def yX5_winds : MethodName := ⟨RX5, "winds", "(II)I"⟩
abbrev cX5_undo : ByteArray := prog_7_method_30_code
def yX5_undo : MethodName := ⟨RX5, "undo", "()I"⟩
abbrev cX5_laysPiles : ByteArray := prog_7_method_31_code
def yX5_laysPiles : MethodName := ⟨RX5, "laysPiles", "()V"⟩
abbrev cX5_sumOf : ByteArray := prog_7_method_32_code
def yX5_sumOf : MethodName := ⟨RX5, "sumOf", "(I)J"⟩
abbrev cX5_laysSums : ByteArray := prog_7_method_33_code
def yX5_laysSums : MethodName := ⟨RX5, "laysSums", "()V"⟩
abbrev cX5_laysLoad : ByteArray := prog_7_method_34_code
def yX5_laysLoad : MethodName := ⟨RX5, "laysLoad", "(III)V"⟩
abbrev cX5_det : ByteArray := prog_7_method_35_code
def yX5_det : MethodName := ⟨RX5, "det", "(JJJJJJJJJ)J"⟩
abbrev cX5_isSteady : ByteArray := prog_7_method_36_code
def yX5_isSteady : MethodName := ⟨RX5, "isSteady", "(I)Z"⟩
abbrev cX5_pressAt : ByteArray := prog_7_method_37_code
def yX5_pressAt : MethodName := ⟨RX5, "pressAt", "(II)J"⟩
abbrev cX5_bears : ByteArray := prog_7_method_38_code
def yX5_bears : MethodName := ⟨RX5, "bears", "(I)J"⟩
abbrev cX5_goesOut : ByteArray := prog_7_method_39_code
def yX5_goesOut : MethodName := ⟨RX5, "goesOut", "()I"⟩
abbrev cX5_comesIn : ByteArray := prog_7_method_40_code
def yX5_comesIn : MethodName := ⟨RX5, "comesIn", "()I"⟩
abbrev cX5_shares : ByteArray := prog_7_method_41_code
def yX5_shares : MethodName := ⟨RX5, "shares", "()V"⟩
abbrev cX5_sharesNow : ByteArray := prog_7_method_42_code
def yX5_sharesNow : MethodName := ⟨RX5, "sharesNow", "()V"⟩
abbrev cX5_common : ByteArray := prog_7_method_43_code
def yX5_common : MethodName := ⟨RX5, "common", "(JJ)J"⟩
abbrev cX5_part : ByteArray := prog_7_method_44_code
def yX5_part : MethodName := ⟨RX5, "part", "(JJI)J"⟩
abbrev cX5_against : ByteArray := prog_7_method_45_code
def yX5_against : MethodName := ⟨RX5, "against", "(JJJJ)I"⟩
abbrev cX5_laysMost : ByteArray := prog_7_method_46_code
def yX5_laysMost : MethodName := ⟨RX5, "laysMost", "()Z"⟩
abbrev cX5_tellsMost : ByteArray := prog_7_method_47_code
def yX5_tellsMost : MethodName := ⟨RX5, "tellsMost", "(I)J"⟩
abbrev cX5_pile : ByteArray := prog_7_method_48_code
def yX5_pile : MethodName := ⟨RX5, "pile", "(II)J"⟩
abbrev cX5_column : ByteArray := prog_7_method_49_code
def yX5_column : MethodName := ⟨RX5, "column", "(II)J"⟩
abbrev cX5_sum : ByteArray := prog_7_method_50_code
def yX5_sum : MethodName := ⟨RX5, "sum", "(I)J"⟩
abbrev cX5_sharing : ByteArray := prog_7_method_51_code
def yX5_sharing : MethodName := ⟨RX5, "sharing", "(I)I"⟩
abbrev cX5_share : ByteArray := prog_7_method_52_code
def yX5_share : MethodName := ⟨RX5, "share", "(II)J"⟩
abbrev cX5_press : ByteArray := prog_7_method_53_code
def yX5_press : MethodName := ⟨RX5, "press", "(III)J"⟩
abbrev cX5_most : ByteArray := prog_7_method_54_code
def yX5_most : MethodName := ⟨RX5, "most", "(I)J"⟩
abbrev cX5_factor : ByteArray := prog_7_method_55_code
def yX5_factor : MethodName := ⟨RX5, "factor", "(I)J"⟩
abbrev cX5_isKern : ByteArray := prog_7_method_56_code
def yX5_isKern : MethodName := ⟨RX5, "isKern", "(II)I"⟩
abbrev cX5_kern : ByteArray := prog_7_method_57_code
def yX5_kern : MethodName := ⟨RX5, "kern", "(II)I"⟩
abbrev cX5_kerns : ByteArray := prog_7_method_58_code
def yX5_kerns : MethodName := ⟨RX5, "kerns", "(I)I"⟩
abbrev cX5_laysWithout : ByteArray := prog_7_method_59_code
def yX5_laysWithout : MethodName := ⟨RX5, "laysWithout", "(I)Z"⟩
abbrev cX5_without : ByteArray := prog_7_method_60_code
def yX5_without : MethodName := ⟨RX5, "without", "(II)J"⟩
abbrev cX5_key : ByteArray := prog_7_method_61_code
def yX5_key : MethodName := ⟨RX5, "key", "()I"⟩
abbrev cX5_extra : ByteArray := prog_7_method_62_code
def yX5_extra : MethodName := ⟨RX5, "extra", "(II)I"⟩
abbrev cX5_odds : ByteArray := prog_7_method_63_code
def yX5_odds : MethodName := ⟨RX5, "odds", "(II)I"⟩
abbrev cX5_hunts : ByteArray := prog_7_method_64_code
def yX5_hunts : MethodName := ⟨RX5, "hunts", "(I)I"⟩
abbrev cX5_sees : ByteArray := prog_7_method_65_code
def yX5_sees : MethodName := ⟨RX5, "sees", "(II)I"⟩
abbrev cX5_forget : ByteArray := prog_7_method_66_code
def yX5_forget : MethodName := ⟨RX5, "forget", "()I"⟩
abbrev cX5_isSo : ByteArray := prog_7_method_67_code
def yX5_isSo : MethodName := ⟨RX5, "isSo", "()Z"⟩
abbrev cX5_laysSpots : ByteArray := prog_7_method_68_code
def yX5_laysSpots : MethodName := ⟨RX5, "laysSpots", "()V"⟩
abbrev cX5_spots : ByteArray := prog_7_method_69_code
def yX5_spots : MethodName := ⟨RX5, "spots", "(I)I"⟩
abbrev cX5_mostAlike : ByteArray := prog_7_method_70_code
def yX5_mostAlike : MethodName := ⟨RX5, "mostAlike", "(I)I"⟩
abbrev cX5_ask : ByteArray := prog_7_method_71_code
def yX5_ask : MethodName := ⟨RX5, "ask", "()I"⟩
abbrev cX5_keep : ByteArray := prog_7_method_72_code
def yX5_keep : MethodName := ⟨RX5, "keep", "(I)I"⟩
abbrev cX5_back : ByteArray := prog_7_method_73_code
def yX5_back : MethodName := ⟨RX5, "back", "(I)I"⟩
abbrev cX5_count : ByteArray := prog_7_method_74_code
def yX5_count : MethodName := ⟨RX5, "count", "(I)I"⟩
def RJ6 : String := "java/lang/Integer"
def TJ6 : u_T := fun k => match k with
  | _ => ("", "", "", false)
def tyJ6 : Nat → FieldType := fun k => match k with
  | _ => .int
theorem nmJ6 : ∀ a, a < 0 → ∀ b, b < 0 → a ≠ b → (TJ6 a).2.1 ≠ (TJ6 b).2.1 := by decide +kernel
theorem tyJ6_ok : ∀ k, k < 0 → parseFieldDescriptor (TJ6 k).2.2.1 = some (tyJ6 k) := by decide +kernel
abbrev cJ6_bitCount_0f7a4 : ByteArray := prog_8_method_49_code
def yJ6_bitCount_0f7a4 : MethodName := ⟨RJ6, "bitCount", "(I)I"⟩
def RJ13 : String := "java/lang/Long"
def TJ13 : u_T := fun k => match k with
  | _ => ("", "", "", false)
def tyJ13 : Nat → FieldType := fun k => match k with
  | _ => .int
theorem nmJ13 : ∀ a, a < 0 → ∀ b, b < 0 → a ≠ b → (TJ13 a).2.1 ≠ (TJ13 b).2.1 := by decide +kernel
theorem tyJ13_ok : ∀ k, k < 0 → parseFieldDescriptor (TJ13 k).2.2.1 = some (tyJ13 k) := by decide +kernel
abbrev cJ13_compare_74951 : ByteArray := prog_9_method_42_code
def yJ13_compare_74951 : MethodName := ⟨RJ13, "compare", "(JJ)I"⟩
def RJ9 : String := "java/lang/Math"
def TJ9 : u_T := fun k => match k with
  | _ => ("", "", "", false)
def tyJ9 : Nat → FieldType := fun k => match k with
  | _ => .int
theorem nmJ9 : ∀ a, a < 0 → ∀ b, b < 0 → a ≠ b → (TJ9 a).2.1 ≠ (TJ9 b).2.1 := by decide +kernel
theorem tyJ9_ok : ∀ k, k < 0 → parseFieldDescriptor (TJ9 k).2.2.1 = some (tyJ9 k) := by decide +kernel
abbrev cJ9_floorDiv_f86c9 : ByteArray := prog_10_method_49_code
def yJ9_floorDiv_f86c9 : MethodName := ⟨RJ9, "floorDiv", "(JJ)J"⟩
abbrev cJ9_abs_067f4 : ByteArray := prog_10_method_61_code
def yJ9_abs_067f4 : MethodName := ⟨RJ9, "abs", "(J)J"⟩
abbrev cJ9_max_7cf53 : ByteArray := prog_10_method_65_code
def yJ9_max_7cf53 : MethodName := ⟨RJ9, "max", "(II)I"⟩
abbrev cJ9_min_7cf53 : ByteArray := prog_10_method_69_code
def yJ9_min_7cf53 : MethodName := ⟨RJ9, "min", "(II)I"⟩
def RJ10 : String := "java/lang/System"
def TJ10 : u_T := fun k => match k with
  | _ => ("", "", "", false)
def tyJ10 : Nat → FieldType := fun k => match k with
  | _ => .int
theorem nmJ10 : ∀ a, a < 0 → ∀ b, b < 0 → a ≠ b → (TJ10 a).2.1 ≠ (TJ10 b).2.1 := by decide +kernel
theorem tyJ10_ok : ∀ k, k < 0 → parseFieldDescriptor (TJ10 k).2.2.1 = some (tyJ10 k) := by decide +kernel
def RJ7 : String := "java/util/Arrays"
def TJ7 : u_T := fun k => match k with
  | _ => ("", "", "", false)
def tyJ7 : Nat → FieldType := fun k => match k with
  | _ => .int
theorem nmJ7 : ∀ a, a < 0 → ∀ b, b < 0 → a ≠ b → (TJ7 a).2.1 ≠ (TJ7 b).2.1 := by decide +kernel
theorem tyJ7_ok : ∀ k, k < 0 → parseFieldDescriptor (TJ7 k).2.2.1 = some (tyJ7 k) := by decide +kernel
abbrev cJ7_fill_53178 : ByteArray := prog_12_method_103_code
def yJ7_fill_53178 : MethodName := ⟨RJ7, "fill", "([II)V"⟩
def RL : String := "PileSharesLaw"
abbrev cL_law : ByteArray := code
def yL_law : MethodName := ⟨RL, "law", "([I)Z"⟩
abbrev vwCl : List vw_C := [(RX0, TX0, 15), (RX1, TX1, 16), (RX2, TX2, 7), (RX3, TX3, 12), (RX4, TX4, 13), (RX5, TX5, 41)]
abbrev TB : List Cond := lw_tbl.filter goodWord
theorem tbm {w : Cond} (i : Nat) (h : lw_tbl[i]? = some w) (hg : goodWord w = true) : w ∈ TB := List.mem_filter.mpr ⟨List.mem_of_getElem? h, hg⟩
theorem TB_good : ∀ w ∈ TB, (w.onTables && w.keeps) = true ∨ ∃ ty, w = .arrayClass ty := fun w h => good_of_word (List.mem_filter.mp h).2
theorem goodC {w : Cond} (h : w ∈ TB) : GoodIn TB (w :: TB) := fun v hv => (List.mem_cons.mp hv).elim (fun e => by subst e; exact ⟨h, TB_good _ h⟩) (fun h => ⟨h, TB_good _ h⟩)
theorem goodV {own C : String} {idx n : Nat} {y : MethodName} {c : ByteArray} {ret : Option FieldType} (h1 : Cond.methodLink own idx y ∈ TB) (h2 : Cond.instanceMethod y ∈ TB) (h3 : Cond.selects C y y ∈ TB) (h4 : Cond.initialized C ∈ TB) (h5 : Cond.code y c n ret ∈ TB) : GoodIn TB (wsV own idx C y (.code y c n ret :: TB)) := by
  intro w hw
  unfold wsV at hw
  rcases List.mem_append.mp hw with h | h
  · have hw : w ∈ TB := by
      rcases List.mem_cons.mp h with rfl | h
      · exact h1
      rcases List.mem_cons.mp h with rfl | h
      · exact h2
      rcases List.mem_cons.mp h with rfl | h
      · exact h3
      rcases List.mem_cons.mp h with rfl | h
      · exact h4
      cases h
    exact ⟨hw, TB_good _ hw⟩
  · exact goodC h5 w h
theorem goodS {own : String} {idx n : Nat} {y : MethodName} {c : ByteArray} {ret : Option FieldType} (h1 : Cond.methodLink own idx y ∈ TB) (h2 : Cond.static y ∈ TB) (h4 : Cond.initialized y.cls ∈ TB) (h5 : Cond.code y c n ret ∈ TB) : GoodIn TB (va_wsS own idx y (.code y c n ret :: TB)) := by
  intro w hw
  unfold va_wsS at hw
  rcases List.mem_append.mp hw with h | h
  · have hw : w ∈ TB := by
      rcases List.mem_cons.mp h with rfl | h
      · exact h1
      rcases List.mem_cons.mp h with rfl | h
      · exact h2
      rcases List.mem_cons.mp h with rfl | h
      · exact h4
      cases h
    exact ⟨hw, TB_good _ hw⟩
  · exact goodC h5 w h
end
section
theorem se_X2_skipBlanks : Cond.selects RX2 yX2_skipBlanks yX2_skipBlanks ∈ TB := tbm 0 (by decide +kernel) (by decide +kernel)
theorem se_X2_readItem : Cond.selects RX2 yX2_readItem yX2_readItem ∈ TB := tbm 1 (by decide +kernel) (by decide +kernel)
theorem se_X2_letterHere : Cond.selects RX2 yX2_letterHere yX2_letterHere ∈ TB := tbm 2 (by decide +kernel) (by decide +kernel)
theorem se_X2_readPile : Cond.selects RX2 yX2_readPile yX2_readPile ∈ TB := tbm 3 (by decide +kernel) (by decide +kernel)
theorem se_X2_readPlace : Cond.selects RX2 yX2_readPlace yX2_readPlace ∈ TB := tbm 4 (by decide +kernel) (by decide +kernel)
theorem se_X2_readNumber : Cond.selects RX2 yX2_readNumber yX2_readNumber ∈ TB := tbm 5 (by decide +kernel) (by decide +kernel)
theorem se_X2_readSemicolon : Cond.selects RX2 yX2_readSemicolon yX2_readSemicolon ∈ TB := tbm 6 (by decide +kernel) (by decide +kernel)
theorem se_X2_readColumn : Cond.selects RX2 yX2_readColumn yX2_readColumn ∈ TB := tbm 7 (by decide +kernel) (by decide +kernel)
theorem se_X2_readWind : Cond.selects RX2 yX2_readWind yX2_readWind ∈ TB := tbm 8 (by decide +kernel) (by decide +kernel)
theorem se_X4_record : Cond.selects RX4 yX4_record yX4_record ∈ TB := tbm 9 (by decide +kernel) (by decide +kernel)
theorem se_X4_isPile : Cond.selects RX4 yX4_isPile yX4_isPile ∈ TB := tbm 10 (by decide +kernel) (by decide +kernel)
theorem se_X4_isColumn : Cond.selects RX4 yX4_isColumn yX4_isColumn ∈ TB := tbm 11 (by decide +kernel) (by decide +kernel)
theorem se_X4_spreadPresent : Cond.selects RX4 yX4_spreadPresent yX4_spreadPresent ∈ TB := tbm 12 (by decide +kernel) (by decide +kernel)
theorem se_X4_takePresent : Cond.selects RX4 yX4_takePresent yX4_takePresent ∈ TB := tbm 13 (by decide +kernel) (by decide +kernel)
theorem se_X0_anotherRoundFollows : Cond.selects RX0 yX0_anotherRoundFollows yX0_anotherRoundFollows ∈ TB := tbm 14 (by decide +kernel) (by decide +kernel)
theorem se_X0_mostPulled : Cond.selects RX0 yX0_mostPulled yX0_mostPulled ∈ TB := tbm 15 (by decide +kernel) (by decide +kernel)
theorem se_X0_mostPressedOfReleased : Cond.selects RX0 yX0_mostPressedOfReleased yX0_mostPressedOfReleased ∈ TB := tbm 16 (by decide +kernel) (by decide +kernel)
theorem se_X0_findMostUsed : Cond.selects RX0 yX0_findMostUsed yX0_findMostUsed ∈ TB := tbm 17 (by decide +kernel) (by decide +kernel)
theorem se_X4_greatestUse : Cond.selects RX4 yX4_greatestUse yX4_greatestUse ∈ TB := tbm 18 (by decide +kernel) (by decide +kernel)
theorem se_X4_bracePresent : Cond.selects RX4 yX4_bracePresent yX4_bracePresent ∈ TB := tbm 19 (by decide +kernel) (by decide +kernel)
theorem se_X4_standsOn : Cond.selects RX4 yX4_standsOn yX4_standsOn ∈ TB := tbm 20 (by decide +kernel) (by decide +kernel)
theorem se_X4_dropSights : Cond.selects RX4 yX4_dropSights yX4_dropSights ∈ TB := tbm 21 (by decide +kernel) (by decide +kernel)
theorem se_X4_isSpot : Cond.selects RX4 yX4_isSpot yX4_isSpot ∈ TB := tbm 22 (by decide +kernel) (by decide +kernel)
theorem se_X4_groupShares : Cond.selects RX4 yX4_groupShares yX4_groupShares ∈ TB := tbm 23 (by decide +kernel) (by decide +kernel)
theorem se_X4_pileWithSmallestLargestGroup : Cond.selects RX4 yX4_pileWithSmallestLargestGroup yX4_pileWithSmallestLargestGroup ∈ TB := tbm 24 (by decide +kernel) (by decide +kernel)
theorem se_X5_next : Cond.selects RX5 yX5_next yX5_next ∈ TB := tbm 25 (by decide +kernel) (by decide +kernel)
theorem se_X5_isFigure : Cond.selects RX5 yX5_isFigure yX5_isFigure ∈ TB := tbm 26 (by decide +kernel) (by decide +kernel)
theorem se_X5_readsPile : Cond.selects RX5 yX5_readsPile yX5_readsPile ∈ TB := tbm 27 (by decide +kernel) (by decide +kernel)
theorem se_X5_due : Cond.selects RX5 yX5_due yX5_due ∈ TB := tbm 28 (by decide +kernel) (by decide +kernel)
theorem se_X5_reads : Cond.selects RX5 yX5_reads yX5_reads ∈ TB := tbm 29 (by decide +kernel) (by decide +kernel)
theorem se_X5_isTakenByDraft : Cond.selects RX5 yX5_isTakenByDraft yX5_isTakenByDraft ∈ TB := tbm 30 (by decide +kernel) (by decide +kernel)
theorem se_X5_readsColumn : Cond.selects RX5 yX5_readsColumn yX5_readsColumn ∈ TB := tbm 31 (by decide +kernel) (by decide +kernel)
theorem se_X5_readsWind : Cond.selects RX5 yX5_readsWind yX5_readsWind ∈ TB := tbm 32 (by decide +kernel) (by decide +kernel)
theorem se_X5_isTaken : Cond.selects RX5 yX5_isTaken yX5_isTaken ∈ TB := tbm 33 (by decide +kernel) (by decide +kernel)
theorem se_X5_ofPile : Cond.selects RX5 yX5_ofPile yX5_ofPile ∈ TB := tbm 34 (by decide +kernel) (by decide +kernel)
theorem se_X5_notes : Cond.selects RX5 yX5_notes yX5_notes ∈ TB := tbm 35 (by decide +kernel) (by decide +kernel)
theorem se_X5_becomes : Cond.selects RX5 yX5_becomes yX5_becomes ∈ TB := tbm 36 (by decide +kernel) (by decide +kernel)
theorem se_X5_isPile : Cond.selects RX5 yX5_isPile yX5_isPile ∈ TB := tbm 37 (by decide +kernel) (by decide +kernel)
theorem se_X5_wholes : Cond.selects RX5 yX5_wholes yX5_wholes ∈ TB := tbm 38 (by decide +kernel) (by decide +kernel)
theorem se_X5_isColumn : Cond.selects RX5 yX5_isColumn yX5_isColumn ∈ TB := tbm 39 (by decide +kernel) (by decide +kernel)
theorem se_X5_ofColumn : Cond.selects RX5 yX5_ofColumn yX5_ofColumn ∈ TB := tbm 40 (by decide +kernel) (by decide +kernel)
theorem se_X5_sharesNow : Cond.selects RX5 yX5_sharesNow yX5_sharesNow ∈ TB := tbm 41 (by decide +kernel) (by decide +kernel)
theorem se_X5_laysPiles : Cond.selects RX5 yX5_laysPiles yX5_laysPiles ∈ TB := tbm 42 (by decide +kernel) (by decide +kernel)
theorem se_X5_laysSums : Cond.selects RX5 yX5_laysSums yX5_laysSums ∈ TB := tbm 43 (by decide +kernel) (by decide +kernel)
theorem se_X5_sumOf : Cond.selects RX5 yX5_sumOf yX5_sumOf ∈ TB := tbm 44 (by decide +kernel) (by decide +kernel)
theorem se_X5_shares : Cond.selects RX5 yX5_shares yX5_shares ∈ TB := tbm 45 (by decide +kernel) (by decide +kernel)
theorem se_X5_isSteady : Cond.selects RX5 yX5_isSteady yX5_isSteady ∈ TB := tbm 46 (by decide +kernel) (by decide +kernel)
theorem se_X5_goesOut : Cond.selects RX5 yX5_goesOut yX5_goesOut ∈ TB := tbm 47 (by decide +kernel) (by decide +kernel)
theorem se_X5_bears : Cond.selects RX5 yX5_bears yX5_bears ∈ TB := tbm 48 (by decide +kernel) (by decide +kernel)
theorem se_X5_pressAt : Cond.selects RX5 yX5_pressAt yX5_pressAt ∈ TB := tbm 49 (by decide +kernel) (by decide +kernel)
theorem se_X5_comesIn : Cond.selects RX5 yX5_comesIn yX5_comesIn ∈ TB := tbm 50 (by decide +kernel) (by decide +kernel)
theorem se_X5_laysMost : Cond.selects RX5 yX5_laysMost yX5_laysMost ∈ TB := tbm 51 (by decide +kernel) (by decide +kernel)
theorem se_X5_tellsMost : Cond.selects RX5 yX5_tellsMost yX5_tellsMost ∈ TB := tbm 52 (by decide +kernel) (by decide +kernel)
theorem se_X5_isKern : Cond.selects RX5 yX5_isKern yX5_isKern ∈ TB := tbm 53 (by decide +kernel) (by decide +kernel)
theorem se_X5_laysLoad : Cond.selects RX5 yX5_laysLoad yX5_laysLoad ∈ TB := tbm 54 (by decide +kernel) (by decide +kernel)
theorem se_X5_laysWithout : Cond.selects RX5 yX5_laysWithout yX5_laysWithout ∈ TB := tbm 55 (by decide +kernel) (by decide +kernel)
theorem se_X5_laysSpots : Cond.selects RX5 yX5_laysSpots yX5_laysSpots ∈ TB := tbm 56 (by decide +kernel) (by decide +kernel)
theorem se_X5_isSo : Cond.selects RX5 yX5_isSo yX5_isSo ∈ TB := tbm 57 (by decide +kernel) (by decide +kernel)
theorem se_X5_mostAlike : Cond.selects RX5 yX5_mostAlike yX5_mostAlike ∈ TB := tbm 58 (by decide +kernel) (by decide +kernel)
theorem in_RL : Cond.initialized RL ∈ TB := tbm 59 (by decide +kernel) (by decide +kernel)
theorem in_RX4 : Cond.initialized RX4 ∈ TB := tbm 60 (by decide +kernel) (by decide +kernel)
theorem in_RX3 : Cond.initialized RX3 ∈ TB := tbm 61 (by decide +kernel) (by decide +kernel)
theorem in_RX2 : Cond.initialized RX2 ∈ TB := tbm 62 (by decide +kernel) (by decide +kernel)
theorem in_RX0 : Cond.initialized RX0 ∈ TB := tbm 63 (by decide +kernel) (by decide +kernel)
theorem in_RX1 : Cond.initialized RX1 ∈ TB := tbm 64 (by decide +kernel) (by decide +kernel)
theorem in_RX5 : Cond.initialized RX5 ∈ TB := tbm 65 (by decide +kernel) (by decide +kernel)
theorem in_RJ9 : Cond.initialized RJ9 ∈ TB := tbm 66 (by decide +kernel) (by decide +kernel)
theorem in_RJ10 : Cond.initialized RJ10 ∈ TB := tbm 67 (by decide +kernel) (by decide +kernel)
theorem in_RJ6 : Cond.initialized RJ6 ∈ TB := tbm 68 (by decide +kernel) (by decide +kernel)
theorem in_RJ13 : Cond.initialized RJ13 ∈ TB := tbm 69 (by decide +kernel) (by decide +kernel)
theorem in_RJ7 : Cond.initialized RJ7 ∈ TB := tbm 70 (by decide +kernel) (by decide +kernel)
theorem im_X4_init : Cond.instanceMethod yX4_init ∈ TB := tbm 74 (by decide +kernel) (by decide +kernel)
theorem cd_X4_init : Cond.code yX4_init cX4_init 2 none ∈ TB := tbm 75 (by decide +kernel) (by decide +kernel)
theorem im_X3_init : Cond.instanceMethod yX3_init ∈ TB := tbm 82 (by decide +kernel) (by decide +kernel)
theorem cd_X3_init : Cond.code yX3_init cX3_init 1 none ∈ TB := tbm 83 (by decide +kernel) (by decide +kernel)
theorem fl_RX3_9 : Cond.fieldLink RX3 9 RX3 "x" "[I" ∈ TB := tbm 85 (by decide +kernel) (by decide +kernel)
theorem fl_RX3_15 : Cond.fieldLink RX3 15 RX3 "y" "[I" ∈ TB := tbm 88 (by decide +kernel) (by decide +kernel)
theorem fl_RX3_18 : Cond.fieldLink RX3 18 RX3 "stiff" "[I" ∈ TB := tbm 91 (by decide +kernel) (by decide +kernel)
theorem fl_RX3_21 : Cond.fieldLink RX3 21 RX3 "can" "[I" ∈ TB := tbm 94 (by decide +kernel) (by decide +kernel)
theorem fl_RX3_33 : Cond.fieldLink RX3 33 RX3 "piles" "I" ∈ TB := tbm 97 (by decide +kernel) (by decide +kernel)
theorem fl_RX3_37 : Cond.fieldLink RX3 37 RX3 "intact" "I" ∈ TB := tbm 101 (by decide +kernel) (by decide +kernel)
theorem fl_RX3_24 : Cond.fieldLink RX3 24 RX3 "columnX" "[I" ∈ TB := tbm 103 (by decide +kernel) (by decide +kernel)
theorem fl_RX3_27 : Cond.fieldLink RX3 27 RX3 "columnY" "[I" ∈ TB := tbm 105 (by decide +kernel) (by decide +kernel)
theorem fl_RX3_30 : Cond.fieldLink RX3 30 RX3 "load" "[I" ∈ TB := tbm 107 (by decide +kernel) (by decide +kernel)
theorem fl_RX3_40 : Cond.fieldLink RX3 40 RX3 "columns" "I" ∈ TB := tbm 109 (by decide +kernel) (by decide +kernel)
theorem fl_RX3_43 : Cond.fieldLink RX3 43 RX3 "windX" "I" ∈ TB := tbm 112 (by decide +kernel) (by decide +kernel)
theorem fl_RX3_46 : Cond.fieldLink RX3 46 RX3 "windY" "I" ∈ TB := tbm 115 (by decide +kernel) (by decide +kernel)
theorem im_X2_init : Cond.instanceMethod yX2_init ∈ TB := tbm 147 (by decide +kernel) (by decide +kernel)
theorem cd_X2_init : Cond.code yX2_init cX2_init 1 none ∈ TB := tbm 148 (by decide +kernel) (by decide +kernel)
theorem fl_RX2_9 : Cond.fieldLink RX2 9 RX2 "letters" "[I" ∈ TB := tbm 150 (by decide +kernel) (by decide +kernel)
theorem fl_RX2_15 : Cond.fieldLink RX2 15 RX2 "length" "I" ∈ TB := tbm 151 (by decide +kernel) (by decide +kernel)
theorem fl_RX2_24 : Cond.fieldLink RX2 24 RX2 "at" "I" ∈ TB := tbm 153 (by decide +kernel) (by decide +kernel)
theorem fl_RX2_71 : Cond.fieldLink RX2 71 RX2 "numberStart" "I" ∈ TB := tbm 154 (by decide +kernel) (by decide +kernel)
theorem fl_RX2_61 : Cond.fieldLink RX2 61 RX2 "placeX" "I" ∈ TB := tbm 155 (by decide +kernel) (by decide +kernel)
theorem fl_RX2_64 : Cond.fieldLink RX2 64 RX2 "placeY" "I" ∈ TB := tbm 156 (by decide +kernel) (by decide +kernel)
theorem fl_RX2_27 : Cond.fieldLink RX2 27 RX2 "windTold" "Z" ∈ TB := tbm 157 (by decide +kernel) (by decide +kernel)
theorem im_X0_init : Cond.instanceMethod yX0_init ∈ TB := tbm 177 (by decide +kernel) (by decide +kernel)
theorem cd_X0_init : Cond.code yX0_init cX0_init 1 none ∈ TB := tbm 178 (by decide +kernel) (by decide +kernel)
theorem im_X1_init : Cond.instanceMethod yX1_init ∈ TB := tbm 183 (by decide +kernel) (by decide +kernel)
theorem cd_X1_init : Cond.code yX1_init cX1_init 1 none ∈ TB := tbm 184 (by decide +kernel) (by decide +kernel)
theorem fl_RX1_7 : Cond.fieldLink RX1 7 RX1 "k" "J" ∈ TB := tbm 186 (by decide +kernel) (by decide +kernel)
theorem fl_RX1_13 : Cond.fieldLink RX1 13 RX1 "kx" "J" ∈ TB := tbm 187 (by decide +kernel) (by decide +kernel)
theorem fl_RX1_16 : Cond.fieldLink RX1 16 RX1 "ky" "J" ∈ TB := tbm 188 (by decide +kernel) (by decide +kernel)
theorem fl_RX1_19 : Cond.fieldLink RX1 19 RX1 "kxx" "J" ∈ TB := tbm 189 (by decide +kernel) (by decide +kernel)
theorem fl_RX1_22 : Cond.fieldLink RX1 22 RX1 "kxy" "J" ∈ TB := tbm 190 (by decide +kernel) (by decide +kernel)
theorem fl_RX1_25 : Cond.fieldLink RX1 25 RX1 "kyy" "J" ∈ TB := tbm 191 (by decide +kernel) (by decide +kernel)
theorem fl_RX1_28 : Cond.fieldLink RX1 28 RX1 "inverse00" "J" ∈ TB := tbm 192 (by decide +kernel) (by decide +kernel)
theorem fl_RX1_31 : Cond.fieldLink RX1 31 RX1 "inverse01" "J" ∈ TB := tbm 193 (by decide +kernel) (by decide +kernel)
theorem fl_RX1_34 : Cond.fieldLink RX1 34 RX1 "inverse02" "J" ∈ TB := tbm 194 (by decide +kernel) (by decide +kernel)
theorem fl_RX1_37 : Cond.fieldLink RX1 37 RX1 "inverse11" "J" ∈ TB := tbm 195 (by decide +kernel) (by decide +kernel)
theorem fl_RX1_40 : Cond.fieldLink RX1 40 RX1 "inverse12" "J" ∈ TB := tbm 196 (by decide +kernel) (by decide +kernel)
theorem fl_RX1_43 : Cond.fieldLink RX1 43 RX1 "inverse22" "J" ∈ TB := tbm 197 (by decide +kernel) (by decide +kernel)
theorem fl_RX1_46 : Cond.fieldLink RX1 46 RX1 "bottom" "J" ∈ TB := tbm 198 (by decide +kernel) (by decide +kernel)
theorem fl_RX1_49 : Cond.fieldLink RX1 49 RX1 "a" "J" ∈ TB := tbm 200 (by decide +kernel) (by decide +kernel)
theorem fl_RX1_52 : Cond.fieldLink RX1 52 RX1 "b" "J" ∈ TB := tbm 201 (by decide +kernel) (by decide +kernel)
theorem fl_RX1_55 : Cond.fieldLink RX1 55 RX1 "c" "J" ∈ TB := tbm 202 (by decide +kernel) (by decide +kernel)
theorem fl_RX0_11 : Cond.fieldLink RX0 11 RX0 "x" "[I" ∈ TB := tbm 237 (by decide +kernel) (by decide +kernel)
theorem fl_RX0_15 : Cond.fieldLink RX0 15 RX0 "y" "[I" ∈ TB := tbm 238 (by decide +kernel) (by decide +kernel)
theorem fl_RX0_18 : Cond.fieldLink RX0 18 RX0 "stiff" "[I" ∈ TB := tbm 239 (by decide +kernel) (by decide +kernel)
theorem fl_RX0_21 : Cond.fieldLink RX0 21 RX0 "can" "[I" ∈ TB := tbm 240 (by decide +kernel) (by decide +kernel)
theorem fl_RX0_50 : Cond.fieldLink RX0 50 RX0 "piles" "I" ∈ TB := tbm 241 (by decide +kernel) (by decide +kernel)
theorem fl_RX0_51 : Cond.fieldLink RX0 51 RX0 "w" "J" ∈ TB := tbm 242 (by decide +kernel) (by decide +kernel)
theorem fl_RX0_55 : Cond.fieldLink RX0 55 RX0 "u" "J" ∈ TB := tbm 243 (by decide +kernel) (by decide +kernel)
theorem fl_RX0_58 : Cond.fieldLink RX0 58 RX0 "v" "J" ∈ TB := tbm 244 (by decide +kernel) (by decide +kernel)
theorem fl_RX0_68 : Cond.fieldLink RX0 68 RX0 "set" "I" ∈ TB := tbm 245 (by decide +kernel) (by decide +kernel)
theorem fl_RX0_82 : Cond.fieldLink RX0 82 RX0 "active" "I" ∈ TB := tbm 247 (by decide +kernel) (by decide +kernel)
theorem fl_RX0_89 : Cond.fieldLink RX0 89 RX0 "rounds" "I" ∈ TB := tbm 249 (by decide +kernel) (by decide +kernel)
theorem fl_RX0_85 : Cond.fieldLink RX0 85 RX0 "settled" "Z" ∈ TB := tbm 251 (by decide +kernel) (by decide +kernel)
theorem fl_RX0_117 : Cond.fieldLink RX0 117 RX0 "mostUsed" "I" ∈ TB := tbm 253 (by decide +kernel) (by decide +kernel)
theorem fl_RX0_27 : Cond.fieldLink RX0 27 RX0 "whole" "LPileShares$Plane;" ∈ TB := tbm 255 (by decide +kernel) (by decide +kernel)
theorem fl_RX0_31 : Cond.fieldLink RX0 31 RX0 "plane" "LPileShares$Plane;" ∈ TB := tbm 256 (by decide +kernel) (by decide +kernel)
theorem fl_RX4_12 : Cond.fieldLink RX4 12 RX4 "now" "LPileShares$Structure;" ∈ TB := tbm 289 (by decide +kernel) (by decide +kernel)
theorem fl_RX4_16 : Cond.fieldLink RX4 16 RX4 "told" "LPileShares$Structure;" ∈ TB := tbm 290 (by decide +kernel) (by decide +kernel)
theorem fl_RX4_22 : Cond.fieldLink RX4 22 RX4 "script" "LPileShares$Script;" ∈ TB := tbm 291 (by decide +kernel) (by decide +kernel)
theorem fl_RX4_26 : Cond.fieldLink RX4 26 RX4 "past" "[LPileShares$Structure;" ∈ TB := tbm 292 (by decide +kernel) (by decide +kernel)
theorem fl_RX4_73 : Cond.fieldLink RX4 73 RX4 "recorded" "I" ∈ TB := tbm 293 (by decide +kernel) (by decide +kernel)
theorem fl_RX4_30 : Cond.fieldLink RX4 30 RX4 "images" "[LPileShares$Structure;" ∈ TB := tbm 294 (by decide +kernel) (by decide +kernel)
theorem fl_RX4_33 : Cond.fieldLink RX4 33 RX4 "kept" "[Z" ∈ TB := tbm 295 (by decide +kernel) (by decide +kernel)
theorem fl_RX4_37 : Cond.fieldLink RX4 37 RX4 "unknown" "I" ∈ TB := tbm 296 (by decide +kernel) (by decide +kernel)
theorem fl_RX4_41 : Cond.fieldLink RX4 41 RX4 "seenPile" "[I" ∈ TB := tbm 297 (by decide +kernel) (by decide +kernel)
theorem fl_RX4_45 : Cond.fieldLink RX4 45 RX4 "seenShare" "[I" ∈ TB := tbm 298 (by decide +kernel) (by decide +kernel)
theorem fl_RX4_76 : Cond.fieldLink RX4 76 RX4 "sights" "I" ∈ TB := tbm 299 (by decide +kernel) (by decide +kernel)
theorem fl_RX4_48 : Cond.fieldLink RX4 48 RX4 "groups" "[I" ∈ TB := tbm 300 (by decide +kernel) (by decide +kernel)
theorem fl_RX4_54 : Cond.fieldLink RX4 54 RX4 "spread" "LPileShares$Distribution;" ∈ TB := tbm 301 (by decide +kernel) (by decide +kernel)
theorem im_X4_type : Cond.instanceMethod yX4_type ∈ TB := tbm 330 (by decide +kernel) (by decide +kernel)
theorem se_X4_type : Cond.selects RX4 yX4_type yX4_type ∈ TB := tbm 331 (by decide +kernel) (by decide +kernel)
theorem cd_X4_type : Cond.code yX4_type cX4_type 2 (some .int) ∈ TB := tbm 332 (by decide +kernel) (by decide +kernel)
theorem im_X2_append : Cond.instanceMethod yX2_append ∈ TB := tbm 334 (by decide +kernel) (by decide +kernel)
theorem se_X2_append : Cond.selects RX2 yX2_append yX2_append ∈ TB := tbm 335 (by decide +kernel) (by decide +kernel)
theorem cd_X2_append : Cond.code yX2_append cX2_append 2 (some .boolean) ∈ TB := tbm 336 (by decide +kernel) (by decide +kernel)
theorem im_X4_clear : Cond.instanceMethod yX4_clear ∈ TB := tbm 338 (by decide +kernel) (by decide +kernel)
theorem se_X4_clear : Cond.selects RX4 yX4_clear yX4_clear ∈ TB := tbm 339 (by decide +kernel) (by decide +kernel)
theorem cd_X4_clear : Cond.code yX4_clear cX4_clear 2 (some .int) ∈ TB := tbm 340 (by decide +kernel) (by decide +kernel)
theorem im_X4_tells : Cond.instanceMethod yX4_tells ∈ TB := tbm 342 (by decide +kernel) (by decide +kernel)
theorem se_X4_tells : Cond.selects RX4 yX4_tells yX4_tells ∈ TB := tbm 343 (by decide +kernel) (by decide +kernel)
theorem cd_X4_tells : Cond.code yX4_tells cX4_tells 3 (some .int) ∈ TB := tbm 344 (by decide +kernel) (by decide +kernel)
theorem im_X2_readInto : Cond.instanceMethod yX2_readInto ∈ TB := tbm 346 (by decide +kernel) (by decide +kernel)
theorem se_X2_readInto : Cond.selects RX2 yX2_readInto yX2_readInto ∈ TB := tbm 347 (by decide +kernel) (by decide +kernel)
theorem cd_X2_readInto : Cond.code yX2_readInto cX2_readInto 3 (some .int) ∈ TB := tbm 348 (by decide +kernel) (by decide +kernel)
theorem im_X3_empty : Cond.instanceMethod yX3_empty ∈ TB := tbm 350 (by decide +kernel) (by decide +kernel)
theorem se_X3_empty : Cond.selects RX3 yX3_empty yX3_empty ∈ TB := tbm 351 (by decide +kernel) (by decide +kernel)
theorem cd_X3_empty : Cond.code yX3_empty cX3_empty 1 none ∈ TB := tbm 352 (by decide +kernel) (by decide +kernel)
theorem im_X2_skipBlanks : Cond.instanceMethod yX2_skipBlanks ∈ TB := tbm 355 (by decide +kernel) (by decide +kernel)
theorem cd_X2_skipBlanks : Cond.code yX2_skipBlanks cX2_skipBlanks 2 none ∈ TB := tbm 356 (by decide +kernel) (by decide +kernel)
theorem im_X2_readItem : Cond.instanceMethod yX2_readItem ∈ TB := tbm 359 (by decide +kernel) (by decide +kernel)
theorem cd_X2_readItem : Cond.code yX2_readItem cX2_readItem 2 (some .boolean) ∈ TB := tbm 360 (by decide +kernel) (by decide +kernel)
theorem im_X2_letterHere : Cond.instanceMethod yX2_letterHere ∈ TB := tbm 363 (by decide +kernel) (by decide +kernel)
theorem cd_X2_letterHere : Cond.code yX2_letterHere cX2_letterHere 1 (some .int) ∈ TB := tbm 364 (by decide +kernel) (by decide +kernel)
theorem im_X2_readPile : Cond.instanceMethod yX2_readPile ∈ TB := tbm 367 (by decide +kernel) (by decide +kernel)
theorem cd_X2_readPile : Cond.code yX2_readPile cX2_readPile 4 (some .boolean) ∈ TB := tbm 368 (by decide +kernel) (by decide +kernel)
theorem im_X2_readPlace : Cond.instanceMethod yX2_readPlace ∈ TB := tbm 371 (by decide +kernel) (by decide +kernel)
theorem cd_X2_readPlace : Cond.code yX2_readPlace cX2_readPlace 3 (some .boolean) ∈ TB := tbm 372 (by decide +kernel) (by decide +kernel)
theorem im_X2_readNumber : Cond.instanceMethod yX2_readNumber ∈ TB := tbm 375 (by decide +kernel) (by decide +kernel)
theorem cd_X2_readNumber : Cond.code yX2_readNumber cX2_readNumber 6 (some .int) ∈ TB := tbm 376 (by decide +kernel) (by decide +kernel)
theorem st_X2_isDigit : Cond.static yX2_isDigit ∈ TB := tbm 378 (by decide +kernel) (by decide +kernel)
theorem cd_X2_isDigit : Cond.code yX2_isDigit cX2_isDigit 1 (some .boolean) ∈ TB := tbm 379 (by decide +kernel) (by decide +kernel)
theorem st_J9_min_7cf53 : Cond.static yJ9_min_7cf53 ∈ TB := tbm 381 (by decide +kernel) (by decide +kernel)
theorem cd_J9_min_7cf53 : Cond.code yJ9_min_7cf53 cJ9_min_7cf53 2 (some .int) ∈ TB := tbm 382 (by decide +kernel) (by decide +kernel)
theorem im_X3_hasPileAt : Cond.instanceMethod yX3_hasPileAt ∈ TB := tbm 384 (by decide +kernel) (by decide +kernel)
theorem se_X3_hasPileAt : Cond.selects RX3 yX3_hasPileAt yX3_hasPileAt ∈ TB := tbm 385 (by decide +kernel) (by decide +kernel)
theorem cd_X3_hasPileAt : Cond.code yX3_hasPileAt cX3_hasPileAt 4 (some .boolean) ∈ TB := tbm 386 (by decide +kernel) (by decide +kernel)
theorem im_X2_readSemicolon : Cond.instanceMethod yX2_readSemicolon ∈ TB := tbm 389 (by decide +kernel) (by decide +kernel)
theorem cd_X2_readSemicolon : Cond.code yX2_readSemicolon cX2_readSemicolon 1 (some .boolean) ∈ TB := tbm 390 (by decide +kernel) (by decide +kernel)
theorem im_X3_addPile : Cond.instanceMethod yX3_addPile ∈ TB := tbm 392 (by decide +kernel) (by decide +kernel)
theorem se_X3_addPile : Cond.selects RX3 yX3_addPile yX3_addPile ∈ TB := tbm 393 (by decide +kernel) (by decide +kernel)
theorem cd_X3_addPile : Cond.code yX3_addPile cX3_addPile 5 none ∈ TB := tbm 394 (by decide +kernel) (by decide +kernel)
theorem im_X2_readColumn : Cond.instanceMethod yX2_readColumn ∈ TB := tbm 397 (by decide +kernel) (by decide +kernel)
theorem cd_X2_readColumn : Cond.code yX2_readColumn cX2_readColumn 3 (some .boolean) ∈ TB := tbm 398 (by decide +kernel) (by decide +kernel)
theorem im_X3_addColumn : Cond.instanceMethod yX3_addColumn ∈ TB := tbm 400 (by decide +kernel) (by decide +kernel)
theorem se_X3_addColumn : Cond.selects RX3 yX3_addColumn yX3_addColumn ∈ TB := tbm 401 (by decide +kernel) (by decide +kernel)
theorem cd_X3_addColumn : Cond.code yX3_addColumn cX3_addColumn 4 none ∈ TB := tbm 402 (by decide +kernel) (by decide +kernel)
theorem im_X2_readWind : Cond.instanceMethod yX2_readWind ∈ TB := tbm 405 (by decide +kernel) (by decide +kernel)
theorem cd_X2_readWind : Cond.code yX2_readWind cX2_readWind 4 (some .boolean) ∈ TB := tbm 406 (by decide +kernel) (by decide +kernel)
theorem st_X3_copy : Cond.static yX3_copy ∈ TB := tbm 408 (by decide +kernel) (by decide +kernel)
theorem cd_X3_copy : Cond.code yX3_copy cX3_copy 2 none ∈ TB := tbm 409 (by decide +kernel) (by decide +kernel)
theorem im_X4_drives : Cond.instanceMethod yX4_drives ∈ TB := tbm 414 (by decide +kernel) (by decide +kernel)
theorem se_X4_drives : Cond.selects RX4 yX4_drives yX4_drives ∈ TB := tbm 415 (by decide +kernel) (by decide +kernel)
theorem cd_X4_drives : Cond.code yX4_drives cX4_drives 5 (some .int) ∈ TB := tbm 416 (by decide +kernel) (by decide +kernel)
theorem st_X4_isPlace : Cond.static yX4_isPlace ∈ TB := tbm 418 (by decide +kernel) (by decide +kernel)
theorem cd_X4_isPlace : Cond.code yX4_isPlace cX4_isPlace 2 (some .boolean) ∈ TB := tbm 419 (by decide +kernel) (by decide +kernel)
theorem st_X4_isPileKind : Cond.static yX4_isPileKind ∈ TB := tbm 421 (by decide +kernel) (by decide +kernel)
theorem cd_X4_isPileKind : Cond.code yX4_isPileKind cX4_isPileKind 2 (some .boolean) ∈ TB := tbm 422 (by decide +kernel) (by decide +kernel)
theorem im_X4_record : Cond.instanceMethod yX4_record ∈ TB := tbm 426 (by decide +kernel) (by decide +kernel)
theorem cd_X4_record : Cond.code yX4_record cX4_record 3 none ∈ TB := tbm 427 (by decide +kernel) (by decide +kernel)
theorem im_X4_loses : Cond.instanceMethod yX4_loses ∈ TB := tbm 430 (by decide +kernel) (by decide +kernel)
theorem se_X4_loses : Cond.selects RX4 yX4_loses yX4_loses ∈ TB := tbm 431 (by decide +kernel) (by decide +kernel)
theorem cd_X4_loses : Cond.code yX4_loses cX4_loses 2 (some .int) ∈ TB := tbm 432 (by decide +kernel) (by decide +kernel)
theorem im_X4_isPile : Cond.instanceMethod yX4_isPile ∈ TB := tbm 435 (by decide +kernel) (by decide +kernel)
theorem cd_X4_isPile : Cond.code yX4_isPile cX4_isPile 2 (some .boolean) ∈ TB := tbm 436 (by decide +kernel) (by decide +kernel)
theorem im_X3_isIntact : Cond.instanceMethod yX3_isIntact ∈ TB := tbm 438 (by decide +kernel) (by decide +kernel)
theorem se_X3_isIntact : Cond.selects RX3 yX3_isIntact yX3_isIntact ∈ TB := tbm 439 (by decide +kernel) (by decide +kernel)
theorem cd_X3_isIntact : Cond.code yX3_isIntact cX3_isIntact 2 (some .boolean) ∈ TB := tbm 440 (by decide +kernel) (by decide +kernel)
theorem st_J6_bitCount_0f7a4 : Cond.static yJ6_bitCount_0f7a4 ∈ TB := tbm 442 (by decide +kernel) (by decide +kernel)
theorem cd_J6_bitCount_0f7a4 : Cond.code yJ6_bitCount_0f7a4 cJ6_bitCount_0f7a4 1 (some .int) ∈ TB := tbm 443 (by decide +kernel) (by decide +kernel)
theorem cn_RJ6_265 : Cond.constant RJ6 265 (1431655765) ∈ TB := tbm 444 (by decide +kernel) (by decide +kernel)
theorem cn_RJ6_266 : Cond.constant RJ6 266 (858993459) ∈ TB := tbm 445 (by decide +kernel) (by decide +kernel)
theorem cn_RJ6_267 : Cond.constant RJ6 267 (252645135) ∈ TB := tbm 446 (by decide +kernel) (by decide +kernel)
theorem im_X4_mends : Cond.instanceMethod yX4_mends ∈ TB := tbm 448 (by decide +kernel) (by decide +kernel)
theorem se_X4_mends : Cond.selects RX4 yX4_mends yX4_mends ∈ TB := tbm 449 (by decide +kernel) (by decide +kernel)
theorem cd_X4_mends : Cond.code yX4_mends cX4_mends 2 (some .int) ∈ TB := tbm 450 (by decide +kernel) (by decide +kernel)
theorem im_X4_loads : Cond.instanceMethod yX4_loads ∈ TB := tbm 452 (by decide +kernel) (by decide +kernel)
theorem se_X4_loads : Cond.selects RX4 yX4_loads yX4_loads ∈ TB := tbm 453 (by decide +kernel) (by decide +kernel)
theorem cd_X4_loads : Cond.code yX4_loads cX4_loads 4 (some .int) ∈ TB := tbm 454 (by decide +kernel) (by decide +kernel)
theorem im_X4_isColumn : Cond.instanceMethod yX4_isColumn ∈ TB := tbm 457 (by decide +kernel) (by decide +kernel)
theorem cd_X4_isColumn : Cond.code yX4_isColumn cX4_isColumn 2 (some .boolean) ∈ TB := tbm 458 (by decide +kernel) (by decide +kernel)
theorem im_X4_moves : Cond.instanceMethod yX4_moves ∈ TB := tbm 460 (by decide +kernel) (by decide +kernel)
theorem se_X4_moves : Cond.selects RX4 yX4_moves yX4_moves ∈ TB := tbm 461 (by decide +kernel) (by decide +kernel)
theorem cd_X4_moves : Cond.code yX4_moves cX4_moves 4 (some .int) ∈ TB := tbm 462 (by decide +kernel) (by decide +kernel)
theorem im_X4_winds : Cond.instanceMethod yX4_winds ∈ TB := tbm 464 (by decide +kernel) (by decide +kernel)
theorem se_X4_winds : Cond.selects RX4 yX4_winds yX4_winds ∈ TB := tbm 465 (by decide +kernel) (by decide +kernel)
theorem cd_X4_winds : Cond.code yX4_winds cX4_winds 3 (some .int) ∈ TB := tbm 466 (by decide +kernel) (by decide +kernel)
theorem im_X4_undo : Cond.instanceMethod yX4_undo ∈ TB := tbm 468 (by decide +kernel) (by decide +kernel)
theorem se_X4_undo : Cond.selects RX4 yX4_undo yX4_undo ∈ TB := tbm 469 (by decide +kernel) (by decide +kernel)
theorem cd_X4_undo : Cond.code yX4_undo cX4_undo 1 (some .int) ∈ TB := tbm 470 (by decide +kernel) (by decide +kernel)
theorem im_X4_pile : Cond.instanceMethod yX4_pile ∈ TB := tbm 472 (by decide +kernel) (by decide +kernel)
theorem se_X4_pile : Cond.selects RX4 yX4_pile yX4_pile ∈ TB := tbm 473 (by decide +kernel) (by decide +kernel)
theorem cd_X4_pile : Cond.code yX4_pile cX4_pile 3 (some .long) ∈ TB := tbm 474 (by decide +kernel) (by decide +kernel)
theorem cn_RX4_132 : Cond.constantLong RX4 132 (-1000000000000000000) ∈ TB := tbm 475 (by decide +kernel) (by decide +kernel)
theorem im_X4_spreadPresent : Cond.instanceMethod yX4_spreadPresent ∈ TB := tbm 478 (by decide +kernel) (by decide +kernel)
theorem cd_X4_spreadPresent : Cond.code yX4_spreadPresent cX4_spreadPresent 1 none ∈ TB := tbm 479 (by decide +kernel) (by decide +kernel)
theorem im_X4_takePresent : Cond.instanceMethod yX4_takePresent ∈ TB := tbm 482 (by decide +kernel) (by decide +kernel)
theorem cd_X4_takePresent : Cond.code yX4_takePresent cX4_takePresent 1 none ∈ TB := tbm 483 (by decide +kernel) (by decide +kernel)
theorem im_X0_takePiles : Cond.instanceMethod yX0_takePiles ∈ TB := tbm 485 (by decide +kernel) (by decide +kernel)
theorem se_X0_takePiles : Cond.selects RX0 yX0_takePiles yX0_takePiles ∈ TB := tbm 486 (by decide +kernel) (by decide +kernel)
theorem cd_X0_takePiles : Cond.code yX0_takePiles cX0_takePiles 2 none ∈ TB := tbm 487 (by decide +kernel) (by decide +kernel)
theorem im_X3_weight : Cond.instanceMethod yX3_weight ∈ TB := tbm 490 (by decide +kernel) (by decide +kernel)
theorem se_X3_weight : Cond.selects RX3 yX3_weight yX3_weight ∈ TB := tbm 491 (by decide +kernel) (by decide +kernel)
theorem cd_X3_weight : Cond.code yX3_weight cX3_weight 3 (some .int) ∈ TB := tbm 492 (by decide +kernel) (by decide +kernel)
theorem im_X3_momentX : Cond.instanceMethod yX3_momentX ∈ TB := tbm 494 (by decide +kernel) (by decide +kernel)
theorem se_X3_momentX : Cond.selects RX3 yX3_momentX yX3_momentX ∈ TB := tbm 495 (by decide +kernel) (by decide +kernel)
theorem cd_X3_momentX : Cond.code yX3_momentX cX3_momentX 3 (some .int) ∈ TB := tbm 496 (by decide +kernel) (by decide +kernel)
theorem im_X3_momentY : Cond.instanceMethod yX3_momentY ∈ TB := tbm 498 (by decide +kernel) (by decide +kernel)
theorem se_X3_momentY : Cond.selects RX3 yX3_momentY yX3_momentY ∈ TB := tbm 499 (by decide +kernel) (by decide +kernel)
theorem cd_X3_momentY : Cond.code yX3_momentY cX3_momentY 3 (some .int) ∈ TB := tbm 500 (by decide +kernel) (by decide +kernel)
theorem im_X0_bear : Cond.instanceMethod yX0_bear ∈ TB := tbm 502 (by decide +kernel) (by decide +kernel)
theorem se_X0_bear : Cond.selects RX0 yX0_bear yX0_bear ∈ TB := tbm 503 (by decide +kernel) (by decide +kernel)
theorem cd_X0_bear : Cond.code yX0_bear cX0_bear 7 none ∈ TB := tbm 504 (by decide +kernel) (by decide +kernel)
theorem im_X0_settleOn : Cond.instanceMethod yX0_settleOn ∈ TB := tbm 506 (by decide +kernel) (by decide +kernel)
theorem se_X0_settleOn : Cond.selects RX0 yX0_settleOn yX0_settleOn ∈ TB := tbm 507 (by decide +kernel) (by decide +kernel)
theorem cd_X0_settleOn : Cond.code yX0_settleOn cX0_settleOn 2 none ∈ TB := tbm 508 (by decide +kernel) (by decide +kernel)
theorem im_X0_beginWith : Cond.instanceMethod yX0_beginWith ∈ TB := tbm 510 (by decide +kernel) (by decide +kernel)
theorem se_X0_beginWith : Cond.selects RX0 yX0_beginWith yX0_beginWith ∈ TB := tbm 511 (by decide +kernel) (by decide +kernel)
theorem cd_X0_beginWith : Cond.code yX0_beginWith cX0_beginWith 3 none ∈ TB := tbm 512 (by decide +kernel) (by decide +kernel)
theorem im_X1_empty : Cond.instanceMethod yX1_empty ∈ TB := tbm 514 (by decide +kernel) (by decide +kernel)
theorem se_X1_empty : Cond.selects RX1 yX1_empty yX1_empty ∈ TB := tbm 515 (by decide +kernel) (by decide +kernel)
theorem cd_X1_empty : Cond.code yX1_empty cX1_empty 1 none ∈ TB := tbm 516 (by decide +kernel) (by decide +kernel)
theorem im_X1_put : Cond.instanceMethod yX1_put ∈ TB := tbm 518 (by decide +kernel) (by decide +kernel)
theorem se_X1_put : Cond.selects RX1 yX1_put yX1_put ∈ TB := tbm 519 (by decide +kernel) (by decide +kernel)
theorem cd_X1_put : Cond.code yX1_put cX1_put 6 none ∈ TB := tbm 520 (by decide +kernel) (by decide +kernel)
theorem im_X0_settle : Cond.instanceMethod yX0_settle ∈ TB := tbm 522 (by decide +kernel) (by decide +kernel)
theorem se_X0_settle : Cond.selects RX0 yX0_settle yX0_settle ∈ TB := tbm 523 (by decide +kernel) (by decide +kernel)
theorem cd_X0_settle : Cond.code yX0_settle cX0_settle 3 none ∈ TB := tbm 524 (by decide +kernel) (by decide +kernel)
theorem im_X1_copySums : Cond.instanceMethod yX1_copySums ∈ TB := tbm 526 (by decide +kernel) (by decide +kernel)
theorem se_X1_copySums : Cond.selects RX1 yX1_copySums yX1_copySums ∈ TB := tbm 527 (by decide +kernel) (by decide +kernel)
theorem cd_X1_copySums : Cond.code yX1_copySums cX1_copySums 2 none ∈ TB := tbm 528 (by decide +kernel) (by decide +kernel)
theorem im_X0_anotherRoundFollows : Cond.instanceMethod yX0_anotherRoundFollows ∈ TB := tbm 531 (by decide +kernel) (by decide +kernel)
theorem cd_X0_anotherRoundFollows : Cond.code yX0_anotherRoundFollows cX0_anotherRoundFollows 3 (some .boolean) ∈ TB := tbm 532 (by decide +kernel) (by decide +kernel)
theorem im_X1_brace : Cond.instanceMethod yX1_brace ∈ TB := tbm 534 (by decide +kernel) (by decide +kernel)
theorem se_X1_brace : Cond.selects RX1 yX1_brace yX1_brace ∈ TB := tbm 535 (by decide +kernel) (by decide +kernel)
theorem cd_X1_brace : Cond.code yX1_brace cX1_brace 1 (some .boolean) ∈ TB := tbm 536 (by decide +kernel) (by decide +kernel)
theorem im_X1_tilt : Cond.instanceMethod yX1_tilt ∈ TB := tbm 538 (by decide +kernel) (by decide +kernel)
theorem se_X1_tilt : Cond.selects RX1 yX1_tilt yX1_tilt ∈ TB := tbm 539 (by decide +kernel) (by decide +kernel)
theorem cd_X1_tilt : Cond.code yX1_tilt cX1_tilt 7 none ∈ TB := tbm 540 (by decide +kernel) (by decide +kernel)
theorem im_X0_mostPulled : Cond.instanceMethod yX0_mostPulled ∈ TB := tbm 543 (by decide +kernel) (by decide +kernel)
theorem cd_X0_mostPulled : Cond.code yX0_mostPulled cX0_mostPulled 7 (some .int) ∈ TB := tbm 544 (by decide +kernel) (by decide +kernel)
theorem im_X1_topAt : Cond.instanceMethod yX1_topAt ∈ TB := tbm 546 (by decide +kernel) (by decide +kernel)
theorem se_X1_topAt : Cond.selects RX1 yX1_topAt yX1_topAt ∈ TB := tbm 547 (by decide +kernel) (by decide +kernel)
theorem cd_X1_topAt : Cond.code yX1_topAt cX1_topAt 3 (some .long) ∈ TB := tbm 548 (by decide +kernel) (by decide +kernel)
theorem im_X0_mostPressedOfReleased : Cond.instanceMethod yX0_mostPressedOfReleased ∈ TB := tbm 551 (by decide +kernel) (by decide +kernel)
theorem cd_X0_mostPressedOfReleased : Cond.code yX0_mostPressedOfReleased cX0_mostPressedOfReleased 8 (some .int) ∈ TB := tbm 552 (by decide +kernel) (by decide +kernel)
theorem im_X0_findMostUsed : Cond.instanceMethod yX0_findMostUsed ∈ TB := tbm 555 (by decide +kernel) (by decide +kernel)
theorem cd_X0_findMostUsed : Cond.code yX0_findMostUsed cX0_findMostUsed 6 none ∈ TB := tbm 556 (by decide +kernel) (by decide +kernel)
theorem im_X0_shareTop : Cond.instanceMethod yX0_shareTop ∈ TB := tbm 558 (by decide +kernel) (by decide +kernel)
theorem se_X0_shareTop : Cond.selects RX0 yX0_shareTop yX0_shareTop ∈ TB := tbm 559 (by decide +kernel) (by decide +kernel)
theorem cd_X0_shareTop : Cond.code yX0_shareTop cX0_shareTop 2 (some .long) ∈ TB := tbm 560 (by decide +kernel) (by decide +kernel)
theorem st_X0_isSlot : Cond.static yX0_isSlot ∈ TB := tbm 562 (by decide +kernel) (by decide +kernel)
theorem cd_X0_isSlot : Cond.code yX0_isSlot cX0_isSlot 1 (some .boolean) ∈ TB := tbm 563 (by decide +kernel) (by decide +kernel)
theorem im_X0_isActive : Cond.instanceMethod yX0_isActive ∈ TB := tbm 565 (by decide +kernel) (by decide +kernel)
theorem se_X0_isActive : Cond.selects RX0 yX0_isActive yX0_isActive ∈ TB := tbm 566 (by decide +kernel) (by decide +kernel)
theorem cd_X0_isActive : Cond.code yX0_isActive cX0_isActive 2 (some .boolean) ∈ TB := tbm 567 (by decide +kernel) (by decide +kernel)
theorem cn_RX4_156 : Cond.constantLong RX4 156 (-9) ∈ TB := tbm 569 (by decide +kernel) (by decide +kernel)
theorem im_X4_column : Cond.instanceMethod yX4_column ∈ TB := tbm 571 (by decide +kernel) (by decide +kernel)
theorem se_X4_column : Cond.selects RX4 yX4_column yX4_column ∈ TB := tbm 572 (by decide +kernel) (by decide +kernel)
theorem cd_X4_column : Cond.code yX4_column cX4_column 3 (some .long) ∈ TB := tbm 573 (by decide +kernel) (by decide +kernel)
theorem im_X4_sum : Cond.instanceMethod yX4_sum ∈ TB := tbm 575 (by decide +kernel) (by decide +kernel)
theorem se_X4_sum : Cond.selects RX4 yX4_sum yX4_sum ∈ TB := tbm 576 (by decide +kernel) (by decide +kernel)
theorem cd_X4_sum : Cond.code yX4_sum cX4_sum 2 (some .long) ∈ TB := tbm 577 (by decide +kernel) (by decide +kernel)
theorem im_X4_sharing : Cond.instanceMethod yX4_sharing ∈ TB := tbm 579 (by decide +kernel) (by decide +kernel)
theorem se_X4_sharing : Cond.selects RX4 yX4_sharing yX4_sharing ∈ TB := tbm 580 (by decide +kernel) (by decide +kernel)
theorem cd_X4_sharing : Cond.code yX4_sharing cX4_sharing 2 (some .int) ∈ TB := tbm 581 (by decide +kernel) (by decide +kernel)
theorem im_X4_share : Cond.instanceMethod yX4_share ∈ TB := tbm 583 (by decide +kernel) (by decide +kernel)
theorem se_X4_share : Cond.selects RX4 yX4_share yX4_share ∈ TB := tbm 584 (by decide +kernel) (by decide +kernel)
theorem cd_X4_share : Cond.code yX4_share cX4_share 3 (some .long) ∈ TB := tbm 585 (by decide +kernel) (by decide +kernel)
theorem cn_RX4_177 : Cond.constantLong RX4 177 (-2000000000000000000) ∈ TB := tbm 586 (by decide +kernel) (by decide +kernel)
theorem im_X0_shareDown : Cond.instanceMethod yX0_shareDown ∈ TB := tbm 588 (by decide +kernel) (by decide +kernel)
theorem se_X0_shareDown : Cond.selects RX0 yX0_shareDown yX0_shareDown ∈ TB := tbm 589 (by decide +kernel) (by decide +kernel)
theorem cd_X0_shareDown : Cond.code yX0_shareDown cX0_shareDown 2 (some .long) ∈ TB := tbm 590 (by decide +kernel) (by decide +kernel)
theorem st_J9_floorDiv_f86c9 : Cond.static yJ9_floorDiv_f86c9 ∈ TB := tbm 592 (by decide +kernel) (by decide +kernel)
theorem cd_J9_floorDiv_f86c9 : Cond.code yJ9_floorDiv_f86c9 cJ9_floorDiv_f86c9 6 (some .long) ∈ TB := tbm 593 (by decide +kernel) (by decide +kernel)
theorem im_X0_bottom : Cond.instanceMethod yX0_bottom ∈ TB := tbm 596 (by decide +kernel) (by decide +kernel)
theorem se_X0_bottom : Cond.selects RX0 yX0_bottom yX0_bottom ∈ TB := tbm 597 (by decide +kernel) (by decide +kernel)
theorem cd_X0_bottom : Cond.code yX0_bottom cX0_bottom 1 (some .long) ∈ TB := tbm 598 (by decide +kernel) (by decide +kernel)
theorem st_X4_inLowestTerms : Cond.static yX4_inLowestTerms ∈ TB := tbm 600 (by decide +kernel) (by decide +kernel)
theorem cd_X4_inLowestTerms : Cond.code yX4_inLowestTerms cX4_inLowestTerms 7 (some .long) ∈ TB := tbm 601 (by decide +kernel) (by decide +kernel)
theorem st_J9_abs_067f4 : Cond.static yJ9_abs_067f4 ∈ TB := tbm 603 (by decide +kernel) (by decide +kernel)
theorem cd_J9_abs_067f4 : Cond.code yJ9_abs_067f4 cJ9_abs_067f4 2 (some .long) ∈ TB := tbm 604 (by decide +kernel) (by decide +kernel)
theorem st_X4_commonDivisor : Cond.static yX4_commonDivisor ∈ TB := tbm 606 (by decide +kernel) (by decide +kernel)
theorem cd_X4_commonDivisor : Cond.code yX4_commonDivisor cX4_commonDivisor 7 (some .long) ∈ TB := tbm 607 (by decide +kernel) (by decide +kernel)
theorem im_X4_press : Cond.instanceMethod yX4_press ∈ TB := tbm 609 (by decide +kernel) (by decide +kernel)
theorem se_X4_press : Cond.selects RX4 yX4_press yX4_press ∈ TB := tbm 610 (by decide +kernel) (by decide +kernel)
theorem cd_X4_press : Cond.code yX4_press cX4_press 4 (some .long) ∈ TB := tbm 611 (by decide +kernel) (by decide +kernel)
theorem im_X4_most : Cond.instanceMethod yX4_most ∈ TB := tbm 614 (by decide +kernel) (by decide +kernel)
theorem se_X4_most : Cond.selects RX4 yX4_most yX4_most ∈ TB := tbm 615 (by decide +kernel) (by decide +kernel)
theorem cd_X4_most : Cond.code yX4_most cX4_most 2 (some .long) ∈ TB := tbm 616 (by decide +kernel) (by decide +kernel)
theorem cn_RX4_204 : Cond.constantLong RX4 204 (-1) ∈ TB := tbm 617 (by decide +kernel) (by decide +kernel)
theorem im_X4_greatestUse : Cond.instanceMethod yX4_greatestUse ∈ TB := tbm 620 (by decide +kernel) (by decide +kernel)
theorem cd_X4_greatestUse : Cond.code yX4_greatestUse cX4_greatestUse 2 (some .long) ∈ TB := tbm 621 (by decide +kernel) (by decide +kernel)
theorem im_X0_useTop : Cond.instanceMethod yX0_useTop ∈ TB := tbm 623 (by decide +kernel) (by decide +kernel)
theorem se_X0_useTop : Cond.selects RX0 yX0_useTop yX0_useTop ∈ TB := tbm 624 (by decide +kernel) (by decide +kernel)
theorem cd_X0_useTop : Cond.code yX0_useTop cX0_useTop 1 (some .long) ∈ TB := tbm 625 (by decide +kernel) (by decide +kernel)
theorem im_X0_useBottom : Cond.instanceMethod yX0_useBottom ∈ TB := tbm 627 (by decide +kernel) (by decide +kernel)
theorem se_X0_useBottom : Cond.selects RX0 yX0_useBottom yX0_useBottom ∈ TB := tbm 628 (by decide +kernel) (by decide +kernel)
theorem cd_X0_useBottom : Cond.code yX0_useBottom cX0_useBottom 1 (some .long) ∈ TB := tbm 629 (by decide +kernel) (by decide +kernel)
theorem im_X4_factor : Cond.instanceMethod yX4_factor ∈ TB := tbm 631 (by decide +kernel) (by decide +kernel)
theorem se_X4_factor : Cond.selects RX4 yX4_factor yX4_factor ∈ TB := tbm 632 (by decide +kernel) (by decide +kernel)
theorem cd_X4_factor : Cond.code yX4_factor cX4_factor 2 (some .long) ∈ TB := tbm 633 (by decide +kernel) (by decide +kernel)
theorem im_X4_kern : Cond.instanceMethod yX4_kern ∈ TB := tbm 635 (by decide +kernel) (by decide +kernel)
theorem se_X4_kern : Cond.selects RX4 yX4_kern yX4_kern ∈ TB := tbm 636 (by decide +kernel) (by decide +kernel)
theorem cd_X4_kern : Cond.code yX4_kern cX4_kern 3 (some .int) ∈ TB := tbm 637 (by decide +kernel) (by decide +kernel)
theorem im_X4_bracePresent : Cond.instanceMethod yX4_bracePresent ∈ TB := tbm 640 (by decide +kernel) (by decide +kernel)
theorem cd_X4_bracePresent : Cond.code yX4_bracePresent cX4_bracePresent 1 (some .boolean) ∈ TB := tbm 641 (by decide +kernel) (by decide +kernel)
theorem im_X0_braceAll : Cond.instanceMethod yX0_braceAll ∈ TB := tbm 643 (by decide +kernel) (by decide +kernel)
theorem se_X0_braceAll : Cond.selects RX0 yX0_braceAll yX0_braceAll ∈ TB := tbm 644 (by decide +kernel) (by decide +kernel)
theorem cd_X0_braceAll : Cond.code yX0_braceAll cX0_braceAll 2 (some .boolean) ∈ TB := tbm 645 (by decide +kernel) (by decide +kernel)
theorem im_X0_pullsNoPile : Cond.instanceMethod yX0_pullsNoPile ∈ TB := tbm 647 (by decide +kernel) (by decide +kernel)
theorem se_X0_pullsNoPile : Cond.selects RX0 yX0_pullsNoPile yX0_pullsNoPile ∈ TB := tbm 648 (by decide +kernel) (by decide +kernel)
theorem cd_X0_pullsNoPile : Cond.code yX0_pullsNoPile cX0_pullsNoPile 3 (some .boolean) ∈ TB := tbm 649 (by decide +kernel) (by decide +kernel)
theorem im_X4_kerns : Cond.instanceMethod yX4_kerns ∈ TB := tbm 651 (by decide +kernel) (by decide +kernel)
theorem se_X4_kerns : Cond.selects RX4 yX4_kerns yX4_kerns ∈ TB := tbm 652 (by decide +kernel) (by decide +kernel)
theorem cd_X4_kerns : Cond.code yX4_kerns cX4_kerns 5 (some .int) ∈ TB := tbm 653 (by decide +kernel) (by decide +kernel)
theorem st_X4_xOf : Cond.static yX4_xOf ∈ TB := tbm 655 (by decide +kernel) (by decide +kernel)
theorem cd_X4_xOf : Cond.code yX4_xOf cX4_xOf 1 (some .int) ∈ TB := tbm 656 (by decide +kernel) (by decide +kernel)
theorem st_X4_yOf : Cond.static yX4_yOf ∈ TB := tbm 658 (by decide +kernel) (by decide +kernel)
theorem cd_X4_yOf : Cond.code yX4_yOf cX4_yOf 1 (some .int) ∈ TB := tbm 659 (by decide +kernel) (by decide +kernel)
theorem im_X4_without : Cond.instanceMethod yX4_without ∈ TB := tbm 661 (by decide +kernel) (by decide +kernel)
theorem se_X4_without : Cond.selects RX4 yX4_without yX4_without ∈ TB := tbm 662 (by decide +kernel) (by decide +kernel)
theorem cd_X4_without : Cond.code yX4_without cX4_without 3 (some .long) ∈ TB := tbm 663 (by decide +kernel) (by decide +kernel)
theorem cn_RX4_228 : Cond.constantLong RX4 228 (-2) ∈ TB := tbm 664 (by decide +kernel) (by decide +kernel)
theorem im_X4_key : Cond.instanceMethod yX4_key ∈ TB := tbm 666 (by decide +kernel) (by decide +kernel)
theorem se_X4_key : Cond.selects RX4 yX4_key yX4_key ∈ TB := tbm 667 (by decide +kernel) (by decide +kernel)
theorem cd_X4_key : Cond.code yX4_key cX4_key 7 (some .int) ∈ TB := tbm 668 (by decide +kernel) (by decide +kernel)
theorem st_X4_compareFractions : Cond.static yX4_compareFractions ∈ TB := tbm 670 (by decide +kernel) (by decide +kernel)
theorem cd_X4_compareFractions : Cond.code yX4_compareFractions cX4_compareFractions 18 (some .int) ∈ TB := tbm 671 (by decide +kernel) (by decide +kernel)
theorem st_J13_compare_74951 : Cond.static yJ13_compare_74951 ∈ TB := tbm 673 (by decide +kernel) (by decide +kernel)
theorem cd_J13_compare_74951 : Cond.code yJ13_compare_74951 cJ13_compare_74951 4 (some .int) ∈ TB := tbm 674 (by decide +kernel) (by decide +kernel)
theorem im_X4_extra : Cond.instanceMethod yX4_extra ∈ TB := tbm 676 (by decide +kernel) (by decide +kernel)
theorem se_X4_extra : Cond.selects RX4 yX4_extra yX4_extra ∈ TB := tbm 677 (by decide +kernel) (by decide +kernel)
theorem cd_X4_extra : Cond.code yX4_extra cX4_extra 11 (some .int) ∈ TB := tbm 678 (by decide +kernel) (by decide +kernel)
theorem im_X0_putFurther : Cond.instanceMethod yX0_putFurther ∈ TB := tbm 681 (by decide +kernel) (by decide +kernel)
theorem se_X0_putFurther : Cond.selects RX0 yX0_putFurther yX0_putFurther ∈ TB := tbm 682 (by decide +kernel) (by decide +kernel)
theorem cd_X0_putFurther : Cond.code yX0_putFurther cX0_putFurther 5 none ∈ TB := tbm 683 (by decide +kernel) (by decide +kernel)
theorem im_X0_takeFurtherAway : Cond.instanceMethod yX0_takeFurtherAway ∈ TB := tbm 686 (by decide +kernel) (by decide +kernel)
theorem se_X0_takeFurtherAway : Cond.selects RX0 yX0_takeFurtherAway yX0_takeFurtherAway ∈ TB := tbm 687 (by decide +kernel) (by decide +kernel)
theorem cd_X0_takeFurtherAway : Cond.code yX0_takeFurtherAway cX0_takeFurtherAway 1 none ∈ TB := tbm 688 (by decide +kernel) (by decide +kernel)
theorem im_X4_odds : Cond.instanceMethod yX4_odds ∈ TB := tbm 690 (by decide +kernel) (by decide +kernel)
theorem se_X4_odds : Cond.selects RX4 yX4_odds yX4_odds ∈ TB := tbm 691 (by decide +kernel) (by decide +kernel)
theorem cd_X4_odds : Cond.code yX4_odds cX4_odds 8 (some .int) ∈ TB := tbm 692 (by decide +kernel) (by decide +kernel)
theorem st_X4_power : Cond.static yX4_power ∈ TB := tbm 694 (by decide +kernel) (by decide +kernel)
theorem cd_X4_power : Cond.code yX4_power cX4_power 4 (some .int) ∈ TB := tbm 695 (by decide +kernel) (by decide +kernel)
theorem im_X4_standsOn : Cond.instanceMethod yX4_standsOn ∈ TB := tbm 698 (by decide +kernel) (by decide +kernel)
theorem cd_X4_standsOn : Cond.code yX4_standsOn cX4_standsOn 2 (some .boolean) ∈ TB := tbm 699 (by decide +kernel) (by decide +kernel)
theorem im_X4_hunts : Cond.instanceMethod yX4_hunts ∈ TB := tbm 701 (by decide +kernel) (by decide +kernel)
theorem se_X4_hunts : Cond.selects RX4 yX4_hunts yX4_hunts ∈ TB := tbm 702 (by decide +kernel) (by decide +kernel)
theorem cd_X4_hunts : Cond.code yX4_hunts cX4_hunts 2 (some .int) ∈ TB := tbm 703 (by decide +kernel) (by decide +kernel)
theorem im_X4_dropSights : Cond.instanceMethod yX4_dropSights ∈ TB := tbm 706 (by decide +kernel) (by decide +kernel)
theorem cd_X4_dropSights : Cond.code yX4_dropSights cX4_dropSights 2 (some .int) ∈ TB := tbm 707 (by decide +kernel) (by decide +kernel)
theorem im_X4_sees : Cond.instanceMethod yX4_sees ∈ TB := tbm 709 (by decide +kernel) (by decide +kernel)
theorem se_X4_sees : Cond.selects RX4 yX4_sees yX4_sees ∈ TB := tbm 710 (by decide +kernel) (by decide +kernel)
theorem cd_X4_sees : Cond.code yX4_sees cX4_sees 3 (some .int) ∈ TB := tbm 711 (by decide +kernel) (by decide +kernel)
theorem im_X4_forget : Cond.instanceMethod yX4_forget ∈ TB := tbm 713 (by decide +kernel) (by decide +kernel)
theorem se_X4_forget : Cond.selects RX4 yX4_forget yX4_forget ∈ TB := tbm 714 (by decide +kernel) (by decide +kernel)
theorem cd_X4_forget : Cond.code yX4_forget cX4_forget 1 (some .int) ∈ TB := tbm 715 (by decide +kernel) (by decide +kernel)
theorem im_X4_spots : Cond.instanceMethod yX4_spots ∈ TB := tbm 717 (by decide +kernel) (by decide +kernel)
theorem se_X4_spots : Cond.selects RX4 yX4_spots yX4_spots ∈ TB := tbm 718 (by decide +kernel) (by decide +kernel)
theorem cd_X4_spots : Cond.code yX4_spots cX4_spots 5 (some .int) ∈ TB := tbm 719 (by decide +kernel) (by decide +kernel)
theorem im_X4_isSpot : Cond.instanceMethod yX4_isSpot ∈ TB := tbm 722 (by decide +kernel) (by decide +kernel)
theorem cd_X4_isSpot : Cond.code yX4_isSpot cX4_isSpot 3 (some .boolean) ∈ TB := tbm 723 (by decide +kernel) (by decide +kernel)
theorem im_X4_ask : Cond.instanceMethod yX4_ask ∈ TB := tbm 725 (by decide +kernel) (by decide +kernel)
theorem se_X4_ask : Cond.selects RX4 yX4_ask yX4_ask ∈ TB := tbm 726 (by decide +kernel) (by decide +kernel)
theorem cd_X4_ask : Cond.code yX4_ask cX4_ask 3 (some .int) ∈ TB := tbm 727 (by decide +kernel) (by decide +kernel)
theorem st_J7_fill_53178 : Cond.static yJ7_fill_53178 ∈ TB := tbm 729 (by decide +kernel) (by decide +kernel)
theorem cd_J7_fill_53178 : Cond.code yJ7_fill_53178 cJ7_fill_53178 4 none ∈ TB := tbm 730 (by decide +kernel) (by decide +kernel)
theorem im_X4_groupShares : Cond.instanceMethod yX4_groupShares ∈ TB := tbm 733 (by decide +kernel) (by decide +kernel)
theorem cd_X4_groupShares : Cond.code yX4_groupShares cX4_groupShares 4 none ∈ TB := tbm 734 (by decide +kernel) (by decide +kernel)
theorem cn_RX4_295 : Cond.constantLong RX4 295 (100) ∈ TB := tbm 735 (by decide +kernel) (by decide +kernel)
theorem im_X4_pileWithSmallestLargestGroup : Cond.instanceMethod yX4_pileWithSmallestLargestGroup ∈ TB := tbm 738 (by decide +kernel) (by decide +kernel)
theorem cd_X4_pileWithSmallestLargestGroup : Cond.code yX4_pileWithSmallestLargestGroup cX4_pileWithSmallestLargestGroup 6 (some .int) ∈ TB := tbm 739 (by decide +kernel) (by decide +kernel)
theorem st_J9_max_7cf53 : Cond.static yJ9_max_7cf53 ∈ TB := tbm 741 (by decide +kernel) (by decide +kernel)
theorem cd_J9_max_7cf53 : Cond.code yJ9_max_7cf53 cJ9_max_7cf53 2 (some .int) ∈ TB := tbm 742 (by decide +kernel) (by decide +kernel)
theorem im_X4_keep : Cond.instanceMethod yX4_keep ∈ TB := tbm 744 (by decide +kernel) (by decide +kernel)
theorem se_X4_keep : Cond.selects RX4 yX4_keep yX4_keep ∈ TB := tbm 745 (by decide +kernel) (by decide +kernel)
theorem cd_X4_keep : Cond.code yX4_keep cX4_keep 2 (some .int) ∈ TB := tbm 746 (by decide +kernel) (by decide +kernel)
theorem im_X4_back : Cond.instanceMethod yX4_back ∈ TB := tbm 748 (by decide +kernel) (by decide +kernel)
theorem se_X4_back : Cond.selects RX4 yX4_back yX4_back ∈ TB := tbm 749 (by decide +kernel) (by decide +kernel)
theorem cd_X4_back : Cond.code yX4_back cX4_back 2 (some .int) ∈ TB := tbm 750 (by decide +kernel) (by decide +kernel)
theorem im_X4_count : Cond.instanceMethod yX4_count ∈ TB := tbm 752 (by decide +kernel) (by decide +kernel)
theorem se_X4_count : Cond.selects RX4 yX4_count yX4_count ∈ TB := tbm 753 (by decide +kernel) (by decide +kernel)
theorem cd_X4_count : Cond.code yX4_count cX4_count 2 (some .int) ∈ TB := tbm 754 (by decide +kernel) (by decide +kernel)
theorem im_X5_init : Cond.instanceMethod yX5_init ∈ TB := tbm 758 (by decide +kernel) (by decide +kernel)
theorem cd_X5_init : Cond.code yX5_init cX5_init 1 none ∈ TB := tbm 759 (by decide +kernel) (by decide +kernel)
theorem fl_RX5_7 : Cond.fieldLink RX5 7 RX5 "s" "[I" ∈ TB := tbm 761 (by decide +kernel) (by decide +kernel)
theorem fl_RX5_13 : Cond.fieldLink RX5 13 RX5 "past" "[I" ∈ TB := tbm 762 (by decide +kernel) (by decide +kernel)
theorem fl_RX5_111 : Cond.fieldLink RX5 111 RX5 "undos" "I" ∈ TB := tbm 763 (by decide +kernel) (by decide +kernel)
theorem fl_RX5_16 : Cond.fieldLink RX5 16 RX5 "kept" "[I" ∈ TB := tbm 764 (by decide +kernel) (by decide +kernel)
theorem fl_RX5_19 : Cond.fieldLink RX5 19 RX5 "isKept" "[Z" ∈ TB := tbm 765 (by decide +kernel) (by decide +kernel)
theorem fl_RX5_23 : Cond.fieldLink RX5 23 RX5 "hunted" "I" ∈ TB := tbm 766 (by decide +kernel) (by decide +kernel)
theorem fl_RX5_27 : Cond.fieldLink RX5 27 RX5 "sight" "[I" ∈ TB := tbm 767 (by decide +kernel) (by decide +kernel)
theorem fl_RX5_114 : Cond.fieldLink RX5 114 RX5 "sights" "I" ∈ TB := tbm 768 (by decide +kernel) (by decide +kernel)
theorem fl_RX5_30 : Cond.fieldLink RX5 30 RX5 "text" "[I" ∈ TB := tbm 769 (by decide +kernel) (by decide +kernel)
theorem fl_RX5_61 : Cond.fieldLink RX5 61 RX5 "typed" "I" ∈ TB := tbm 770 (by decide +kernel) (by decide +kernel)
theorem fl_RX5_64 : Cond.fieldLink RX5 64 RX5 "at" "I" ∈ TB := tbm 771 (by decide +kernel) (by decide +kernel)
theorem fl_RX5_67 : Cond.fieldLink RX5 67 RX5 "start" "I" ∈ TB := tbm 772 (by decide +kernel) (by decide +kernel)
theorem fl_RX5_70 : Cond.fieldLink RX5 70 RX5 "token" "I" ∈ TB := tbm 773 (by decide +kernel) (by decide +kernel)
theorem fl_RX5_77 : Cond.fieldLink RX5 77 RX5 "value" "I" ∈ TB := tbm 774 (by decide +kernel) (by decide +kernel)
theorem fl_RX5_80 : Cond.fieldLink RX5 80 RX5 "fault" "I" ∈ TB := tbm 775 (by decide +kernel) (by decide +kernel)
theorem fl_RX5_33 : Cond.fieldLink RX5 33 RX5 "draft" "[I" ∈ TB := tbm 776 (by decide +kernel) (by decide +kernel)
theorem fl_RX5_98 : Cond.fieldLink RX5 98 RX5 "isBlown" "Z" ∈ TB := tbm 777 (by decide +kernel) (by decide +kernel)
theorem fl_RX5_36 : Cond.fieldLink RX5 36 RX5 "px" "[I" ∈ TB := tbm 778 (by decide +kernel) (by decide +kernel)
theorem fl_RX5_39 : Cond.fieldLink RX5 39 RX5 "py" "[I" ∈ TB := tbm 779 (by decide +kernel) (by decide +kernel)
theorem fl_RX5_42 : Cond.fieldLink RX5 42 RX5 "pk" "[I" ∈ TB := tbm 780 (by decide +kernel) (by decide +kernel)
theorem fl_RX5_45 : Cond.fieldLink RX5 45 RX5 "pc" "[I" ∈ TB := tbm 781 (by decide +kernel) (by decide +kernel)
theorem fl_RX5_150 : Cond.fieldLink RX5 150 RX5 "many" "I" ∈ TB := tbm 782 (by decide +kernel) (by decide +kernel)
theorem fl_RX5_153 : Cond.fieldLink RX5 153 RX5 "whole" "I" ∈ TB := tbm 783 (by decide +kernel) (by decide +kernel)
theorem fl_RX5_160 : Cond.fieldLink RX5 160 RX5 "sumW" "J" ∈ TB := tbm 784 (by decide +kernel) (by decide +kernel)
theorem fl_RX5_164 : Cond.fieldLink RX5 164 RX5 "sumU" "J" ∈ TB := tbm 785 (by decide +kernel) (by decide +kernel)
theorem fl_RX5_167 : Cond.fieldLink RX5 167 RX5 "sumV" "J" ∈ TB := tbm 786 (by decide +kernel) (by decide +kernel)
theorem fl_RX5_186 : Cond.fieldLink RX5 186 RX5 "inside" "I" ∈ TB := tbm 787 (by decide +kernel) (by decide +kernel)
theorem fl_RX5_196 : Cond.fieldLink RX5 196 RX5 "rounds" "I" ∈ TB := tbm 788 (by decide +kernel) (by decide +kernel)
theorem fl_RX5_199 : Cond.fieldLink RX5 199 RX5 "isSettled" "Z" ∈ TB := tbm 789 (by decide +kernel) (by decide +kernel)
theorem fl_RX5_174 : Cond.fieldLink RX5 174 RX5 "all" "J" ∈ TB := tbm 790 (by decide +kernel) (by decide +kernel)
theorem fl_RX5_177 : Cond.fieldLink RX5 177 RX5 "da" "J" ∈ TB := tbm 791 (by decide +kernel) (by decide +kernel)
theorem fl_RX5_180 : Cond.fieldLink RX5 180 RX5 "db" "J" ∈ TB := tbm 792 (by decide +kernel) (by decide +kernel)
theorem fl_RX5_183 : Cond.fieldLink RX5 183 RX5 "dc" "J" ∈ TB := tbm 793 (by decide +kernel) (by decide +kernel)
theorem fl_RX5_227 : Cond.fieldLink RX5 227 RX5 "useUp" "J" ∈ TB := tbm 794 (by decide +kernel) (by decide +kernel)
theorem fl_RX5_230 : Cond.fieldLink RX5 230 RX5 "useDown" "J" ∈ TB := tbm 795 (by decide +kernel) (by decide +kernel)
theorem fl_RX5_224 : Cond.fieldLink RX5 224 RX5 "used" "I" ∈ TB := tbm 796 (by decide +kernel) (by decide +kernel)
theorem fl_RX5_48 : Cond.fieldLink RX5 48 RX5 "isSpot" "[Z" ∈ TB := tbm 797 (by decide +kernel) (by decide +kernel)
theorem fl_RX5_51 : Cond.fieldLink RX5 51 RX5 "borne" "[I" ∈ TB := tbm 798 (by decide +kernel) (by decide +kernel)
theorem fl_RX5_272 : Cond.fieldLink RX5 272 RX5 "spots" "I" ∈ TB := tbm 799 (by decide +kernel) (by decide +kernel)
theorem fl_RX5_275 : Cond.fieldLink RX5 275 RX5 "firstSpot" "I" ∈ TB := tbm 800 (by decide +kernel) (by decide +kernel)
theorem fl_RX5_54 : Cond.fieldLink RX5 54 RX5 "alike" "[I" ∈ TB := tbm 801 (by decide +kernel) (by decide +kernel)
theorem im_X5_type : Cond.instanceMethod yX5_type ∈ TB := tbm 886 (by decide +kernel) (by decide +kernel)
theorem se_X5_type : Cond.selects RX5 yX5_type yX5_type ∈ TB := tbm 887 (by decide +kernel) (by decide +kernel)
theorem cd_X5_type : Cond.code yX5_type cX5_type 2 (some .int) ∈ TB := tbm 888 (by decide +kernel) (by decide +kernel)
theorem st_X5_in : Cond.static yX5_in ∈ TB := tbm 890 (by decide +kernel) (by decide +kernel)
theorem cd_X5_in : Cond.code yX5_in cX5_in 3 (some .boolean) ∈ TB := tbm 891 (by decide +kernel) (by decide +kernel)
theorem im_X5_clear : Cond.instanceMethod yX5_clear ∈ TB := tbm 893 (by decide +kernel) (by decide +kernel)
theorem se_X5_clear : Cond.selects RX5 yX5_clear yX5_clear ∈ TB := tbm 894 (by decide +kernel) (by decide +kernel)
theorem cd_X5_clear : Cond.code yX5_clear cX5_clear 2 (some .int) ∈ TB := tbm 895 (by decide +kernel) (by decide +kernel)
theorem im_X5_tells : Cond.instanceMethod yX5_tells ∈ TB := tbm 897 (by decide +kernel) (by decide +kernel)
theorem se_X5_tells : Cond.selects RX5 yX5_tells yX5_tells ∈ TB := tbm 898 (by decide +kernel) (by decide +kernel)
theorem cd_X5_tells : Cond.code yX5_tells cX5_tells 3 (some .int) ∈ TB := tbm 899 (by decide +kernel) (by decide +kernel)
theorem im_X5_next : Cond.instanceMethod yX5_next ∈ TB := tbm 902 (by decide +kernel) (by decide +kernel)
theorem cd_X5_next : Cond.code yX5_next cX5_next 2 none ∈ TB := tbm 903 (by decide +kernel) (by decide +kernel)
theorem im_X5_isFigure : Cond.instanceMethod yX5_isFigure ∈ TB := tbm 906 (by decide +kernel) (by decide +kernel)
theorem cd_X5_isFigure : Cond.code yX5_isFigure cX5_isFigure 1 (some .boolean) ∈ TB := tbm 907 (by decide +kernel) (by decide +kernel)
theorem im_X5_readsPile : Cond.instanceMethod yX5_readsPile ∈ TB := tbm 910 (by decide +kernel) (by decide +kernel)
theorem cd_X5_readsPile : Cond.code yX5_readsPile cX5_readsPile 2 none ∈ TB := tbm 911 (by decide +kernel) (by decide +kernel)
theorem im_X5_due : Cond.instanceMethod yX5_due ∈ TB := tbm 914 (by decide +kernel) (by decide +kernel)
theorem cd_X5_due : Cond.code yX5_due cX5_due 2 none ∈ TB := tbm 915 (by decide +kernel) (by decide +kernel)
theorem im_X5_reads : Cond.instanceMethod yX5_reads ∈ TB := tbm 918 (by decide +kernel) (by decide +kernel)
theorem cd_X5_reads : Cond.code yX5_reads cX5_reads 5 none ∈ TB := tbm 919 (by decide +kernel) (by decide +kernel)
theorem im_X5_isTakenByDraft : Cond.instanceMethod yX5_isTakenByDraft ∈ TB := tbm 922 (by decide +kernel) (by decide +kernel)
theorem cd_X5_isTakenByDraft : Cond.code yX5_isTakenByDraft cX5_isTakenByDraft 5 (some .boolean) ∈ TB := tbm 923 (by decide +kernel) (by decide +kernel)
theorem im_X5_readsColumn : Cond.instanceMethod yX5_readsColumn ∈ TB := tbm 926 (by decide +kernel) (by decide +kernel)
theorem cd_X5_readsColumn : Cond.code yX5_readsColumn cX5_readsColumn 2 none ∈ TB := tbm 927 (by decide +kernel) (by decide +kernel)
theorem im_X5_readsWind : Cond.instanceMethod yX5_readsWind ∈ TB := tbm 930 (by decide +kernel) (by decide +kernel)
theorem cd_X5_readsWind : Cond.code yX5_readsWind cX5_readsWind 1 none ∈ TB := tbm 931 (by decide +kernel) (by decide +kernel)
theorem im_X5_drives : Cond.instanceMethod yX5_drives ∈ TB := tbm 933 (by decide +kernel) (by decide +kernel)
theorem se_X5_drives : Cond.selects RX5 yX5_drives yX5_drives ∈ TB := tbm 934 (by decide +kernel) (by decide +kernel)
theorem cd_X5_drives : Cond.code yX5_drives cX5_drives 6 (some .int) ∈ TB := tbm 935 (by decide +kernel) (by decide +kernel)
theorem st_X5_isPlace : Cond.static yX5_isPlace ∈ TB := tbm 937 (by decide +kernel) (by decide +kernel)
theorem cd_X5_isPlace : Cond.code yX5_isPlace cX5_isPlace 2 (some .boolean) ∈ TB := tbm 938 (by decide +kernel) (by decide +kernel)
theorem st_X5_isKind : Cond.static yX5_isKind ∈ TB := tbm 940 (by decide +kernel) (by decide +kernel)
theorem cd_X5_isKind : Cond.code yX5_isKind cX5_isKind 2 (some .boolean) ∈ TB := tbm 941 (by decide +kernel) (by decide +kernel)
theorem im_X5_isTaken : Cond.instanceMethod yX5_isTaken ∈ TB := tbm 944 (by decide +kernel) (by decide +kernel)
theorem cd_X5_isTaken : Cond.code yX5_isTaken cX5_isTaken 5 (some .boolean) ∈ TB := tbm 945 (by decide +kernel) (by decide +kernel)
theorem im_X5_ofPile : Cond.instanceMethod yX5_ofPile ∈ TB := tbm 948 (by decide +kernel) (by decide +kernel)
theorem cd_X5_ofPile : Cond.code yX5_ofPile cX5_ofPile 3 (some .int) ∈ TB := tbm 949 (by decide +kernel) (by decide +kernel)
theorem im_X5_notes : Cond.instanceMethod yX5_notes ∈ TB := tbm 952 (by decide +kernel) (by decide +kernel)
theorem cd_X5_notes : Cond.code yX5_notes cX5_notes 2 none ∈ TB := tbm 953 (by decide +kernel) (by decide +kernel)
theorem im_X5_loses : Cond.instanceMethod yX5_loses ∈ TB := tbm 955 (by decide +kernel) (by decide +kernel)
theorem se_X5_loses : Cond.selects RX5 yX5_loses yX5_loses ∈ TB := tbm 956 (by decide +kernel) (by decide +kernel)
theorem cd_X5_loses : Cond.code yX5_loses cX5_loses 2 (some .int) ∈ TB := tbm 957 (by decide +kernel) (by decide +kernel)
theorem im_X5_becomes : Cond.instanceMethod yX5_becomes ∈ TB := tbm 960 (by decide +kernel) (by decide +kernel)
theorem cd_X5_becomes : Cond.code yX5_becomes cX5_becomes 3 (some .int) ∈ TB := tbm 961 (by decide +kernel) (by decide +kernel)
theorem im_X5_isPile : Cond.instanceMethod yX5_isPile ∈ TB := tbm 964 (by decide +kernel) (by decide +kernel)
theorem cd_X5_isPile : Cond.code yX5_isPile cX5_isPile 2 (some .boolean) ∈ TB := tbm 965 (by decide +kernel) (by decide +kernel)
theorem im_X5_wholes : Cond.instanceMethod yX5_wholes ∈ TB := tbm 968 (by decide +kernel) (by decide +kernel)
theorem cd_X5_wholes : Cond.code yX5_wholes cX5_wholes 3 (some .int) ∈ TB := tbm 969 (by decide +kernel) (by decide +kernel)
theorem im_X5_mends : Cond.instanceMethod yX5_mends ∈ TB := tbm 971 (by decide +kernel) (by decide +kernel)
theorem se_X5_mends : Cond.selects RX5 yX5_mends yX5_mends ∈ TB := tbm 972 (by decide +kernel) (by decide +kernel)
theorem cd_X5_mends : Cond.code yX5_mends cX5_mends 2 (some .int) ∈ TB := tbm 973 (by decide +kernel) (by decide +kernel)
theorem im_X5_loads : Cond.instanceMethod yX5_loads ∈ TB := tbm 975 (by decide +kernel) (by decide +kernel)
theorem se_X5_loads : Cond.selects RX5 yX5_loads yX5_loads ∈ TB := tbm 976 (by decide +kernel) (by decide +kernel)
theorem cd_X5_loads : Cond.code yX5_loads cX5_loads 4 (some .int) ∈ TB := tbm 977 (by decide +kernel) (by decide +kernel)
theorem im_X5_isColumn : Cond.instanceMethod yX5_isColumn ∈ TB := tbm 980 (by decide +kernel) (by decide +kernel)
theorem cd_X5_isColumn : Cond.code yX5_isColumn cX5_isColumn 2 (some .boolean) ∈ TB := tbm 981 (by decide +kernel) (by decide +kernel)
theorem im_X5_ofColumn : Cond.instanceMethod yX5_ofColumn ∈ TB := tbm 984 (by decide +kernel) (by decide +kernel)
theorem cd_X5_ofColumn : Cond.code yX5_ofColumn cX5_ofColumn 3 (some .int) ∈ TB := tbm 985 (by decide +kernel) (by decide +kernel)
theorem im_X5_moves : Cond.instanceMethod yX5_moves ∈ TB := tbm 987 (by decide +kernel) (by decide +kernel)
theorem se_X5_moves : Cond.selects RX5 yX5_moves yX5_moves ∈ TB := tbm 988 (by decide +kernel) (by decide +kernel)
theorem cd_X5_moves : Cond.code yX5_moves cX5_moves 4 (some .int) ∈ TB := tbm 989 (by decide +kernel) (by decide +kernel)
theorem im_X5_winds : Cond.instanceMethod yX5_winds ∈ TB := tbm 991 (by decide +kernel) (by decide +kernel)
theorem se_X5_winds : Cond.selects RX5 yX5_winds yX5_winds ∈ TB := tbm 992 (by decide +kernel) (by decide +kernel)
theorem cd_X5_winds : Cond.code yX5_winds cX5_winds 3 (some .int) ∈ TB := tbm 993 (by decide +kernel) (by decide +kernel)
theorem im_X5_undo : Cond.instanceMethod yX5_undo ∈ TB := tbm 995 (by decide +kernel) (by decide +kernel)
theorem se_X5_undo : Cond.selects RX5 yX5_undo yX5_undo ∈ TB := tbm 996 (by decide +kernel) (by decide +kernel)
theorem cd_X5_undo : Cond.code yX5_undo cX5_undo 2 (some .int) ∈ TB := tbm 997 (by decide +kernel) (by decide +kernel)
theorem im_X5_pile : Cond.instanceMethod yX5_pile ∈ TB := tbm 999 (by decide +kernel) (by decide +kernel)
theorem se_X5_pile : Cond.selects RX5 yX5_pile yX5_pile ∈ TB := tbm 1000 (by decide +kernel) (by decide +kernel)
theorem cd_X5_pile : Cond.code yX5_pile cX5_pile 3 (some .long) ∈ TB := tbm 1001 (by decide +kernel) (by decide +kernel)
theorem cn_RX5_237 : Cond.constantLong RX5 237 (-1000000000000000000) ∈ TB := tbm 1002 (by decide +kernel) (by decide +kernel)
theorem im_X5_sharesNow : Cond.instanceMethod yX5_sharesNow ∈ TB := tbm 1005 (by decide +kernel) (by decide +kernel)
theorem cd_X5_sharesNow : Cond.code yX5_sharesNow cX5_sharesNow 1 none ∈ TB := tbm 1006 (by decide +kernel) (by decide +kernel)
theorem im_X5_laysPiles : Cond.instanceMethod yX5_laysPiles ∈ TB := tbm 1009 (by decide +kernel) (by decide +kernel)
theorem cd_X5_laysPiles : Cond.code yX5_laysPiles cX5_laysPiles 2 none ∈ TB := tbm 1010 (by decide +kernel) (by decide +kernel)
theorem im_X5_laysSums : Cond.instanceMethod yX5_laysSums ∈ TB := tbm 1013 (by decide +kernel) (by decide +kernel)
theorem cd_X5_laysSums : Cond.code yX5_laysSums cX5_laysSums 1 none ∈ TB := tbm 1014 (by decide +kernel) (by decide +kernel)
theorem im_X5_sumOf : Cond.instanceMethod yX5_sumOf ∈ TB := tbm 1017 (by decide +kernel) (by decide +kernel)
theorem cd_X5_sumOf : Cond.code yX5_sumOf cX5_sumOf 5 (some .long) ∈ TB := tbm 1018 (by decide +kernel) (by decide +kernel)
theorem im_X5_shares : Cond.instanceMethod yX5_shares ∈ TB := tbm 1021 (by decide +kernel) (by decide +kernel)
theorem cd_X5_shares : Cond.code yX5_shares cX5_shares 3 none ∈ TB := tbm 1022 (by decide +kernel) (by decide +kernel)
theorem im_X5_isSteady : Cond.instanceMethod yX5_isSteady ∈ TB := tbm 1025 (by decide +kernel) (by decide +kernel)
theorem cd_X5_isSteady : Cond.code yX5_isSteady cX5_isSteady 15 (some .boolean) ∈ TB := tbm 1026 (by decide +kernel) (by decide +kernel)
theorem st_X5_det : Cond.static yX5_det ∈ TB := tbm 1028 (by decide +kernel) (by decide +kernel)
theorem cd_X5_det : Cond.code yX5_det cX5_det 18 (some .long) ∈ TB := tbm 1029 (by decide +kernel) (by decide +kernel)
theorem im_X5_goesOut : Cond.instanceMethod yX5_goesOut ∈ TB := tbm 1032 (by decide +kernel) (by decide +kernel)
theorem cd_X5_goesOut : Cond.code yX5_goesOut cX5_goesOut 3 (some .int) ∈ TB := tbm 1033 (by decide +kernel) (by decide +kernel)
theorem im_X5_bears : Cond.instanceMethod yX5_bears ∈ TB := tbm 1036 (by decide +kernel) (by decide +kernel)
theorem cd_X5_bears : Cond.code yX5_bears cX5_bears 2 (some .long) ∈ TB := tbm 1037 (by decide +kernel) (by decide +kernel)
theorem im_X5_pressAt : Cond.instanceMethod yX5_pressAt ∈ TB := tbm 1040 (by decide +kernel) (by decide +kernel)
theorem cd_X5_pressAt : Cond.code yX5_pressAt cX5_pressAt 3 (some .long) ∈ TB := tbm 1041 (by decide +kernel) (by decide +kernel)
theorem im_X5_comesIn : Cond.instanceMethod yX5_comesIn ∈ TB := tbm 1044 (by decide +kernel) (by decide +kernel)
theorem cd_X5_comesIn : Cond.code yX5_comesIn cX5_comesIn 5 (some .int) ∈ TB := tbm 1045 (by decide +kernel) (by decide +kernel)
theorem cn_RX5_242 : Cond.constantLong RX5 242 (-9) ∈ TB := tbm 1046 (by decide +kernel) (by decide +kernel)
theorem im_X5_column : Cond.instanceMethod yX5_column ∈ TB := tbm 1048 (by decide +kernel) (by decide +kernel)
theorem se_X5_column : Cond.selects RX5 yX5_column yX5_column ∈ TB := tbm 1049 (by decide +kernel) (by decide +kernel)
theorem cd_X5_column : Cond.code yX5_column cX5_column 3 (some .long) ∈ TB := tbm 1050 (by decide +kernel) (by decide +kernel)
theorem im_X5_sum : Cond.instanceMethod yX5_sum ∈ TB := tbm 1052 (by decide +kernel) (by decide +kernel)
theorem se_X5_sum : Cond.selects RX5 yX5_sum yX5_sum ∈ TB := tbm 1053 (by decide +kernel) (by decide +kernel)
theorem cd_X5_sum : Cond.code yX5_sum cX5_sum 2 (some .long) ∈ TB := tbm 1054 (by decide +kernel) (by decide +kernel)
theorem im_X5_sharing : Cond.instanceMethod yX5_sharing ∈ TB := tbm 1056 (by decide +kernel) (by decide +kernel)
theorem se_X5_sharing : Cond.selects RX5 yX5_sharing yX5_sharing ∈ TB := tbm 1057 (by decide +kernel) (by decide +kernel)
theorem cd_X5_sharing : Cond.code yX5_sharing cX5_sharing 2 (some .int) ∈ TB := tbm 1058 (by decide +kernel) (by decide +kernel)
theorem im_X5_share : Cond.instanceMethod yX5_share ∈ TB := tbm 1060 (by decide +kernel) (by decide +kernel)
theorem se_X5_share : Cond.selects RX5 yX5_share yX5_share ∈ TB := tbm 1061 (by decide +kernel) (by decide +kernel)
theorem cd_X5_share : Cond.code yX5_share cX5_share 3 (some .long) ∈ TB := tbm 1062 (by decide +kernel) (by decide +kernel)
theorem cn_RX5_244 : Cond.constantLong RX5 244 (-2000000000000000000) ∈ TB := tbm 1063 (by decide +kernel) (by decide +kernel)
theorem st_X5_part : Cond.static yX5_part ∈ TB := tbm 1065 (by decide +kernel) (by decide +kernel)
theorem cd_X5_part : Cond.code yX5_part cX5_part 7 (some .long) ∈ TB := tbm 1066 (by decide +kernel) (by decide +kernel)
theorem st_X5_common : Cond.static yX5_common ∈ TB := tbm 1068 (by decide +kernel) (by decide +kernel)
theorem cd_X5_common : Cond.code yX5_common cX5_common 10 (some .long) ∈ TB := tbm 1069 (by decide +kernel) (by decide +kernel)
theorem im_X5_press : Cond.instanceMethod yX5_press ∈ TB := tbm 1071 (by decide +kernel) (by decide +kernel)
theorem se_X5_press : Cond.selects RX5 yX5_press yX5_press ∈ TB := tbm 1072 (by decide +kernel) (by decide +kernel)
theorem cd_X5_press : Cond.code yX5_press cX5_press 4 (some .long) ∈ TB := tbm 1073 (by decide +kernel) (by decide +kernel)
theorem im_X5_most : Cond.instanceMethod yX5_most ∈ TB := tbm 1075 (by decide +kernel) (by decide +kernel)
theorem se_X5_most : Cond.selects RX5 yX5_most yX5_most ∈ TB := tbm 1076 (by decide +kernel) (by decide +kernel)
theorem cd_X5_most : Cond.code yX5_most cX5_most 2 (some .long) ∈ TB := tbm 1077 (by decide +kernel) (by decide +kernel)
theorem cn_RX5_246 : Cond.constantLong RX5 246 (-1) ∈ TB := tbm 1078 (by decide +kernel) (by decide +kernel)
theorem im_X5_laysMost : Cond.instanceMethod yX5_laysMost ∈ TB := tbm 1081 (by decide +kernel) (by decide +kernel)
theorem cd_X5_laysMost : Cond.code yX5_laysMost cX5_laysMost 2 (some .boolean) ∈ TB := tbm 1082 (by decide +kernel) (by decide +kernel)
theorem im_X5_tellsMost : Cond.instanceMethod yX5_tellsMost ∈ TB := tbm 1085 (by decide +kernel) (by decide +kernel)
theorem cd_X5_tellsMost : Cond.code yX5_tellsMost cX5_tellsMost 2 (some .long) ∈ TB := tbm 1086 (by decide +kernel) (by decide +kernel)
theorem im_X5_factor : Cond.instanceMethod yX5_factor ∈ TB := tbm 1088 (by decide +kernel) (by decide +kernel)
theorem se_X5_factor : Cond.selects RX5 yX5_factor yX5_factor ∈ TB := tbm 1089 (by decide +kernel) (by decide +kernel)
theorem cd_X5_factor : Cond.code yX5_factor cX5_factor 2 (some .long) ∈ TB := tbm 1090 (by decide +kernel) (by decide +kernel)
theorem im_X5_kern : Cond.instanceMethod yX5_kern ∈ TB := tbm 1092 (by decide +kernel) (by decide +kernel)
theorem se_X5_kern : Cond.selects RX5 yX5_kern yX5_kern ∈ TB := tbm 1093 (by decide +kernel) (by decide +kernel)
theorem cd_X5_kern : Cond.code yX5_kern cX5_kern 3 (some .int) ∈ TB := tbm 1094 (by decide +kernel) (by decide +kernel)
theorem im_X5_isKern : Cond.instanceMethod yX5_isKern ∈ TB := tbm 1097 (by decide +kernel) (by decide +kernel)
theorem cd_X5_isKern : Cond.code yX5_isKern cX5_isKern 3 (some .int) ∈ TB := tbm 1098 (by decide +kernel) (by decide +kernel)
theorem im_X5_laysLoad : Cond.instanceMethod yX5_laysLoad ∈ TB := tbm 1101 (by decide +kernel) (by decide +kernel)
theorem cd_X5_laysLoad : Cond.code yX5_laysLoad cX5_laysLoad 4 none ∈ TB := tbm 1102 (by decide +kernel) (by decide +kernel)
theorem im_X5_kerns : Cond.instanceMethod yX5_kerns ∈ TB := tbm 1104 (by decide +kernel) (by decide +kernel)
theorem se_X5_kerns : Cond.selects RX5 yX5_kerns yX5_kerns ∈ TB := tbm 1105 (by decide +kernel) (by decide +kernel)
theorem cd_X5_kerns : Cond.code yX5_kerns cX5_kerns 6 (some .int) ∈ TB := tbm 1106 (by decide +kernel) (by decide +kernel)
theorem im_X5_without : Cond.instanceMethod yX5_without ∈ TB := tbm 1108 (by decide +kernel) (by decide +kernel)
theorem se_X5_without : Cond.selects RX5 yX5_without yX5_without ∈ TB := tbm 1109 (by decide +kernel) (by decide +kernel)
theorem cd_X5_without : Cond.code yX5_without cX5_without 3 (some .long) ∈ TB := tbm 1110 (by decide +kernel) (by decide +kernel)
theorem cn_RX5_261 : Cond.constantLong RX5 261 (-2) ∈ TB := tbm 1111 (by decide +kernel) (by decide +kernel)
theorem im_X5_laysWithout : Cond.instanceMethod yX5_laysWithout ∈ TB := tbm 1114 (by decide +kernel) (by decide +kernel)
theorem cd_X5_laysWithout : Cond.code yX5_laysWithout cX5_laysWithout 2 (some .boolean) ∈ TB := tbm 1115 (by decide +kernel) (by decide +kernel)
theorem im_X5_key : Cond.instanceMethod yX5_key ∈ TB := tbm 1117 (by decide +kernel) (by decide +kernel)
theorem se_X5_key : Cond.selects RX5 yX5_key yX5_key ∈ TB := tbm 1118 (by decide +kernel) (by decide +kernel)
theorem cd_X5_key : Cond.code yX5_key cX5_key 7 (some .int) ∈ TB := tbm 1119 (by decide +kernel) (by decide +kernel)
theorem st_X5_against : Cond.static yX5_against ∈ TB := tbm 1121 (by decide +kernel) (by decide +kernel)
theorem cd_X5_against : Cond.code yX5_against cX5_against 23 (some .int) ∈ TB := tbm 1122 (by decide +kernel) (by decide +kernel)
theorem im_X5_extra : Cond.instanceMethod yX5_extra ∈ TB := tbm 1124 (by decide +kernel) (by decide +kernel)
theorem se_X5_extra : Cond.selects RX5 yX5_extra yX5_extra ∈ TB := tbm 1125 (by decide +kernel) (by decide +kernel)
theorem cd_X5_extra : Cond.code yX5_extra cX5_extra 11 (some .int) ∈ TB := tbm 1126 (by decide +kernel) (by decide +kernel)
theorem im_X5_odds : Cond.instanceMethod yX5_odds ∈ TB := tbm 1128 (by decide +kernel) (by decide +kernel)
theorem se_X5_odds : Cond.selects RX5 yX5_odds yX5_odds ∈ TB := tbm 1129 (by decide +kernel) (by decide +kernel)
theorem cd_X5_odds : Cond.code yX5_odds cX5_odds 12 (some .int) ∈ TB := tbm 1130 (by decide +kernel) (by decide +kernel)
theorem cn_RX5_270 : Cond.constantLong RX5 270 (10) ∈ TB := tbm 1131 (by decide +kernel) (by decide +kernel)
theorem im_X5_hunts : Cond.instanceMethod yX5_hunts ∈ TB := tbm 1133 (by decide +kernel) (by decide +kernel)
theorem se_X5_hunts : Cond.selects RX5 yX5_hunts yX5_hunts ∈ TB := tbm 1134 (by decide +kernel) (by decide +kernel)
theorem cd_X5_hunts : Cond.code yX5_hunts cX5_hunts 3 (some .int) ∈ TB := tbm 1135 (by decide +kernel) (by decide +kernel)
theorem im_X5_sees : Cond.instanceMethod yX5_sees ∈ TB := tbm 1137 (by decide +kernel) (by decide +kernel)
theorem se_X5_sees : Cond.selects RX5 yX5_sees yX5_sees ∈ TB := tbm 1138 (by decide +kernel) (by decide +kernel)
theorem cd_X5_sees : Cond.code yX5_sees cX5_sees 3 (some .int) ∈ TB := tbm 1139 (by decide +kernel) (by decide +kernel)
theorem im_X5_forget : Cond.instanceMethod yX5_forget ∈ TB := tbm 1141 (by decide +kernel) (by decide +kernel)
theorem se_X5_forget : Cond.selects RX5 yX5_forget yX5_forget ∈ TB := tbm 1142 (by decide +kernel) (by decide +kernel)
theorem cd_X5_forget : Cond.code yX5_forget cX5_forget 2 (some .int) ∈ TB := tbm 1143 (by decide +kernel) (by decide +kernel)
theorem im_X5_spots : Cond.instanceMethod yX5_spots ∈ TB := tbm 1145 (by decide +kernel) (by decide +kernel)
theorem se_X5_spots : Cond.selects RX5 yX5_spots yX5_spots ∈ TB := tbm 1146 (by decide +kernel) (by decide +kernel)
theorem cd_X5_spots : Cond.code yX5_spots cX5_spots 2 (some .int) ∈ TB := tbm 1147 (by decide +kernel) (by decide +kernel)
theorem im_X5_laysSpots : Cond.instanceMethod yX5_laysSpots ∈ TB := tbm 1150 (by decide +kernel) (by decide +kernel)
theorem cd_X5_laysSpots : Cond.code yX5_laysSpots cX5_laysSpots 3 none ∈ TB := tbm 1151 (by decide +kernel) (by decide +kernel)
theorem im_X5_isSo : Cond.instanceMethod yX5_isSo ∈ TB := tbm 1154 (by decide +kernel) (by decide +kernel)
theorem cd_X5_isSo : Cond.code yX5_isSo cX5_isSo 4 (some .boolean) ∈ TB := tbm 1155 (by decide +kernel) (by decide +kernel)
theorem im_X5_ask : Cond.instanceMethod yX5_ask ∈ TB := tbm 1157 (by decide +kernel) (by decide +kernel)
theorem se_X5_ask : Cond.selects RX5 yX5_ask yX5_ask ∈ TB := tbm 1158 (by decide +kernel) (by decide +kernel)
theorem cd_X5_ask : Cond.code yX5_ask cX5_ask 5 (some .int) ∈ TB := tbm 1159 (by decide +kernel) (by decide +kernel)
theorem im_X5_mostAlike : Cond.instanceMethod yX5_mostAlike ∈ TB := tbm 1162 (by decide +kernel) (by decide +kernel)
theorem cd_X5_mostAlike : Cond.code yX5_mostAlike cX5_mostAlike 5 (some .int) ∈ TB := tbm 1163 (by decide +kernel) (by decide +kernel)
theorem im_X5_keep : Cond.instanceMethod yX5_keep ∈ TB := tbm 1165 (by decide +kernel) (by decide +kernel)
theorem se_X5_keep : Cond.selects RX5 yX5_keep yX5_keep ∈ TB := tbm 1166 (by decide +kernel) (by decide +kernel)
theorem cd_X5_keep : Cond.code yX5_keep cX5_keep 3 (some .int) ∈ TB := tbm 1167 (by decide +kernel) (by decide +kernel)
theorem im_X5_back : Cond.instanceMethod yX5_back ∈ TB := tbm 1169 (by decide +kernel) (by decide +kernel)
theorem se_X5_back : Cond.selects RX5 yX5_back yX5_back ∈ TB := tbm 1170 (by decide +kernel) (by decide +kernel)
theorem cd_X5_back : Cond.code yX5_back cX5_back 3 (some .int) ∈ TB := tbm 1171 (by decide +kernel) (by decide +kernel)
theorem im_X5_count : Cond.instanceMethod yX5_count ∈ TB := tbm 1173 (by decide +kernel) (by decide +kernel)
theorem se_X5_count : Cond.selects RX5 yX5_count yX5_count ∈ TB := tbm 1174 (by decide +kernel) (by decide +kernel)
theorem cd_X5_count : Cond.code yX5_count cX5_count 2 (some .int) ∈ TB := tbm 1175 (by decide +kernel) (by decide +kernel)
theorem ml_RL_9 : Cond.methodLink RL 9 yX4_init ∈ TB := tbm 73 (by decide +kernel) (by decide +kernel)
theorem ml_RL_13 : Cond.methodLink RL 13 yX4_type ∈ TB := tbm 329 (by decide +kernel) (by decide +kernel)
theorem ml_RX4_58 : Cond.methodLink RX4 58 yX2_append ∈ TB := tbm 333 (by decide +kernel) (by decide +kernel)
theorem ml_RL_18 : Cond.methodLink RL 18 yX4_clear ∈ TB := tbm 337 (by decide +kernel) (by decide +kernel)
theorem ml_RL_23 : Cond.methodLink RL 23 yX4_tells ∈ TB := tbm 341 (by decide +kernel) (by decide +kernel)
theorem ml_RX4_65 : Cond.methodLink RX4 65 yX2_readInto ∈ TB := tbm 345 (by decide +kernel) (by decide +kernel)
theorem ml_RX2_19 : Cond.methodLink RX2 19 yX3_empty ∈ TB := tbm 349 (by decide +kernel) (by decide +kernel)
theorem ml_RX2_31 : Cond.methodLink RX2 31 yX2_skipBlanks ∈ TB := tbm 353 (by decide +kernel) (by decide +kernel)
theorem ml_RX2_34 : Cond.methodLink RX2 34 yX2_readItem ∈ TB := tbm 357 (by decide +kernel) (by decide +kernel)
theorem ml_RX2_38 : Cond.methodLink RX2 38 yX2_letterHere ∈ TB := tbm 361 (by decide +kernel) (by decide +kernel)
theorem ml_RX2_45 : Cond.methodLink RX2 45 yX2_readPile ∈ TB := tbm 365 (by decide +kernel) (by decide +kernel)
theorem ml_RX2_57 : Cond.methodLink RX2 57 yX2_readPlace ∈ TB := tbm 369 (by decide +kernel) (by decide +kernel)
theorem ml_RX2_74 : Cond.methodLink RX2 74 yX2_readNumber ∈ TB := tbm 373 (by decide +kernel) (by decide +kernel)
theorem ml_RX2_95 : Cond.methodLink RX2 95 yX2_isDigit ∈ TB := tbm 377 (by decide +kernel) (by decide +kernel)
theorem ml_RX2_99 : Cond.methodLink RX2 99 yJ9_min_7cf53 ∈ TB := tbm 380 (by decide +kernel) (by decide +kernel)
theorem ml_RX2_67 : Cond.methodLink RX2 67 yX3_hasPileAt ∈ TB := tbm 383 (by decide +kernel) (by decide +kernel)
theorem ml_RX2_78 : Cond.methodLink RX2 78 yX2_readSemicolon ∈ TB := tbm 387 (by decide +kernel) (by decide +kernel)
theorem ml_RX2_81 : Cond.methodLink RX2 81 yX3_addPile ∈ TB := tbm 391 (by decide +kernel) (by decide +kernel)
theorem ml_RX2_51 : Cond.methodLink RX2 51 yX2_readColumn ∈ TB := tbm 395 (by decide +kernel) (by decide +kernel)
theorem ml_RX2_85 : Cond.methodLink RX2 85 yX3_addColumn ∈ TB := tbm 399 (by decide +kernel) (by decide +kernel)
theorem ml_RX2_54 : Cond.methodLink RX2 54 yX2_readWind ∈ TB := tbm 403 (by decide +kernel) (by decide +kernel)
theorem ml_RX4_69 : Cond.methodLink RX4 69 yX3_copy ∈ TB := tbm 407 (by decide +kernel) (by decide +kernel)
theorem ml_RL_27 : Cond.methodLink RL 27 yX4_drives ∈ TB := tbm 413 (by decide +kernel) (by decide +kernel)
theorem ml_RX4_79 : Cond.methodLink RX4 79 yX4_isPlace ∈ TB := tbm 417 (by decide +kernel) (by decide +kernel)
theorem ml_RX4_83 : Cond.methodLink RX4 83 yX4_isPileKind ∈ TB := tbm 420 (by decide +kernel) (by decide +kernel)
theorem ml_RX4_86 : Cond.methodLink RX4 86 yX3_hasPileAt ∈ TB := tbm 423 (by decide +kernel) (by decide +kernel)
theorem ml_RX4_92 : Cond.methodLink RX4 92 yX4_record ∈ TB := tbm 424 (by decide +kernel) (by decide +kernel)
theorem ml_RX4_95 : Cond.methodLink RX4 95 yX3_addPile ∈ TB := tbm 428 (by decide +kernel) (by decide +kernel)
theorem ml_RL_32 : Cond.methodLink RL 32 yX4_loses ∈ TB := tbm 429 (by decide +kernel) (by decide +kernel)
theorem ml_RX4_99 : Cond.methodLink RX4 99 yX4_isPile ∈ TB := tbm 433 (by decide +kernel) (by decide +kernel)
theorem ml_RX4_102 : Cond.methodLink RX4 102 yX3_isIntact ∈ TB := tbm 437 (by decide +kernel) (by decide +kernel)
theorem ml_RX4_108 : Cond.methodLink RX4 108 yJ6_bitCount_0f7a4 ∈ TB := tbm 441 (by decide +kernel) (by decide +kernel)
theorem ml_RL_36 : Cond.methodLink RL 36 yX4_mends ∈ TB := tbm 447 (by decide +kernel) (by decide +kernel)
theorem ml_RL_40 : Cond.methodLink RL 40 yX4_loads ∈ TB := tbm 451 (by decide +kernel) (by decide +kernel)
theorem ml_RX4_114 : Cond.methodLink RX4 114 yX4_isColumn ∈ TB := tbm 455 (by decide +kernel) (by decide +kernel)
theorem ml_RL_45 : Cond.methodLink RL 45 yX4_moves ∈ TB := tbm 459 (by decide +kernel) (by decide +kernel)
theorem ml_RL_50 : Cond.methodLink RL 50 yX4_winds ∈ TB := tbm 463 (by decide +kernel) (by decide +kernel)
theorem ml_RL_54 : Cond.methodLink RL 54 yX4_undo ∈ TB := tbm 467 (by decide +kernel) (by decide +kernel)
theorem ml_RL_58 : Cond.methodLink RL 58 yX4_pile ∈ TB := tbm 471 (by decide +kernel) (by decide +kernel)
theorem ml_RX4_146 : Cond.methodLink RX4 146 yX4_spreadPresent ∈ TB := tbm 476 (by decide +kernel) (by decide +kernel)
theorem ml_RX4_230 : Cond.methodLink RX4 230 yX4_takePresent ∈ TB := tbm 480 (by decide +kernel) (by decide +kernel)
theorem ml_RX4_263 : Cond.methodLink RX4 263 yX0_takePiles ∈ TB := tbm 484 (by decide +kernel) (by decide +kernel)
theorem ml_RX4_158 : Cond.methodLink RX4 158 yX3_weight ∈ TB := tbm 489 (by decide +kernel) (by decide +kernel)
theorem ml_RX4_162 : Cond.methodLink RX4 162 yX3_momentX ∈ TB := tbm 493 (by decide +kernel) (by decide +kernel)
theorem ml_RX4_165 : Cond.methodLink RX4 165 yX3_momentY ∈ TB := tbm 497 (by decide +kernel) (by decide +kernel)
theorem ml_RX4_285 : Cond.methodLink RX4 285 yX0_bear ∈ TB := tbm 501 (by decide +kernel) (by decide +kernel)
theorem ml_RX4_233 : Cond.methodLink RX4 233 yX0_settleOn ∈ TB := tbm 505 (by decide +kernel) (by decide +kernel)
theorem ml_RX0_61 : Cond.methodLink RX0 61 yX0_beginWith ∈ TB := tbm 509 (by decide +kernel) (by decide +kernel)
theorem ml_RX0_71 : Cond.methodLink RX0 71 yX1_empty ∈ TB := tbm 513 (by decide +kernel) (by decide +kernel)
theorem ml_RX0_74 : Cond.methodLink RX0 74 yX1_put ∈ TB := tbm 517 (by decide +kernel) (by decide +kernel)
theorem ml_RX0_65 : Cond.methodLink RX0 65 yX0_settle ∈ TB := tbm 521 (by decide +kernel) (by decide +kernel)
theorem ml_RX0_78 : Cond.methodLink RX0 78 yX1_copySums ∈ TB := tbm 525 (by decide +kernel) (by decide +kernel)
theorem ml_RX0_92 : Cond.methodLink RX0 92 yX0_anotherRoundFollows ∈ TB := tbm 529 (by decide +kernel) (by decide +kernel)
theorem ml_RX0_99 : Cond.methodLink RX0 99 yX1_brace ∈ TB := tbm 533 (by decide +kernel) (by decide +kernel)
theorem ml_RX0_102 : Cond.methodLink RX0 102 yX1_tilt ∈ TB := tbm 537 (by decide +kernel) (by decide +kernel)
theorem ml_RX0_106 : Cond.methodLink RX0 106 yX0_mostPulled ∈ TB := tbm 541 (by decide +kernel) (by decide +kernel)
theorem ml_RX0_113 : Cond.methodLink RX0 113 yX1_topAt ∈ TB := tbm 545 (by decide +kernel) (by decide +kernel)
theorem ml_RX0_110 : Cond.methodLink RX0 110 yX0_mostPressedOfReleased ∈ TB := tbm 549 (by decide +kernel) (by decide +kernel)
theorem ml_RX0_96 : Cond.methodLink RX0 96 yX0_findMostUsed ∈ TB := tbm 553 (by decide +kernel) (by decide +kernel)
theorem ml_RX0_120 : Cond.methodLink RX0 120 yX0_shareTop ∈ TB := tbm 557 (by decide +kernel) (by decide +kernel)
theorem ml_RX0_124 : Cond.methodLink RX0 124 yX0_isSlot ∈ TB := tbm 561 (by decide +kernel) (by decide +kernel)
theorem ml_RX0_128 : Cond.methodLink RX0 128 yX0_isActive ∈ TB := tbm 564 (by decide +kernel) (by decide +kernel)
theorem ml_RX4_153 : Cond.methodLink RX4 153 yX0_isActive ∈ TB := tbm 568 (by decide +kernel) (by decide +kernel)
theorem ml_RL_63 : Cond.methodLink RL 63 yX4_column ∈ TB := tbm 570 (by decide +kernel) (by decide +kernel)
theorem ml_RL_67 : Cond.methodLink RL 67 yX4_sum ∈ TB := tbm 574 (by decide +kernel) (by decide +kernel)
theorem ml_RL_72 : Cond.methodLink RL 72 yX4_sharing ∈ TB := tbm 578 (by decide +kernel) (by decide +kernel)
theorem ml_RL_76 : Cond.methodLink RL 76 yX4_share ∈ TB := tbm 582 (by decide +kernel) (by decide +kernel)
theorem ml_RX4_179 : Cond.methodLink RX4 179 yX0_shareDown ∈ TB := tbm 587 (by decide +kernel) (by decide +kernel)
theorem ml_RX0_134 : Cond.methodLink RX0 134 yJ9_floorDiv_f86c9 ∈ TB := tbm 591 (by decide +kernel) (by decide +kernel)
theorem ml_RX4_183 : Cond.methodLink RX4 183 yX0_shareTop ∈ TB := tbm 594 (by decide +kernel) (by decide +kernel)
theorem ml_RX4_186 : Cond.methodLink RX4 186 yX0_bottom ∈ TB := tbm 595 (by decide +kernel) (by decide +kernel)
theorem ml_RX4_190 : Cond.methodLink RX4 190 yX4_inLowestTerms ∈ TB := tbm 599 (by decide +kernel) (by decide +kernel)
theorem ml_RX4_302 : Cond.methodLink RX4 302 yJ9_abs_067f4 ∈ TB := tbm 602 (by decide +kernel) (by decide +kernel)
theorem ml_RX4_306 : Cond.methodLink RX4 306 yX4_commonDivisor ∈ TB := tbm 605 (by decide +kernel) (by decide +kernel)
theorem ml_RL_80 : Cond.methodLink RL 80 yX4_press ∈ TB := tbm 608 (by decide +kernel) (by decide +kernel)
theorem ml_RX4_198 : Cond.methodLink RX4 198 yX1_topAt ∈ TB := tbm 612 (by decide +kernel) (by decide +kernel)
theorem ml_RL_85 : Cond.methodLink RL 85 yX4_most ∈ TB := tbm 613 (by decide +kernel) (by decide +kernel)
theorem ml_RX4_206 : Cond.methodLink RX4 206 yX4_greatestUse ∈ TB := tbm 618 (by decide +kernel) (by decide +kernel)
theorem ml_RX4_209 : Cond.methodLink RX4 209 yX0_useTop ∈ TB := tbm 622 (by decide +kernel) (by decide +kernel)
theorem ml_RX4_212 : Cond.methodLink RX4 212 yX0_useBottom ∈ TB := tbm 626 (by decide +kernel) (by decide +kernel)
theorem ml_RL_89 : Cond.methodLink RL 89 yX4_factor ∈ TB := tbm 630 (by decide +kernel) (by decide +kernel)
theorem ml_RL_93 : Cond.methodLink RL 93 yX4_kern ∈ TB := tbm 634 (by decide +kernel) (by decide +kernel)
theorem ml_RX4_215 : Cond.methodLink RX4 215 yX4_bracePresent ∈ TB := tbm 638 (by decide +kernel) (by decide +kernel)
theorem ml_RX4_289 : Cond.methodLink RX4 289 yX0_braceAll ∈ TB := tbm 642 (by decide +kernel) (by decide +kernel)
theorem ml_RX4_219 : Cond.methodLink RX4 219 yX0_pullsNoPile ∈ TB := tbm 646 (by decide +kernel) (by decide +kernel)
theorem ml_RL_97 : Cond.methodLink RL 97 yX4_kerns ∈ TB := tbm 650 (by decide +kernel) (by decide +kernel)
theorem ml_RX4_222 : Cond.methodLink RX4 222 yX4_xOf ∈ TB := tbm 654 (by decide +kernel) (by decide +kernel)
theorem ml_RX4_225 : Cond.methodLink RX4 225 yX4_yOf ∈ TB := tbm 657 (by decide +kernel) (by decide +kernel)
theorem ml_RL_101 : Cond.methodLink RL 101 yX4_without ∈ TB := tbm 660 (by decide +kernel) (by decide +kernel)
theorem ml_RL_105 : Cond.methodLink RL 105 yX4_key ∈ TB := tbm 665 (by decide +kernel) (by decide +kernel)
theorem ml_RX4_237 : Cond.methodLink RX4 237 yX4_compareFractions ∈ TB := tbm 669 (by decide +kernel) (by decide +kernel)
theorem ml_RX4_310 : Cond.methodLink RX4 310 yJ13_compare_74951 ∈ TB := tbm 672 (by decide +kernel) (by decide +kernel)
theorem ml_RL_109 : Cond.methodLink RL 109 yX4_extra ∈ TB := tbm 675 (by decide +kernel) (by decide +kernel)
theorem ml_RX4_241 : Cond.methodLink RX4 241 yX0_beginWith ∈ TB := tbm 679 (by decide +kernel) (by decide +kernel)
theorem ml_RX4_244 : Cond.methodLink RX4 244 yX0_putFurther ∈ TB := tbm 680 (by decide +kernel) (by decide +kernel)
theorem ml_RX4_247 : Cond.methodLink RX4 247 yX0_settle ∈ TB := tbm 684 (by decide +kernel) (by decide +kernel)
theorem ml_RX4_250 : Cond.methodLink RX4 250 yX0_takeFurtherAway ∈ TB := tbm 685 (by decide +kernel) (by decide +kernel)
theorem ml_RL_113 : Cond.methodLink RL 113 yX4_odds ∈ TB := tbm 689 (by decide +kernel) (by decide +kernel)
theorem ml_RX4_253 : Cond.methodLink RX4 253 yX4_power ∈ TB := tbm 693 (by decide +kernel) (by decide +kernel)
theorem ml_RX4_257 : Cond.methodLink RX4 257 yX4_standsOn ∈ TB := tbm 696 (by decide +kernel) (by decide +kernel)
theorem ml_RL_117 : Cond.methodLink RL 117 yX4_hunts ∈ TB := tbm 700 (by decide +kernel) (by decide +kernel)
theorem ml_RX4_260 : Cond.methodLink RX4 260 yX4_dropSights ∈ TB := tbm 704 (by decide +kernel) (by decide +kernel)
theorem ml_RL_121 : Cond.methodLink RL 121 yX4_sees ∈ TB := tbm 708 (by decide +kernel) (by decide +kernel)
theorem ml_RL_125 : Cond.methodLink RL 125 yX4_forget ∈ TB := tbm 712 (by decide +kernel) (by decide +kernel)
theorem ml_RL_129 : Cond.methodLink RL 129 yX4_spots ∈ TB := tbm 716 (by decide +kernel) (by decide +kernel)
theorem ml_RX4_267 : Cond.methodLink RX4 267 yX4_isSpot ∈ TB := tbm 720 (by decide +kernel) (by decide +kernel)
theorem ml_RL_133 : Cond.methodLink RL 133 yX4_ask ∈ TB := tbm 724 (by decide +kernel) (by decide +kernel)
theorem ml_RX4_270 : Cond.methodLink RX4 270 yJ7_fill_53178 ∈ TB := tbm 728 (by decide +kernel) (by decide +kernel)
theorem ml_RX4_276 : Cond.methodLink RX4 276 yX4_groupShares ∈ TB := tbm 731 (by decide +kernel) (by decide +kernel)
theorem ml_RX4_279 : Cond.methodLink RX4 279 yX4_pileWithSmallestLargestGroup ∈ TB := tbm 736 (by decide +kernel) (by decide +kernel)
theorem ml_RX4_297 : Cond.methodLink RX4 297 yJ9_max_7cf53 ∈ TB := tbm 740 (by decide +kernel) (by decide +kernel)
theorem ml_RL_137 : Cond.methodLink RL 137 yX4_keep ∈ TB := tbm 743 (by decide +kernel) (by decide +kernel)
theorem ml_RL_141 : Cond.methodLink RL 141 yX4_back ∈ TB := tbm 747 (by decide +kernel) (by decide +kernel)
theorem ml_RL_145 : Cond.methodLink RL 145 yX4_count ∈ TB := tbm 751 (by decide +kernel) (by decide +kernel)
theorem ml_RL_12 : Cond.methodLink RL 12 yX5_init ∈ TB := tbm 757 (by decide +kernel) (by decide +kernel)
theorem ml_RL_17 : Cond.methodLink RL 17 yX5_type ∈ TB := tbm 885 (by decide +kernel) (by decide +kernel)
theorem ml_RX5_57 : Cond.methodLink RX5 57 yX5_in ∈ TB := tbm 889 (by decide +kernel) (by decide +kernel)
theorem ml_RL_22 : Cond.methodLink RL 22 yX5_clear ∈ TB := tbm 892 (by decide +kernel) (by decide +kernel)
theorem ml_RL_26 : Cond.methodLink RL 26 yX5_tells ∈ TB := tbm 896 (by decide +kernel) (by decide +kernel)
theorem ml_RX5_87 : Cond.methodLink RX5 87 yX5_next ∈ TB := tbm 900 (by decide +kernel) (by decide +kernel)
theorem ml_RX5_73 : Cond.methodLink RX5 73 yX5_isFigure ∈ TB := tbm 904 (by decide +kernel) (by decide +kernel)
theorem ml_RX5_102 : Cond.methodLink RX5 102 yX5_readsPile ∈ TB := tbm 908 (by decide +kernel) (by decide +kernel)
theorem ml_RX5_83 : Cond.methodLink RX5 83 yX5_due ∈ TB := tbm 912 (by decide +kernel) (by decide +kernel)
theorem ml_RX5_90 : Cond.methodLink RX5 90 yX5_reads ∈ TB := tbm 916 (by decide +kernel) (by decide +kernel)
theorem ml_RX5_94 : Cond.methodLink RX5 94 yX5_isTakenByDraft ∈ TB := tbm 920 (by decide +kernel) (by decide +kernel)
theorem ml_RX5_105 : Cond.methodLink RX5 105 yX5_readsColumn ∈ TB := tbm 924 (by decide +kernel) (by decide +kernel)
theorem ml_RX5_108 : Cond.methodLink RX5 108 yX5_readsWind ∈ TB := tbm 928 (by decide +kernel) (by decide +kernel)
theorem ml_RL_31 : Cond.methodLink RL 31 yX5_drives ∈ TB := tbm 932 (by decide +kernel) (by decide +kernel)
theorem ml_RX5_121 : Cond.methodLink RX5 121 yX5_isPlace ∈ TB := tbm 936 (by decide +kernel) (by decide +kernel)
theorem ml_RX5_124 : Cond.methodLink RX5 124 yX5_isKind ∈ TB := tbm 939 (by decide +kernel) (by decide +kernel)
theorem ml_RX5_127 : Cond.methodLink RX5 127 yX5_isTaken ∈ TB := tbm 942 (by decide +kernel) (by decide +kernel)
theorem ml_RX5_117 : Cond.methodLink RX5 117 yX5_ofPile ∈ TB := tbm 946 (by decide +kernel) (by decide +kernel)
theorem ml_RX5_130 : Cond.methodLink RX5 130 yX5_notes ∈ TB := tbm 950 (by decide +kernel) (by decide +kernel)
theorem ml_RL_35 : Cond.methodLink RL 35 yX5_loses ∈ TB := tbm 954 (by decide +kernel) (by decide +kernel)
theorem ml_RX5_141 : Cond.methodLink RX5 141 yX5_becomes ∈ TB := tbm 958 (by decide +kernel) (by decide +kernel)
theorem ml_RX5_133 : Cond.methodLink RX5 133 yX5_isPile ∈ TB := tbm 962 (by decide +kernel) (by decide +kernel)
theorem ml_RX5_137 : Cond.methodLink RX5 137 yX5_wholes ∈ TB := tbm 966 (by decide +kernel) (by decide +kernel)
theorem ml_RL_39 : Cond.methodLink RL 39 yX5_mends ∈ TB := tbm 970 (by decide +kernel) (by decide +kernel)
theorem ml_RL_44 : Cond.methodLink RL 44 yX5_loads ∈ TB := tbm 974 (by decide +kernel) (by decide +kernel)
theorem ml_RX5_144 : Cond.methodLink RX5 144 yX5_isColumn ∈ TB := tbm 978 (by decide +kernel) (by decide +kernel)
theorem ml_RX5_147 : Cond.methodLink RX5 147 yX5_ofColumn ∈ TB := tbm 982 (by decide +kernel) (by decide +kernel)
theorem ml_RL_49 : Cond.methodLink RL 49 yX5_moves ∈ TB := tbm 986 (by decide +kernel) (by decide +kernel)
theorem ml_RL_53 : Cond.methodLink RL 53 yX5_winds ∈ TB := tbm 990 (by decide +kernel) (by decide +kernel)
theorem ml_RL_57 : Cond.methodLink RL 57 yX5_undo ∈ TB := tbm 994 (by decide +kernel) (by decide +kernel)
theorem ml_RL_62 : Cond.methodLink RL 62 yX5_pile ∈ TB := tbm 998 (by decide +kernel) (by decide +kernel)
theorem ml_RX5_239 : Cond.methodLink RX5 239 yX5_sharesNow ∈ TB := tbm 1003 (by decide +kernel) (by decide +kernel)
theorem ml_RX5_211 : Cond.methodLink RX5 211 yX5_laysPiles ∈ TB := tbm 1007 (by decide +kernel) (by decide +kernel)
theorem ml_RX5_214 : Cond.methodLink RX5 214 yX5_laysSums ∈ TB := tbm 1011 (by decide +kernel) (by decide +kernel)
theorem ml_RX5_156 : Cond.methodLink RX5 156 yX5_sumOf ∈ TB := tbm 1015 (by decide +kernel) (by decide +kernel)
theorem ml_RX5_217 : Cond.methodLink RX5 217 yX5_shares ∈ TB := tbm 1019 (by decide +kernel) (by decide +kernel)
theorem ml_RX5_202 : Cond.methodLink RX5 202 yX5_isSteady ∈ TB := tbm 1023 (by decide +kernel) (by decide +kernel)
theorem ml_RX5_170 : Cond.methodLink RX5 170 yX5_det ∈ TB := tbm 1027 (by decide +kernel) (by decide +kernel)
theorem ml_RX5_205 : Cond.methodLink RX5 205 yX5_goesOut ∈ TB := tbm 1030 (by decide +kernel) (by decide +kernel)
theorem ml_RX5_193 : Cond.methodLink RX5 193 yX5_bears ∈ TB := tbm 1034 (by decide +kernel) (by decide +kernel)
theorem ml_RX5_189 : Cond.methodLink RX5 189 yX5_pressAt ∈ TB := tbm 1038 (by decide +kernel) (by decide +kernel)
theorem ml_RX5_208 : Cond.methodLink RX5 208 yX5_comesIn ∈ TB := tbm 1042 (by decide +kernel) (by decide +kernel)
theorem ml_RL_66 : Cond.methodLink RL 66 yX5_column ∈ TB := tbm 1047 (by decide +kernel) (by decide +kernel)
theorem ml_RL_71 : Cond.methodLink RL 71 yX5_sum ∈ TB := tbm 1051 (by decide +kernel) (by decide +kernel)
theorem ml_RL_75 : Cond.methodLink RL 75 yX5_sharing ∈ TB := tbm 1055 (by decide +kernel) (by decide +kernel)
theorem ml_RL_79 : Cond.methodLink RL 79 yX5_share ∈ TB := tbm 1059 (by decide +kernel) (by decide +kernel)
theorem ml_RX5_233 : Cond.methodLink RX5 233 yX5_part ∈ TB := tbm 1064 (by decide +kernel) (by decide +kernel)
theorem ml_RX5_220 : Cond.methodLink RX5 220 yX5_common ∈ TB := tbm 1067 (by decide +kernel) (by decide +kernel)
theorem ml_RL_84 : Cond.methodLink RL 84 yX5_press ∈ TB := tbm 1070 (by decide +kernel) (by decide +kernel)
theorem ml_RL_88 : Cond.methodLink RL 88 yX5_most ∈ TB := tbm 1074 (by decide +kernel) (by decide +kernel)
theorem ml_RX5_248 : Cond.methodLink RX5 248 yX5_laysMost ∈ TB := tbm 1079 (by decide +kernel) (by decide +kernel)
theorem ml_RX5_251 : Cond.methodLink RX5 251 yX5_tellsMost ∈ TB := tbm 1083 (by decide +kernel) (by decide +kernel)
theorem ml_RL_92 : Cond.methodLink RL 92 yX5_factor ∈ TB := tbm 1087 (by decide +kernel) (by decide +kernel)
theorem ml_RL_96 : Cond.methodLink RL 96 yX5_kern ∈ TB := tbm 1091 (by decide +kernel) (by decide +kernel)
theorem ml_RX5_258 : Cond.methodLink RX5 258 yX5_isKern ∈ TB := tbm 1095 (by decide +kernel) (by decide +kernel)
theorem ml_RX5_254 : Cond.methodLink RX5 254 yX5_laysLoad ∈ TB := tbm 1099 (by decide +kernel) (by decide +kernel)
theorem ml_RL_100 : Cond.methodLink RL 100 yX5_kerns ∈ TB := tbm 1103 (by decide +kernel) (by decide +kernel)
theorem ml_RL_104 : Cond.methodLink RL 104 yX5_without ∈ TB := tbm 1107 (by decide +kernel) (by decide +kernel)
theorem ml_RX5_263 : Cond.methodLink RX5 263 yX5_laysWithout ∈ TB := tbm 1112 (by decide +kernel) (by decide +kernel)
theorem ml_RL_108 : Cond.methodLink RL 108 yX5_key ∈ TB := tbm 1116 (by decide +kernel) (by decide +kernel)
theorem ml_RX5_266 : Cond.methodLink RX5 266 yX5_against ∈ TB := tbm 1120 (by decide +kernel) (by decide +kernel)
theorem ml_RL_112 : Cond.methodLink RL 112 yX5_extra ∈ TB := tbm 1123 (by decide +kernel) (by decide +kernel)
theorem ml_RL_116 : Cond.methodLink RL 116 yX5_odds ∈ TB := tbm 1127 (by decide +kernel) (by decide +kernel)
theorem ml_RL_120 : Cond.methodLink RL 120 yX5_hunts ∈ TB := tbm 1132 (by decide +kernel) (by decide +kernel)
theorem ml_RL_124 : Cond.methodLink RL 124 yX5_sees ∈ TB := tbm 1136 (by decide +kernel) (by decide +kernel)
theorem ml_RL_128 : Cond.methodLink RL 128 yX5_forget ∈ TB := tbm 1140 (by decide +kernel) (by decide +kernel)
theorem ml_RL_132 : Cond.methodLink RL 132 yX5_spots ∈ TB := tbm 1144 (by decide +kernel) (by decide +kernel)
theorem ml_RX5_281 : Cond.methodLink RX5 281 yX5_laysSpots ∈ TB := tbm 1148 (by decide +kernel) (by decide +kernel)
theorem ml_RX5_278 : Cond.methodLink RX5 278 yX5_isSo ∈ TB := tbm 1152 (by decide +kernel) (by decide +kernel)
theorem ml_RL_136 : Cond.methodLink RL 136 yX5_ask ∈ TB := tbm 1156 (by decide +kernel) (by decide +kernel)
theorem ml_RX5_284 : Cond.methodLink RX5 284 yX5_mostAlike ∈ TB := tbm 1160 (by decide +kernel) (by decide +kernel)
theorem ml_RL_140 : Cond.methodLink RL 140 yX5_keep ∈ TB := tbm 1164 (by decide +kernel) (by decide +kernel)
theorem ml_RL_144 : Cond.methodLink RL 144 yX5_back ∈ TB := tbm 1168 (by decide +kernel) (by decide +kernel)
theorem ml_RL_148 : Cond.methodLink RL 148 yX5_count ∈ TB := tbm 1172 (by decide +kernel) (by decide +kernel)
theorem gv_RL_13 : GoodIn TB (wsV RL 13 RX4 yX4_type (.code yX4_type cX4_type 2 (some .int) :: TB)) := goodV ml_RL_13 im_X4_type se_X4_type in_RX4 cd_X4_type
theorem gv_RX4_58 : GoodIn TB (wsV RX4 58 RX2 yX2_append (.code yX2_append cX2_append 2 (some .boolean) :: TB)) := goodV ml_RX4_58 im_X2_append se_X2_append in_RX2 cd_X2_append
theorem gv_RL_18 : GoodIn TB (wsV RL 18 RX4 yX4_clear (.code yX4_clear cX4_clear 2 (some .int) :: TB)) := goodV ml_RL_18 im_X4_clear se_X4_clear in_RX4 cd_X4_clear
theorem gv_RL_23 : GoodIn TB (wsV RL 23 RX4 yX4_tells (.code yX4_tells cX4_tells 3 (some .int) :: TB)) := goodV ml_RL_23 im_X4_tells se_X4_tells in_RX4 cd_X4_tells
theorem gv_RX4_65 : GoodIn TB (wsV RX4 65 RX2 yX2_readInto (.code yX2_readInto cX2_readInto 3 (some .int) :: TB)) := goodV ml_RX4_65 im_X2_readInto se_X2_readInto in_RX2 cd_X2_readInto
theorem gv_RX2_19 : GoodIn TB (wsV RX2 19 RX3 yX3_empty (.code yX3_empty cX3_empty 1 none :: TB)) := goodV ml_RX2_19 im_X3_empty se_X3_empty in_RX3 cd_X3_empty
theorem gv_RX2_31 : GoodIn TB (wsV RX2 31 RX2 yX2_skipBlanks (.code yX2_skipBlanks cX2_skipBlanks 2 none :: TB)) := goodV ml_RX2_31 im_X2_skipBlanks se_X2_skipBlanks in_RX2 cd_X2_skipBlanks
theorem gv_RX2_34 : GoodIn TB (wsV RX2 34 RX2 yX2_readItem (.code yX2_readItem cX2_readItem 2 (some .boolean) :: TB)) := goodV ml_RX2_34 im_X2_readItem se_X2_readItem in_RX2 cd_X2_readItem
theorem gv_RX2_38 : GoodIn TB (wsV RX2 38 RX2 yX2_letterHere (.code yX2_letterHere cX2_letterHere 1 (some .int) :: TB)) := goodV ml_RX2_38 im_X2_letterHere se_X2_letterHere in_RX2 cd_X2_letterHere
theorem gv_RX2_45 : GoodIn TB (wsV RX2 45 RX2 yX2_readPile (.code yX2_readPile cX2_readPile 4 (some .boolean) :: TB)) := goodV ml_RX2_45 im_X2_readPile se_X2_readPile in_RX2 cd_X2_readPile
theorem gv_RX2_57 : GoodIn TB (wsV RX2 57 RX2 yX2_readPlace (.code yX2_readPlace cX2_readPlace 3 (some .boolean) :: TB)) := goodV ml_RX2_57 im_X2_readPlace se_X2_readPlace in_RX2 cd_X2_readPlace
theorem gv_RX2_74 : GoodIn TB (wsV RX2 74 RX2 yX2_readNumber (.code yX2_readNumber cX2_readNumber 6 (some .int) :: TB)) := goodV ml_RX2_74 im_X2_readNumber se_X2_readNumber in_RX2 cd_X2_readNumber
theorem gs_RX2_95 : GoodIn TB (va_wsS RX2 95 yX2_isDigit (.code yX2_isDigit cX2_isDigit 1 (some .boolean) :: TB)) := goodS ml_RX2_95 st_X2_isDigit in_RX2 cd_X2_isDigit
theorem gs_RX2_99 : GoodIn TB (va_wsS RX2 99 yJ9_min_7cf53 (.code yJ9_min_7cf53 cJ9_min_7cf53 2 (some .int) :: TB)) := goodS ml_RX2_99 st_J9_min_7cf53 in_RJ9 cd_J9_min_7cf53
theorem gv_RX2_67 : GoodIn TB (wsV RX2 67 RX3 yX3_hasPileAt (.code yX3_hasPileAt cX3_hasPileAt 4 (some .boolean) :: TB)) := goodV ml_RX2_67 im_X3_hasPileAt se_X3_hasPileAt in_RX3 cd_X3_hasPileAt
theorem gv_RX2_78 : GoodIn TB (wsV RX2 78 RX2 yX2_readSemicolon (.code yX2_readSemicolon cX2_readSemicolon 1 (some .boolean) :: TB)) := goodV ml_RX2_78 im_X2_readSemicolon se_X2_readSemicolon in_RX2 cd_X2_readSemicolon
theorem gv_RX2_81 : GoodIn TB (wsV RX2 81 RX3 yX3_addPile (.code yX3_addPile cX3_addPile 5 none :: TB)) := goodV ml_RX2_81 im_X3_addPile se_X3_addPile in_RX3 cd_X3_addPile
theorem gv_RX2_51 : GoodIn TB (wsV RX2 51 RX2 yX2_readColumn (.code yX2_readColumn cX2_readColumn 3 (some .boolean) :: TB)) := goodV ml_RX2_51 im_X2_readColumn se_X2_readColumn in_RX2 cd_X2_readColumn
theorem gv_RX2_85 : GoodIn TB (wsV RX2 85 RX3 yX3_addColumn (.code yX3_addColumn cX3_addColumn 4 none :: TB)) := goodV ml_RX2_85 im_X3_addColumn se_X3_addColumn in_RX3 cd_X3_addColumn
theorem gv_RX2_54 : GoodIn TB (wsV RX2 54 RX2 yX2_readWind (.code yX2_readWind cX2_readWind 4 (some .boolean) :: TB)) := goodV ml_RX2_54 im_X2_readWind se_X2_readWind in_RX2 cd_X2_readWind
theorem gs_RX4_69 : GoodIn TB (va_wsS RX4 69 yX3_copy (.code yX3_copy cX3_copy 2 none :: TB)) := goodS ml_RX4_69 st_X3_copy in_RX3 cd_X3_copy
theorem gv_RL_27 : GoodIn TB (wsV RL 27 RX4 yX4_drives (.code yX4_drives cX4_drives 5 (some .int) :: TB)) := goodV ml_RL_27 im_X4_drives se_X4_drives in_RX4 cd_X4_drives
theorem gs_RX4_79 : GoodIn TB (va_wsS RX4 79 yX4_isPlace (.code yX4_isPlace cX4_isPlace 2 (some .boolean) :: TB)) := goodS ml_RX4_79 st_X4_isPlace in_RX4 cd_X4_isPlace
theorem gs_RX4_83 : GoodIn TB (va_wsS RX4 83 yX4_isPileKind (.code yX4_isPileKind cX4_isPileKind 2 (some .boolean) :: TB)) := goodS ml_RX4_83 st_X4_isPileKind in_RX4 cd_X4_isPileKind
theorem gv_RX4_86 : GoodIn TB (wsV RX4 86 RX3 yX3_hasPileAt (.code yX3_hasPileAt cX3_hasPileAt 4 (some .boolean) :: TB)) := goodV ml_RX4_86 im_X3_hasPileAt se_X3_hasPileAt in_RX3 cd_X3_hasPileAt
theorem gv_RX4_92 : GoodIn TB (wsV RX4 92 RX4 yX4_record (.code yX4_record cX4_record 3 none :: TB)) := goodV ml_RX4_92 im_X4_record se_X4_record in_RX4 cd_X4_record
theorem gv_RX4_95 : GoodIn TB (wsV RX4 95 RX3 yX3_addPile (.code yX3_addPile cX3_addPile 5 none :: TB)) := goodV ml_RX4_95 im_X3_addPile se_X3_addPile in_RX3 cd_X3_addPile
theorem gv_RL_32 : GoodIn TB (wsV RL 32 RX4 yX4_loses (.code yX4_loses cX4_loses 2 (some .int) :: TB)) := goodV ml_RL_32 im_X4_loses se_X4_loses in_RX4 cd_X4_loses
theorem gv_RX4_99 : GoodIn TB (wsV RX4 99 RX4 yX4_isPile (.code yX4_isPile cX4_isPile 2 (some .boolean) :: TB)) := goodV ml_RX4_99 im_X4_isPile se_X4_isPile in_RX4 cd_X4_isPile
theorem gv_RX4_102 : GoodIn TB (wsV RX4 102 RX3 yX3_isIntact (.code yX3_isIntact cX3_isIntact 2 (some .boolean) :: TB)) := goodV ml_RX4_102 im_X3_isIntact se_X3_isIntact in_RX3 cd_X3_isIntact
theorem gs_RX4_108 : GoodIn TB (va_wsS RX4 108 yJ6_bitCount_0f7a4 (.code yJ6_bitCount_0f7a4 cJ6_bitCount_0f7a4 1 (some .int) :: TB)) := goodS ml_RX4_108 st_J6_bitCount_0f7a4 in_RJ6 cd_J6_bitCount_0f7a4
theorem gv_RL_36 : GoodIn TB (wsV RL 36 RX4 yX4_mends (.code yX4_mends cX4_mends 2 (some .int) :: TB)) := goodV ml_RL_36 im_X4_mends se_X4_mends in_RX4 cd_X4_mends
theorem gv_RL_40 : GoodIn TB (wsV RL 40 RX4 yX4_loads (.code yX4_loads cX4_loads 4 (some .int) :: TB)) := goodV ml_RL_40 im_X4_loads se_X4_loads in_RX4 cd_X4_loads
theorem gv_RX4_114 : GoodIn TB (wsV RX4 114 RX4 yX4_isColumn (.code yX4_isColumn cX4_isColumn 2 (some .boolean) :: TB)) := goodV ml_RX4_114 im_X4_isColumn se_X4_isColumn in_RX4 cd_X4_isColumn
theorem gv_RL_45 : GoodIn TB (wsV RL 45 RX4 yX4_moves (.code yX4_moves cX4_moves 4 (some .int) :: TB)) := goodV ml_RL_45 im_X4_moves se_X4_moves in_RX4 cd_X4_moves
theorem gv_RL_50 : GoodIn TB (wsV RL 50 RX4 yX4_winds (.code yX4_winds cX4_winds 3 (some .int) :: TB)) := goodV ml_RL_50 im_X4_winds se_X4_winds in_RX4 cd_X4_winds
theorem gv_RL_54 : GoodIn TB (wsV RL 54 RX4 yX4_undo (.code yX4_undo cX4_undo 1 (some .int) :: TB)) := goodV ml_RL_54 im_X4_undo se_X4_undo in_RX4 cd_X4_undo
theorem gv_RL_58 : GoodIn TB (wsV RL 58 RX4 yX4_pile (.code yX4_pile cX4_pile 3 (some .long) :: TB)) := goodV ml_RL_58 im_X4_pile se_X4_pile in_RX4 cd_X4_pile
theorem gv_RX4_146 : GoodIn TB (wsV RX4 146 RX4 yX4_spreadPresent (.code yX4_spreadPresent cX4_spreadPresent 1 none :: TB)) := goodV ml_RX4_146 im_X4_spreadPresent se_X4_spreadPresent in_RX4 cd_X4_spreadPresent
theorem gv_RX4_230 : GoodIn TB (wsV RX4 230 RX4 yX4_takePresent (.code yX4_takePresent cX4_takePresent 1 none :: TB)) := goodV ml_RX4_230 im_X4_takePresent se_X4_takePresent in_RX4 cd_X4_takePresent
theorem gv_RX4_263 : GoodIn TB (wsV RX4 263 RX0 yX0_takePiles (.code yX0_takePiles cX0_takePiles 2 none :: TB)) := goodV ml_RX4_263 im_X0_takePiles se_X0_takePiles in_RX0 cd_X0_takePiles
theorem gv_RX4_158 : GoodIn TB (wsV RX4 158 RX3 yX3_weight (.code yX3_weight cX3_weight 3 (some .int) :: TB)) := goodV ml_RX4_158 im_X3_weight se_X3_weight in_RX3 cd_X3_weight
theorem gv_RX4_162 : GoodIn TB (wsV RX4 162 RX3 yX3_momentX (.code yX3_momentX cX3_momentX 3 (some .int) :: TB)) := goodV ml_RX4_162 im_X3_momentX se_X3_momentX in_RX3 cd_X3_momentX
theorem gv_RX4_165 : GoodIn TB (wsV RX4 165 RX3 yX3_momentY (.code yX3_momentY cX3_momentY 3 (some .int) :: TB)) := goodV ml_RX4_165 im_X3_momentY se_X3_momentY in_RX3 cd_X3_momentY
theorem gv_RX4_285 : GoodIn TB (wsV RX4 285 RX0 yX0_bear (.code yX0_bear cX0_bear 7 none :: TB)) := goodV ml_RX4_285 im_X0_bear se_X0_bear in_RX0 cd_X0_bear
theorem gv_RX4_233 : GoodIn TB (wsV RX4 233 RX0 yX0_settleOn (.code yX0_settleOn cX0_settleOn 2 none :: TB)) := goodV ml_RX4_233 im_X0_settleOn se_X0_settleOn in_RX0 cd_X0_settleOn
theorem gv_RX0_61 : GoodIn TB (wsV RX0 61 RX0 yX0_beginWith (.code yX0_beginWith cX0_beginWith 3 none :: TB)) := goodV ml_RX0_61 im_X0_beginWith se_X0_beginWith in_RX0 cd_X0_beginWith
theorem gv_RX0_71 : GoodIn TB (wsV RX0 71 RX1 yX1_empty (.code yX1_empty cX1_empty 1 none :: TB)) := goodV ml_RX0_71 im_X1_empty se_X1_empty in_RX1 cd_X1_empty
theorem gv_RX0_74 : GoodIn TB (wsV RX0 74 RX1 yX1_put (.code yX1_put cX1_put 6 none :: TB)) := goodV ml_RX0_74 im_X1_put se_X1_put in_RX1 cd_X1_put
theorem gv_RX0_65 : GoodIn TB (wsV RX0 65 RX0 yX0_settle (.code yX0_settle cX0_settle 3 none :: TB)) := goodV ml_RX0_65 im_X0_settle se_X0_settle in_RX0 cd_X0_settle
theorem gv_RX0_78 : GoodIn TB (wsV RX0 78 RX1 yX1_copySums (.code yX1_copySums cX1_copySums 2 none :: TB)) := goodV ml_RX0_78 im_X1_copySums se_X1_copySums in_RX1 cd_X1_copySums
theorem gv_RX0_92 : GoodIn TB (wsV RX0 92 RX0 yX0_anotherRoundFollows (.code yX0_anotherRoundFollows cX0_anotherRoundFollows 3 (some .boolean) :: TB)) := goodV ml_RX0_92 im_X0_anotherRoundFollows se_X0_anotherRoundFollows in_RX0 cd_X0_anotherRoundFollows
theorem gv_RX0_99 : GoodIn TB (wsV RX0 99 RX1 yX1_brace (.code yX1_brace cX1_brace 1 (some .boolean) :: TB)) := goodV ml_RX0_99 im_X1_brace se_X1_brace in_RX1 cd_X1_brace
theorem gv_RX0_102 : GoodIn TB (wsV RX0 102 RX1 yX1_tilt (.code yX1_tilt cX1_tilt 7 none :: TB)) := goodV ml_RX0_102 im_X1_tilt se_X1_tilt in_RX1 cd_X1_tilt
theorem gv_RX0_106 : GoodIn TB (wsV RX0 106 RX0 yX0_mostPulled (.code yX0_mostPulled cX0_mostPulled 7 (some .int) :: TB)) := goodV ml_RX0_106 im_X0_mostPulled se_X0_mostPulled in_RX0 cd_X0_mostPulled
theorem gv_RX0_113 : GoodIn TB (wsV RX0 113 RX1 yX1_topAt (.code yX1_topAt cX1_topAt 3 (some .long) :: TB)) := goodV ml_RX0_113 im_X1_topAt se_X1_topAt in_RX1 cd_X1_topAt
theorem gv_RX0_110 : GoodIn TB (wsV RX0 110 RX0 yX0_mostPressedOfReleased (.code yX0_mostPressedOfReleased cX0_mostPressedOfReleased 8 (some .int) :: TB)) := goodV ml_RX0_110 im_X0_mostPressedOfReleased se_X0_mostPressedOfReleased in_RX0 cd_X0_mostPressedOfReleased
theorem gv_RX0_96 : GoodIn TB (wsV RX0 96 RX0 yX0_findMostUsed (.code yX0_findMostUsed cX0_findMostUsed 6 none :: TB)) := goodV ml_RX0_96 im_X0_findMostUsed se_X0_findMostUsed in_RX0 cd_X0_findMostUsed
theorem gv_RX0_120 : GoodIn TB (wsV RX0 120 RX0 yX0_shareTop (.code yX0_shareTop cX0_shareTop 2 (some .long) :: TB)) := goodV ml_RX0_120 im_X0_shareTop se_X0_shareTop in_RX0 cd_X0_shareTop
theorem gs_RX0_124 : GoodIn TB (va_wsS RX0 124 yX0_isSlot (.code yX0_isSlot cX0_isSlot 1 (some .boolean) :: TB)) := goodS ml_RX0_124 st_X0_isSlot in_RX0 cd_X0_isSlot
theorem gv_RX0_128 : GoodIn TB (wsV RX0 128 RX0 yX0_isActive (.code yX0_isActive cX0_isActive 2 (some .boolean) :: TB)) := goodV ml_RX0_128 im_X0_isActive se_X0_isActive in_RX0 cd_X0_isActive
theorem gv_RX4_153 : GoodIn TB (wsV RX4 153 RX0 yX0_isActive (.code yX0_isActive cX0_isActive 2 (some .boolean) :: TB)) := goodV ml_RX4_153 im_X0_isActive se_X0_isActive in_RX0 cd_X0_isActive
theorem gv_RL_63 : GoodIn TB (wsV RL 63 RX4 yX4_column (.code yX4_column cX4_column 3 (some .long) :: TB)) := goodV ml_RL_63 im_X4_column se_X4_column in_RX4 cd_X4_column
theorem gv_RL_67 : GoodIn TB (wsV RL 67 RX4 yX4_sum (.code yX4_sum cX4_sum 2 (some .long) :: TB)) := goodV ml_RL_67 im_X4_sum se_X4_sum in_RX4 cd_X4_sum
theorem gv_RL_72 : GoodIn TB (wsV RL 72 RX4 yX4_sharing (.code yX4_sharing cX4_sharing 2 (some .int) :: TB)) := goodV ml_RL_72 im_X4_sharing se_X4_sharing in_RX4 cd_X4_sharing
theorem gv_RL_76 : GoodIn TB (wsV RL 76 RX4 yX4_share (.code yX4_share cX4_share 3 (some .long) :: TB)) := goodV ml_RL_76 im_X4_share se_X4_share in_RX4 cd_X4_share
theorem gv_RX4_179 : GoodIn TB (wsV RX4 179 RX0 yX0_shareDown (.code yX0_shareDown cX0_shareDown 2 (some .long) :: TB)) := goodV ml_RX4_179 im_X0_shareDown se_X0_shareDown in_RX0 cd_X0_shareDown
theorem gs_RX0_134 : GoodIn TB (va_wsS RX0 134 yJ9_floorDiv_f86c9 (.code yJ9_floorDiv_f86c9 cJ9_floorDiv_f86c9 6 (some .long) :: TB)) := goodS ml_RX0_134 st_J9_floorDiv_f86c9 in_RJ9 cd_J9_floorDiv_f86c9
theorem gv_RX4_183 : GoodIn TB (wsV RX4 183 RX0 yX0_shareTop (.code yX0_shareTop cX0_shareTop 2 (some .long) :: TB)) := goodV ml_RX4_183 im_X0_shareTop se_X0_shareTop in_RX0 cd_X0_shareTop
theorem gv_RX4_186 : GoodIn TB (wsV RX4 186 RX0 yX0_bottom (.code yX0_bottom cX0_bottom 1 (some .long) :: TB)) := goodV ml_RX4_186 im_X0_bottom se_X0_bottom in_RX0 cd_X0_bottom
theorem gs_RX4_190 : GoodIn TB (va_wsS RX4 190 yX4_inLowestTerms (.code yX4_inLowestTerms cX4_inLowestTerms 7 (some .long) :: TB)) := goodS ml_RX4_190 st_X4_inLowestTerms in_RX4 cd_X4_inLowestTerms
theorem gs_RX4_302 : GoodIn TB (va_wsS RX4 302 yJ9_abs_067f4 (.code yJ9_abs_067f4 cJ9_abs_067f4 2 (some .long) :: TB)) := goodS ml_RX4_302 st_J9_abs_067f4 in_RJ9 cd_J9_abs_067f4
theorem gs_RX4_306 : GoodIn TB (va_wsS RX4 306 yX4_commonDivisor (.code yX4_commonDivisor cX4_commonDivisor 7 (some .long) :: TB)) := goodS ml_RX4_306 st_X4_commonDivisor in_RX4 cd_X4_commonDivisor
theorem gv_RL_80 : GoodIn TB (wsV RL 80 RX4 yX4_press (.code yX4_press cX4_press 4 (some .long) :: TB)) := goodV ml_RL_80 im_X4_press se_X4_press in_RX4 cd_X4_press
theorem gv_RX4_198 : GoodIn TB (wsV RX4 198 RX1 yX1_topAt (.code yX1_topAt cX1_topAt 3 (some .long) :: TB)) := goodV ml_RX4_198 im_X1_topAt se_X1_topAt in_RX1 cd_X1_topAt
theorem gv_RL_85 : GoodIn TB (wsV RL 85 RX4 yX4_most (.code yX4_most cX4_most 2 (some .long) :: TB)) := goodV ml_RL_85 im_X4_most se_X4_most in_RX4 cd_X4_most
theorem gv_RX4_206 : GoodIn TB (wsV RX4 206 RX4 yX4_greatestUse (.code yX4_greatestUse cX4_greatestUse 2 (some .long) :: TB)) := goodV ml_RX4_206 im_X4_greatestUse se_X4_greatestUse in_RX4 cd_X4_greatestUse
theorem gv_RX4_209 : GoodIn TB (wsV RX4 209 RX0 yX0_useTop (.code yX0_useTop cX0_useTop 1 (some .long) :: TB)) := goodV ml_RX4_209 im_X0_useTop se_X0_useTop in_RX0 cd_X0_useTop
theorem gv_RX4_212 : GoodIn TB (wsV RX4 212 RX0 yX0_useBottom (.code yX0_useBottom cX0_useBottom 1 (some .long) :: TB)) := goodV ml_RX4_212 im_X0_useBottom se_X0_useBottom in_RX0 cd_X0_useBottom
theorem gv_RL_89 : GoodIn TB (wsV RL 89 RX4 yX4_factor (.code yX4_factor cX4_factor 2 (some .long) :: TB)) := goodV ml_RL_89 im_X4_factor se_X4_factor in_RX4 cd_X4_factor
theorem gv_RL_93 : GoodIn TB (wsV RL 93 RX4 yX4_kern (.code yX4_kern cX4_kern 3 (some .int) :: TB)) := goodV ml_RL_93 im_X4_kern se_X4_kern in_RX4 cd_X4_kern
theorem gv_RX4_215 : GoodIn TB (wsV RX4 215 RX4 yX4_bracePresent (.code yX4_bracePresent cX4_bracePresent 1 (some .boolean) :: TB)) := goodV ml_RX4_215 im_X4_bracePresent se_X4_bracePresent in_RX4 cd_X4_bracePresent
theorem gv_RX4_289 : GoodIn TB (wsV RX4 289 RX0 yX0_braceAll (.code yX0_braceAll cX0_braceAll 2 (some .boolean) :: TB)) := goodV ml_RX4_289 im_X0_braceAll se_X0_braceAll in_RX0 cd_X0_braceAll
theorem gv_RX4_219 : GoodIn TB (wsV RX4 219 RX0 yX0_pullsNoPile (.code yX0_pullsNoPile cX0_pullsNoPile 3 (some .boolean) :: TB)) := goodV ml_RX4_219 im_X0_pullsNoPile se_X0_pullsNoPile in_RX0 cd_X0_pullsNoPile
theorem gv_RL_97 : GoodIn TB (wsV RL 97 RX4 yX4_kerns (.code yX4_kerns cX4_kerns 5 (some .int) :: TB)) := goodV ml_RL_97 im_X4_kerns se_X4_kerns in_RX4 cd_X4_kerns
theorem gs_RX4_222 : GoodIn TB (va_wsS RX4 222 yX4_xOf (.code yX4_xOf cX4_xOf 1 (some .int) :: TB)) := goodS ml_RX4_222 st_X4_xOf in_RX4 cd_X4_xOf
theorem gs_RX4_225 : GoodIn TB (va_wsS RX4 225 yX4_yOf (.code yX4_yOf cX4_yOf 1 (some .int) :: TB)) := goodS ml_RX4_225 st_X4_yOf in_RX4 cd_X4_yOf
theorem gv_RL_101 : GoodIn TB (wsV RL 101 RX4 yX4_without (.code yX4_without cX4_without 3 (some .long) :: TB)) := goodV ml_RL_101 im_X4_without se_X4_without in_RX4 cd_X4_without
theorem gv_RL_105 : GoodIn TB (wsV RL 105 RX4 yX4_key (.code yX4_key cX4_key 7 (some .int) :: TB)) := goodV ml_RL_105 im_X4_key se_X4_key in_RX4 cd_X4_key
theorem gs_RX4_237 : GoodIn TB (va_wsS RX4 237 yX4_compareFractions (.code yX4_compareFractions cX4_compareFractions 18 (some .int) :: TB)) := goodS ml_RX4_237 st_X4_compareFractions in_RX4 cd_X4_compareFractions
theorem gs_RX4_310 : GoodIn TB (va_wsS RX4 310 yJ13_compare_74951 (.code yJ13_compare_74951 cJ13_compare_74951 4 (some .int) :: TB)) := goodS ml_RX4_310 st_J13_compare_74951 in_RJ13 cd_J13_compare_74951
theorem gv_RL_109 : GoodIn TB (wsV RL 109 RX4 yX4_extra (.code yX4_extra cX4_extra 11 (some .int) :: TB)) := goodV ml_RL_109 im_X4_extra se_X4_extra in_RX4 cd_X4_extra
theorem gv_RX4_241 : GoodIn TB (wsV RX4 241 RX0 yX0_beginWith (.code yX0_beginWith cX0_beginWith 3 none :: TB)) := goodV ml_RX4_241 im_X0_beginWith se_X0_beginWith in_RX0 cd_X0_beginWith
theorem gv_RX4_244 : GoodIn TB (wsV RX4 244 RX0 yX0_putFurther (.code yX0_putFurther cX0_putFurther 5 none :: TB)) := goodV ml_RX4_244 im_X0_putFurther se_X0_putFurther in_RX0 cd_X0_putFurther
theorem gv_RX4_247 : GoodIn TB (wsV RX4 247 RX0 yX0_settle (.code yX0_settle cX0_settle 3 none :: TB)) := goodV ml_RX4_247 im_X0_settle se_X0_settle in_RX0 cd_X0_settle
theorem gv_RX4_250 : GoodIn TB (wsV RX4 250 RX0 yX0_takeFurtherAway (.code yX0_takeFurtherAway cX0_takeFurtherAway 1 none :: TB)) := goodV ml_RX4_250 im_X0_takeFurtherAway se_X0_takeFurtherAway in_RX0 cd_X0_takeFurtherAway
theorem gv_RL_113 : GoodIn TB (wsV RL 113 RX4 yX4_odds (.code yX4_odds cX4_odds 8 (some .int) :: TB)) := goodV ml_RL_113 im_X4_odds se_X4_odds in_RX4 cd_X4_odds
theorem gs_RX4_253 : GoodIn TB (va_wsS RX4 253 yX4_power (.code yX4_power cX4_power 4 (some .int) :: TB)) := goodS ml_RX4_253 st_X4_power in_RX4 cd_X4_power
theorem gv_RX4_257 : GoodIn TB (wsV RX4 257 RX4 yX4_standsOn (.code yX4_standsOn cX4_standsOn 2 (some .boolean) :: TB)) := goodV ml_RX4_257 im_X4_standsOn se_X4_standsOn in_RX4 cd_X4_standsOn
theorem gv_RL_117 : GoodIn TB (wsV RL 117 RX4 yX4_hunts (.code yX4_hunts cX4_hunts 2 (some .int) :: TB)) := goodV ml_RL_117 im_X4_hunts se_X4_hunts in_RX4 cd_X4_hunts
theorem gv_RX4_260 : GoodIn TB (wsV RX4 260 RX4 yX4_dropSights (.code yX4_dropSights cX4_dropSights 2 (some .int) :: TB)) := goodV ml_RX4_260 im_X4_dropSights se_X4_dropSights in_RX4 cd_X4_dropSights
theorem gv_RL_121 : GoodIn TB (wsV RL 121 RX4 yX4_sees (.code yX4_sees cX4_sees 3 (some .int) :: TB)) := goodV ml_RL_121 im_X4_sees se_X4_sees in_RX4 cd_X4_sees
theorem gv_RL_125 : GoodIn TB (wsV RL 125 RX4 yX4_forget (.code yX4_forget cX4_forget 1 (some .int) :: TB)) := goodV ml_RL_125 im_X4_forget se_X4_forget in_RX4 cd_X4_forget
theorem gv_RL_129 : GoodIn TB (wsV RL 129 RX4 yX4_spots (.code yX4_spots cX4_spots 5 (some .int) :: TB)) := goodV ml_RL_129 im_X4_spots se_X4_spots in_RX4 cd_X4_spots
theorem gv_RX4_267 : GoodIn TB (wsV RX4 267 RX4 yX4_isSpot (.code yX4_isSpot cX4_isSpot 3 (some .boolean) :: TB)) := goodV ml_RX4_267 im_X4_isSpot se_X4_isSpot in_RX4 cd_X4_isSpot
theorem gv_RL_133 : GoodIn TB (wsV RL 133 RX4 yX4_ask (.code yX4_ask cX4_ask 3 (some .int) :: TB)) := goodV ml_RL_133 im_X4_ask se_X4_ask in_RX4 cd_X4_ask
theorem gs_RX4_270 : GoodIn TB (va_wsS RX4 270 yJ7_fill_53178 (.code yJ7_fill_53178 cJ7_fill_53178 4 none :: TB)) := goodS ml_RX4_270 st_J7_fill_53178 in_RJ7 cd_J7_fill_53178
theorem gv_RX4_276 : GoodIn TB (wsV RX4 276 RX4 yX4_groupShares (.code yX4_groupShares cX4_groupShares 4 none :: TB)) := goodV ml_RX4_276 im_X4_groupShares se_X4_groupShares in_RX4 cd_X4_groupShares
theorem gv_RX4_279 : GoodIn TB (wsV RX4 279 RX4 yX4_pileWithSmallestLargestGroup (.code yX4_pileWithSmallestLargestGroup cX4_pileWithSmallestLargestGroup 6 (some .int) :: TB)) := goodV ml_RX4_279 im_X4_pileWithSmallestLargestGroup se_X4_pileWithSmallestLargestGroup in_RX4 cd_X4_pileWithSmallestLargestGroup
theorem gs_RX4_297 : GoodIn TB (va_wsS RX4 297 yJ9_max_7cf53 (.code yJ9_max_7cf53 cJ9_max_7cf53 2 (some .int) :: TB)) := goodS ml_RX4_297 st_J9_max_7cf53 in_RJ9 cd_J9_max_7cf53
theorem gv_RL_137 : GoodIn TB (wsV RL 137 RX4 yX4_keep (.code yX4_keep cX4_keep 2 (some .int) :: TB)) := goodV ml_RL_137 im_X4_keep se_X4_keep in_RX4 cd_X4_keep
theorem gv_RL_141 : GoodIn TB (wsV RL 141 RX4 yX4_back (.code yX4_back cX4_back 2 (some .int) :: TB)) := goodV ml_RL_141 im_X4_back se_X4_back in_RX4 cd_X4_back
theorem gv_RL_145 : GoodIn TB (wsV RL 145 RX4 yX4_count (.code yX4_count cX4_count 2 (some .int) :: TB)) := goodV ml_RL_145 im_X4_count se_X4_count in_RX4 cd_X4_count
theorem gv_RL_17 : GoodIn TB (wsV RL 17 RX5 yX5_type (.code yX5_type cX5_type 2 (some .int) :: TB)) := goodV ml_RL_17 im_X5_type se_X5_type in_RX5 cd_X5_type
theorem gs_RX5_57 : GoodIn TB (va_wsS RX5 57 yX5_in (.code yX5_in cX5_in 3 (some .boolean) :: TB)) := goodS ml_RX5_57 st_X5_in in_RX5 cd_X5_in
theorem gv_RL_22 : GoodIn TB (wsV RL 22 RX5 yX5_clear (.code yX5_clear cX5_clear 2 (some .int) :: TB)) := goodV ml_RL_22 im_X5_clear se_X5_clear in_RX5 cd_X5_clear
theorem gv_RL_26 : GoodIn TB (wsV RL 26 RX5 yX5_tells (.code yX5_tells cX5_tells 3 (some .int) :: TB)) := goodV ml_RL_26 im_X5_tells se_X5_tells in_RX5 cd_X5_tells
theorem gv_RX5_87 : GoodIn TB (wsV RX5 87 RX5 yX5_next (.code yX5_next cX5_next 2 none :: TB)) := goodV ml_RX5_87 im_X5_next se_X5_next in_RX5 cd_X5_next
theorem gv_RX5_73 : GoodIn TB (wsV RX5 73 RX5 yX5_isFigure (.code yX5_isFigure cX5_isFigure 1 (some .boolean) :: TB)) := goodV ml_RX5_73 im_X5_isFigure se_X5_isFigure in_RX5 cd_X5_isFigure
theorem gv_RX5_102 : GoodIn TB (wsV RX5 102 RX5 yX5_readsPile (.code yX5_readsPile cX5_readsPile 2 none :: TB)) := goodV ml_RX5_102 im_X5_readsPile se_X5_readsPile in_RX5 cd_X5_readsPile
theorem gv_RX5_83 : GoodIn TB (wsV RX5 83 RX5 yX5_due (.code yX5_due cX5_due 2 none :: TB)) := goodV ml_RX5_83 im_X5_due se_X5_due in_RX5 cd_X5_due
theorem gv_RX5_90 : GoodIn TB (wsV RX5 90 RX5 yX5_reads (.code yX5_reads cX5_reads 5 none :: TB)) := goodV ml_RX5_90 im_X5_reads se_X5_reads in_RX5 cd_X5_reads
theorem gv_RX5_94 : GoodIn TB (wsV RX5 94 RX5 yX5_isTakenByDraft (.code yX5_isTakenByDraft cX5_isTakenByDraft 5 (some .boolean) :: TB)) := goodV ml_RX5_94 im_X5_isTakenByDraft se_X5_isTakenByDraft in_RX5 cd_X5_isTakenByDraft
theorem gv_RX5_105 : GoodIn TB (wsV RX5 105 RX5 yX5_readsColumn (.code yX5_readsColumn cX5_readsColumn 2 none :: TB)) := goodV ml_RX5_105 im_X5_readsColumn se_X5_readsColumn in_RX5 cd_X5_readsColumn
theorem gv_RX5_108 : GoodIn TB (wsV RX5 108 RX5 yX5_readsWind (.code yX5_readsWind cX5_readsWind 1 none :: TB)) := goodV ml_RX5_108 im_X5_readsWind se_X5_readsWind in_RX5 cd_X5_readsWind
theorem gv_RL_31 : GoodIn TB (wsV RL 31 RX5 yX5_drives (.code yX5_drives cX5_drives 6 (some .int) :: TB)) := goodV ml_RL_31 im_X5_drives se_X5_drives in_RX5 cd_X5_drives
theorem gs_RX5_121 : GoodIn TB (va_wsS RX5 121 yX5_isPlace (.code yX5_isPlace cX5_isPlace 2 (some .boolean) :: TB)) := goodS ml_RX5_121 st_X5_isPlace in_RX5 cd_X5_isPlace
theorem gs_RX5_124 : GoodIn TB (va_wsS RX5 124 yX5_isKind (.code yX5_isKind cX5_isKind 2 (some .boolean) :: TB)) := goodS ml_RX5_124 st_X5_isKind in_RX5 cd_X5_isKind
theorem gv_RX5_127 : GoodIn TB (wsV RX5 127 RX5 yX5_isTaken (.code yX5_isTaken cX5_isTaken 5 (some .boolean) :: TB)) := goodV ml_RX5_127 im_X5_isTaken se_X5_isTaken in_RX5 cd_X5_isTaken
theorem gv_RX5_117 : GoodIn TB (wsV RX5 117 RX5 yX5_ofPile (.code yX5_ofPile cX5_ofPile 3 (some .int) :: TB)) := goodV ml_RX5_117 im_X5_ofPile se_X5_ofPile in_RX5 cd_X5_ofPile
theorem gv_RX5_130 : GoodIn TB (wsV RX5 130 RX5 yX5_notes (.code yX5_notes cX5_notes 2 none :: TB)) := goodV ml_RX5_130 im_X5_notes se_X5_notes in_RX5 cd_X5_notes
theorem gv_RL_35 : GoodIn TB (wsV RL 35 RX5 yX5_loses (.code yX5_loses cX5_loses 2 (some .int) :: TB)) := goodV ml_RL_35 im_X5_loses se_X5_loses in_RX5 cd_X5_loses
theorem gv_RX5_141 : GoodIn TB (wsV RX5 141 RX5 yX5_becomes (.code yX5_becomes cX5_becomes 3 (some .int) :: TB)) := goodV ml_RX5_141 im_X5_becomes se_X5_becomes in_RX5 cd_X5_becomes
theorem gv_RX5_133 : GoodIn TB (wsV RX5 133 RX5 yX5_isPile (.code yX5_isPile cX5_isPile 2 (some .boolean) :: TB)) := goodV ml_RX5_133 im_X5_isPile se_X5_isPile in_RX5 cd_X5_isPile
theorem gv_RX5_137 : GoodIn TB (wsV RX5 137 RX5 yX5_wholes (.code yX5_wholes cX5_wholes 3 (some .int) :: TB)) := goodV ml_RX5_137 im_X5_wholes se_X5_wholes in_RX5 cd_X5_wholes
theorem gv_RL_39 : GoodIn TB (wsV RL 39 RX5 yX5_mends (.code yX5_mends cX5_mends 2 (some .int) :: TB)) := goodV ml_RL_39 im_X5_mends se_X5_mends in_RX5 cd_X5_mends
theorem gv_RL_44 : GoodIn TB (wsV RL 44 RX5 yX5_loads (.code yX5_loads cX5_loads 4 (some .int) :: TB)) := goodV ml_RL_44 im_X5_loads se_X5_loads in_RX5 cd_X5_loads
theorem gv_RX5_144 : GoodIn TB (wsV RX5 144 RX5 yX5_isColumn (.code yX5_isColumn cX5_isColumn 2 (some .boolean) :: TB)) := goodV ml_RX5_144 im_X5_isColumn se_X5_isColumn in_RX5 cd_X5_isColumn
theorem gv_RX5_147 : GoodIn TB (wsV RX5 147 RX5 yX5_ofColumn (.code yX5_ofColumn cX5_ofColumn 3 (some .int) :: TB)) := goodV ml_RX5_147 im_X5_ofColumn se_X5_ofColumn in_RX5 cd_X5_ofColumn
theorem gv_RL_49 : GoodIn TB (wsV RL 49 RX5 yX5_moves (.code yX5_moves cX5_moves 4 (some .int) :: TB)) := goodV ml_RL_49 im_X5_moves se_X5_moves in_RX5 cd_X5_moves
theorem gv_RL_53 : GoodIn TB (wsV RL 53 RX5 yX5_winds (.code yX5_winds cX5_winds 3 (some .int) :: TB)) := goodV ml_RL_53 im_X5_winds se_X5_winds in_RX5 cd_X5_winds
theorem gv_RL_57 : GoodIn TB (wsV RL 57 RX5 yX5_undo (.code yX5_undo cX5_undo 2 (some .int) :: TB)) := goodV ml_RL_57 im_X5_undo se_X5_undo in_RX5 cd_X5_undo
theorem gv_RL_62 : GoodIn TB (wsV RL 62 RX5 yX5_pile (.code yX5_pile cX5_pile 3 (some .long) :: TB)) := goodV ml_RL_62 im_X5_pile se_X5_pile in_RX5 cd_X5_pile
theorem gv_RX5_239 : GoodIn TB (wsV RX5 239 RX5 yX5_sharesNow (.code yX5_sharesNow cX5_sharesNow 1 none :: TB)) := goodV ml_RX5_239 im_X5_sharesNow se_X5_sharesNow in_RX5 cd_X5_sharesNow
theorem gv_RX5_211 : GoodIn TB (wsV RX5 211 RX5 yX5_laysPiles (.code yX5_laysPiles cX5_laysPiles 2 none :: TB)) := goodV ml_RX5_211 im_X5_laysPiles se_X5_laysPiles in_RX5 cd_X5_laysPiles
theorem gv_RX5_214 : GoodIn TB (wsV RX5 214 RX5 yX5_laysSums (.code yX5_laysSums cX5_laysSums 1 none :: TB)) := goodV ml_RX5_214 im_X5_laysSums se_X5_laysSums in_RX5 cd_X5_laysSums
theorem gv_RX5_156 : GoodIn TB (wsV RX5 156 RX5 yX5_sumOf (.code yX5_sumOf cX5_sumOf 5 (some .long) :: TB)) := goodV ml_RX5_156 im_X5_sumOf se_X5_sumOf in_RX5 cd_X5_sumOf
theorem gv_RX5_217 : GoodIn TB (wsV RX5 217 RX5 yX5_shares (.code yX5_shares cX5_shares 3 none :: TB)) := goodV ml_RX5_217 im_X5_shares se_X5_shares in_RX5 cd_X5_shares
theorem gv_RX5_202 : GoodIn TB (wsV RX5 202 RX5 yX5_isSteady (.code yX5_isSteady cX5_isSteady 15 (some .boolean) :: TB)) := goodV ml_RX5_202 im_X5_isSteady se_X5_isSteady in_RX5 cd_X5_isSteady
theorem gs_RX5_170 : GoodIn TB (va_wsS RX5 170 yX5_det (.code yX5_det cX5_det 18 (some .long) :: TB)) := goodS ml_RX5_170 st_X5_det in_RX5 cd_X5_det
theorem gv_RX5_205 : GoodIn TB (wsV RX5 205 RX5 yX5_goesOut (.code yX5_goesOut cX5_goesOut 3 (some .int) :: TB)) := goodV ml_RX5_205 im_X5_goesOut se_X5_goesOut in_RX5 cd_X5_goesOut
theorem gv_RX5_193 : GoodIn TB (wsV RX5 193 RX5 yX5_bears (.code yX5_bears cX5_bears 2 (some .long) :: TB)) := goodV ml_RX5_193 im_X5_bears se_X5_bears in_RX5 cd_X5_bears
theorem gv_RX5_189 : GoodIn TB (wsV RX5 189 RX5 yX5_pressAt (.code yX5_pressAt cX5_pressAt 3 (some .long) :: TB)) := goodV ml_RX5_189 im_X5_pressAt se_X5_pressAt in_RX5 cd_X5_pressAt
theorem gv_RX5_208 : GoodIn TB (wsV RX5 208 RX5 yX5_comesIn (.code yX5_comesIn cX5_comesIn 5 (some .int) :: TB)) := goodV ml_RX5_208 im_X5_comesIn se_X5_comesIn in_RX5 cd_X5_comesIn
theorem gv_RL_66 : GoodIn TB (wsV RL 66 RX5 yX5_column (.code yX5_column cX5_column 3 (some .long) :: TB)) := goodV ml_RL_66 im_X5_column se_X5_column in_RX5 cd_X5_column
theorem gv_RL_71 : GoodIn TB (wsV RL 71 RX5 yX5_sum (.code yX5_sum cX5_sum 2 (some .long) :: TB)) := goodV ml_RL_71 im_X5_sum se_X5_sum in_RX5 cd_X5_sum
theorem gv_RL_75 : GoodIn TB (wsV RL 75 RX5 yX5_sharing (.code yX5_sharing cX5_sharing 2 (some .int) :: TB)) := goodV ml_RL_75 im_X5_sharing se_X5_sharing in_RX5 cd_X5_sharing
theorem gv_RL_79 : GoodIn TB (wsV RL 79 RX5 yX5_share (.code yX5_share cX5_share 3 (some .long) :: TB)) := goodV ml_RL_79 im_X5_share se_X5_share in_RX5 cd_X5_share
theorem gs_RX5_233 : GoodIn TB (va_wsS RX5 233 yX5_part (.code yX5_part cX5_part 7 (some .long) :: TB)) := goodS ml_RX5_233 st_X5_part in_RX5 cd_X5_part
theorem gs_RX5_220 : GoodIn TB (va_wsS RX5 220 yX5_common (.code yX5_common cX5_common 10 (some .long) :: TB)) := goodS ml_RX5_220 st_X5_common in_RX5 cd_X5_common
theorem gv_RL_84 : GoodIn TB (wsV RL 84 RX5 yX5_press (.code yX5_press cX5_press 4 (some .long) :: TB)) := goodV ml_RL_84 im_X5_press se_X5_press in_RX5 cd_X5_press
theorem gv_RL_88 : GoodIn TB (wsV RL 88 RX5 yX5_most (.code yX5_most cX5_most 2 (some .long) :: TB)) := goodV ml_RL_88 im_X5_most se_X5_most in_RX5 cd_X5_most
theorem gv_RX5_248 : GoodIn TB (wsV RX5 248 RX5 yX5_laysMost (.code yX5_laysMost cX5_laysMost 2 (some .boolean) :: TB)) := goodV ml_RX5_248 im_X5_laysMost se_X5_laysMost in_RX5 cd_X5_laysMost
theorem gv_RX5_251 : GoodIn TB (wsV RX5 251 RX5 yX5_tellsMost (.code yX5_tellsMost cX5_tellsMost 2 (some .long) :: TB)) := goodV ml_RX5_251 im_X5_tellsMost se_X5_tellsMost in_RX5 cd_X5_tellsMost
theorem gv_RL_92 : GoodIn TB (wsV RL 92 RX5 yX5_factor (.code yX5_factor cX5_factor 2 (some .long) :: TB)) := goodV ml_RL_92 im_X5_factor se_X5_factor in_RX5 cd_X5_factor
theorem gv_RL_96 : GoodIn TB (wsV RL 96 RX5 yX5_kern (.code yX5_kern cX5_kern 3 (some .int) :: TB)) := goodV ml_RL_96 im_X5_kern se_X5_kern in_RX5 cd_X5_kern
theorem gv_RX5_258 : GoodIn TB (wsV RX5 258 RX5 yX5_isKern (.code yX5_isKern cX5_isKern 3 (some .int) :: TB)) := goodV ml_RX5_258 im_X5_isKern se_X5_isKern in_RX5 cd_X5_isKern
theorem gv_RX5_254 : GoodIn TB (wsV RX5 254 RX5 yX5_laysLoad (.code yX5_laysLoad cX5_laysLoad 4 none :: TB)) := goodV ml_RX5_254 im_X5_laysLoad se_X5_laysLoad in_RX5 cd_X5_laysLoad
theorem gv_RL_100 : GoodIn TB (wsV RL 100 RX5 yX5_kerns (.code yX5_kerns cX5_kerns 6 (some .int) :: TB)) := goodV ml_RL_100 im_X5_kerns se_X5_kerns in_RX5 cd_X5_kerns
theorem gv_RL_104 : GoodIn TB (wsV RL 104 RX5 yX5_without (.code yX5_without cX5_without 3 (some .long) :: TB)) := goodV ml_RL_104 im_X5_without se_X5_without in_RX5 cd_X5_without
theorem gv_RX5_263 : GoodIn TB (wsV RX5 263 RX5 yX5_laysWithout (.code yX5_laysWithout cX5_laysWithout 2 (some .boolean) :: TB)) := goodV ml_RX5_263 im_X5_laysWithout se_X5_laysWithout in_RX5 cd_X5_laysWithout
theorem gv_RL_108 : GoodIn TB (wsV RL 108 RX5 yX5_key (.code yX5_key cX5_key 7 (some .int) :: TB)) := goodV ml_RL_108 im_X5_key se_X5_key in_RX5 cd_X5_key
theorem gs_RX5_266 : GoodIn TB (va_wsS RX5 266 yX5_against (.code yX5_against cX5_against 23 (some .int) :: TB)) := goodS ml_RX5_266 st_X5_against in_RX5 cd_X5_against
theorem gv_RL_112 : GoodIn TB (wsV RL 112 RX5 yX5_extra (.code yX5_extra cX5_extra 11 (some .int) :: TB)) := goodV ml_RL_112 im_X5_extra se_X5_extra in_RX5 cd_X5_extra
theorem gv_RL_116 : GoodIn TB (wsV RL 116 RX5 yX5_odds (.code yX5_odds cX5_odds 12 (some .int) :: TB)) := goodV ml_RL_116 im_X5_odds se_X5_odds in_RX5 cd_X5_odds
theorem gv_RL_120 : GoodIn TB (wsV RL 120 RX5 yX5_hunts (.code yX5_hunts cX5_hunts 3 (some .int) :: TB)) := goodV ml_RL_120 im_X5_hunts se_X5_hunts in_RX5 cd_X5_hunts
theorem gv_RL_124 : GoodIn TB (wsV RL 124 RX5 yX5_sees (.code yX5_sees cX5_sees 3 (some .int) :: TB)) := goodV ml_RL_124 im_X5_sees se_X5_sees in_RX5 cd_X5_sees
theorem gv_RL_128 : GoodIn TB (wsV RL 128 RX5 yX5_forget (.code yX5_forget cX5_forget 2 (some .int) :: TB)) := goodV ml_RL_128 im_X5_forget se_X5_forget in_RX5 cd_X5_forget
theorem gv_RL_132 : GoodIn TB (wsV RL 132 RX5 yX5_spots (.code yX5_spots cX5_spots 2 (some .int) :: TB)) := goodV ml_RL_132 im_X5_spots se_X5_spots in_RX5 cd_X5_spots
theorem gv_RX5_281 : GoodIn TB (wsV RX5 281 RX5 yX5_laysSpots (.code yX5_laysSpots cX5_laysSpots 3 none :: TB)) := goodV ml_RX5_281 im_X5_laysSpots se_X5_laysSpots in_RX5 cd_X5_laysSpots
theorem gv_RX5_278 : GoodIn TB (wsV RX5 278 RX5 yX5_isSo (.code yX5_isSo cX5_isSo 4 (some .boolean) :: TB)) := goodV ml_RX5_278 im_X5_isSo se_X5_isSo in_RX5 cd_X5_isSo
theorem gv_RL_136 : GoodIn TB (wsV RL 136 RX5 yX5_ask (.code yX5_ask cX5_ask 5 (some .int) :: TB)) := goodV ml_RL_136 im_X5_ask se_X5_ask in_RX5 cd_X5_ask
theorem gv_RX5_284 : GoodIn TB (wsV RX5 284 RX5 yX5_mostAlike (.code yX5_mostAlike cX5_mostAlike 5 (some .int) :: TB)) := goodV ml_RX5_284 im_X5_mostAlike se_X5_mostAlike in_RX5 cd_X5_mostAlike
theorem gv_RL_140 : GoodIn TB (wsV RL 140 RX5 yX5_keep (.code yX5_keep cX5_keep 3 (some .int) :: TB)) := goodV ml_RL_140 im_X5_keep se_X5_keep in_RX5 cd_X5_keep
theorem gv_RL_144 : GoodIn TB (wsV RL 144 RX5 yX5_back (.code yX5_back cX5_back 3 (some .int) :: TB)) := goodV ml_RL_144 im_X5_back se_X5_back in_RX5 cd_X5_back
theorem gv_RL_148 : GoodIn TB (wsV RL 148 RX5 yX5_count (.code yX5_count cX5_count 2 (some .int) :: TB)) := goodV ml_RL_148 im_X5_count se_X5_count in_RX5 cd_X5_count
end
section
theorem inRange {f : Nat → Cond} {N : Nat} (h : ∀ k, k < N → f k ∈ TB) : ∀ w ∈ (List.range N).map f, w ∈ TB := by
  intro w hw
  obtain ⟨k, hk, rfl⟩ := List.mem_map.mp hw
  exact h k (List.mem_range.mp hk)
theorem ly_0_0 : u_lay RX0 TX0 0 ∈ TB := tbm 258 (by decide +kernel) (by decide +kernel)
theorem ly_0_1 : u_lay RX0 TX0 1 ∈ TB := tbm 260 (by decide +kernel) (by decide +kernel)
theorem ly_0_2 : u_lay RX0 TX0 2 ∈ TB := tbm 262 (by decide +kernel) (by decide +kernel)
theorem ly_0_3 : u_lay RX0 TX0 3 ∈ TB := tbm 264 (by decide +kernel) (by decide +kernel)
theorem ly_0_4 : u_lay RX0 TX0 4 ∈ TB := tbm 266 (by decide +kernel) (by decide +kernel)
theorem ly_0_5 : u_lay RX0 TX0 5 ∈ TB := tbm 268 (by decide +kernel) (by decide +kernel)
theorem ly_0_6 : u_lay RX0 TX0 6 ∈ TB := tbm 270 (by decide +kernel) (by decide +kernel)
theorem ly_0_7 : u_lay RX0 TX0 7 ∈ TB := tbm 272 (by decide +kernel) (by decide +kernel)
theorem ly_0_8 : u_lay RX0 TX0 8 ∈ TB := tbm 274 (by decide +kernel) (by decide +kernel)
theorem ly_0_9 : u_lay RX0 TX0 9 ∈ TB := tbm 276 (by decide +kernel) (by decide +kernel)
theorem ly_0_10 : u_lay RX0 TX0 10 ∈ TB := tbm 278 (by decide +kernel) (by decide +kernel)
theorem ly_0_11 : u_lay RX0 TX0 11 ∈ TB := tbm 280 (by decide +kernel) (by decide +kernel)
theorem ly_0_12 : u_lay RX0 TX0 12 ∈ TB := tbm 282 (by decide +kernel) (by decide +kernel)
theorem ly_0_13 : u_lay RX0 TX0 13 ∈ TB := tbm 284 (by decide +kernel) (by decide +kernel)
theorem ly_0_14 : u_lay RX0 TX0 14 ∈ TB := tbm 286 (by decide +kernel) (by decide +kernel)
theorem iX0 : ∀ w ∈ u_ws RX0 TX0 15, w ∈ TB := inRange fun k hk => match k, hk with
  | 0, _ => ly_0_0
  | 1, _ => ly_0_1
  | 2, _ => ly_0_2
  | 3, _ => ly_0_3
  | 4, _ => ly_0_4
  | 5, _ => ly_0_5
  | 6, _ => ly_0_6
  | 7, _ => ly_0_7
  | 8, _ => ly_0_8
  | 9, _ => ly_0_9
  | 10, _ => ly_0_10
  | 11, _ => ly_0_11
  | 12, _ => ly_0_12
  | 13, _ => ly_0_13
  | 14, _ => ly_0_14
  | k + 15, h => absurd h (by omega)
theorem ly_1_0 : u_lay RX1 TX1 0 ∈ TB := tbm 203 (by decide +kernel) (by decide +kernel)
theorem ly_1_1 : u_lay RX1 TX1 1 ∈ TB := tbm 205 (by decide +kernel) (by decide +kernel)
theorem ly_1_2 : u_lay RX1 TX1 2 ∈ TB := tbm 207 (by decide +kernel) (by decide +kernel)
theorem ly_1_3 : u_lay RX1 TX1 3 ∈ TB := tbm 209 (by decide +kernel) (by decide +kernel)
theorem ly_1_4 : u_lay RX1 TX1 4 ∈ TB := tbm 211 (by decide +kernel) (by decide +kernel)
theorem ly_1_5 : u_lay RX1 TX1 5 ∈ TB := tbm 213 (by decide +kernel) (by decide +kernel)
theorem ly_1_6 : u_lay RX1 TX1 6 ∈ TB := tbm 215 (by decide +kernel) (by decide +kernel)
theorem ly_1_7 : u_lay RX1 TX1 7 ∈ TB := tbm 217 (by decide +kernel) (by decide +kernel)
theorem ly_1_8 : u_lay RX1 TX1 8 ∈ TB := tbm 219 (by decide +kernel) (by decide +kernel)
theorem ly_1_9 : u_lay RX1 TX1 9 ∈ TB := tbm 221 (by decide +kernel) (by decide +kernel)
theorem ly_1_10 : u_lay RX1 TX1 10 ∈ TB := tbm 223 (by decide +kernel) (by decide +kernel)
theorem ly_1_11 : u_lay RX1 TX1 11 ∈ TB := tbm 225 (by decide +kernel) (by decide +kernel)
theorem ly_1_12 : u_lay RX1 TX1 12 ∈ TB := tbm 227 (by decide +kernel) (by decide +kernel)
theorem ly_1_13 : u_lay RX1 TX1 13 ∈ TB := tbm 229 (by decide +kernel) (by decide +kernel)
theorem ly_1_14 : u_lay RX1 TX1 14 ∈ TB := tbm 231 (by decide +kernel) (by decide +kernel)
theorem ly_1_15 : u_lay RX1 TX1 15 ∈ TB := tbm 233 (by decide +kernel) (by decide +kernel)
theorem iX1 : ∀ w ∈ u_ws RX1 TX1 16, w ∈ TB := inRange fun k hk => match k, hk with
  | 0, _ => ly_1_0
  | 1, _ => ly_1_1
  | 2, _ => ly_1_2
  | 3, _ => ly_1_3
  | 4, _ => ly_1_4
  | 5, _ => ly_1_5
  | 6, _ => ly_1_6
  | 7, _ => ly_1_7
  | 8, _ => ly_1_8
  | 9, _ => ly_1_9
  | 10, _ => ly_1_10
  | 11, _ => ly_1_11
  | 12, _ => ly_1_12
  | 13, _ => ly_1_13
  | 14, _ => ly_1_14
  | 15, _ => ly_1_15
  | k + 16, h => absurd h (by omega)
theorem ly_2_0 : u_lay RX2 TX2 0 ∈ TB := tbm 158 (by decide +kernel) (by decide +kernel)
theorem ly_2_1 : u_lay RX2 TX2 1 ∈ TB := tbm 160 (by decide +kernel) (by decide +kernel)
theorem ly_2_2 : u_lay RX2 TX2 2 ∈ TB := tbm 162 (by decide +kernel) (by decide +kernel)
theorem ly_2_3 : u_lay RX2 TX2 3 ∈ TB := tbm 164 (by decide +kernel) (by decide +kernel)
theorem ly_2_4 : u_lay RX2 TX2 4 ∈ TB := tbm 166 (by decide +kernel) (by decide +kernel)
theorem ly_2_5 : u_lay RX2 TX2 5 ∈ TB := tbm 168 (by decide +kernel) (by decide +kernel)
theorem ly_2_6 : u_lay RX2 TX2 6 ∈ TB := tbm 170 (by decide +kernel) (by decide +kernel)
theorem iX2 : ∀ w ∈ u_ws RX2 TX2 7, w ∈ TB := inRange fun k hk => match k, hk with
  | 0, _ => ly_2_0
  | 1, _ => ly_2_1
  | 2, _ => ly_2_2
  | 3, _ => ly_2_3
  | 4, _ => ly_2_4
  | 5, _ => ly_2_5
  | 6, _ => ly_2_6
  | k + 7, h => absurd h (by omega)
theorem ly_3_0 : u_lay RX3 TX3 0 ∈ TB := tbm 118 (by decide +kernel) (by decide +kernel)
theorem ly_3_1 : u_lay RX3 TX3 1 ∈ TB := tbm 120 (by decide +kernel) (by decide +kernel)
theorem ly_3_2 : u_lay RX3 TX3 2 ∈ TB := tbm 122 (by decide +kernel) (by decide +kernel)
theorem ly_3_3 : u_lay RX3 TX3 3 ∈ TB := tbm 124 (by decide +kernel) (by decide +kernel)
theorem ly_3_4 : u_lay RX3 TX3 4 ∈ TB := tbm 126 (by decide +kernel) (by decide +kernel)
theorem ly_3_5 : u_lay RX3 TX3 5 ∈ TB := tbm 128 (by decide +kernel) (by decide +kernel)
theorem ly_3_6 : u_lay RX3 TX3 6 ∈ TB := tbm 130 (by decide +kernel) (by decide +kernel)
theorem ly_3_7 : u_lay RX3 TX3 7 ∈ TB := tbm 132 (by decide +kernel) (by decide +kernel)
theorem ly_3_8 : u_lay RX3 TX3 8 ∈ TB := tbm 134 (by decide +kernel) (by decide +kernel)
theorem ly_3_9 : u_lay RX3 TX3 9 ∈ TB := tbm 136 (by decide +kernel) (by decide +kernel)
theorem ly_3_10 : u_lay RX3 TX3 10 ∈ TB := tbm 138 (by decide +kernel) (by decide +kernel)
theorem ly_3_11 : u_lay RX3 TX3 11 ∈ TB := tbm 140 (by decide +kernel) (by decide +kernel)
theorem iX3 : ∀ w ∈ u_ws RX3 TX3 12, w ∈ TB := inRange fun k hk => match k, hk with
  | 0, _ => ly_3_0
  | 1, _ => ly_3_1
  | 2, _ => ly_3_2
  | 3, _ => ly_3_3
  | 4, _ => ly_3_4
  | 5, _ => ly_3_5
  | 6, _ => ly_3_6
  | 7, _ => ly_3_7
  | 8, _ => ly_3_8
  | 9, _ => ly_3_9
  | 10, _ => ly_3_10
  | 11, _ => ly_3_11
  | k + 12, h => absurd h (by omega)
theorem ly_4_0 : u_lay RX4 TX4 0 ∈ TB := tbm 302 (by decide +kernel) (by decide +kernel)
theorem ly_4_1 : u_lay RX4 TX4 1 ∈ TB := tbm 304 (by decide +kernel) (by decide +kernel)
theorem ly_4_2 : u_lay RX4 TX4 2 ∈ TB := tbm 306 (by decide +kernel) (by decide +kernel)
theorem ly_4_3 : u_lay RX4 TX4 3 ∈ TB := tbm 308 (by decide +kernel) (by decide +kernel)
theorem ly_4_4 : u_lay RX4 TX4 4 ∈ TB := tbm 310 (by decide +kernel) (by decide +kernel)
theorem ly_4_5 : u_lay RX4 TX4 5 ∈ TB := tbm 312 (by decide +kernel) (by decide +kernel)
theorem ly_4_6 : u_lay RX4 TX4 6 ∈ TB := tbm 314 (by decide +kernel) (by decide +kernel)
theorem ly_4_7 : u_lay RX4 TX4 7 ∈ TB := tbm 316 (by decide +kernel) (by decide +kernel)
theorem ly_4_8 : u_lay RX4 TX4 8 ∈ TB := tbm 318 (by decide +kernel) (by decide +kernel)
theorem ly_4_9 : u_lay RX4 TX4 9 ∈ TB := tbm 320 (by decide +kernel) (by decide +kernel)
theorem ly_4_10 : u_lay RX4 TX4 10 ∈ TB := tbm 322 (by decide +kernel) (by decide +kernel)
theorem ly_4_11 : u_lay RX4 TX4 11 ∈ TB := tbm 324 (by decide +kernel) (by decide +kernel)
theorem ly_4_12 : u_lay RX4 TX4 12 ∈ TB := tbm 326 (by decide +kernel) (by decide +kernel)
theorem iX4 : ∀ w ∈ u_ws RX4 TX4 13, w ∈ TB := inRange fun k hk => match k, hk with
  | 0, _ => ly_4_0
  | 1, _ => ly_4_1
  | 2, _ => ly_4_2
  | 3, _ => ly_4_3
  | 4, _ => ly_4_4
  | 5, _ => ly_4_5
  | 6, _ => ly_4_6
  | 7, _ => ly_4_7
  | 8, _ => ly_4_8
  | 9, _ => ly_4_9
  | 10, _ => ly_4_10
  | 11, _ => ly_4_11
  | 12, _ => ly_4_12
  | k + 13, h => absurd h (by omega)
theorem ly_5_0 : u_lay RX5 TX5 0 ∈ TB := tbm 802 (by decide +kernel) (by decide +kernel)
theorem ly_5_1 : u_lay RX5 TX5 1 ∈ TB := tbm 804 (by decide +kernel) (by decide +kernel)
theorem ly_5_2 : u_lay RX5 TX5 2 ∈ TB := tbm 806 (by decide +kernel) (by decide +kernel)
theorem ly_5_3 : u_lay RX5 TX5 3 ∈ TB := tbm 808 (by decide +kernel) (by decide +kernel)
theorem ly_5_4 : u_lay RX5 TX5 4 ∈ TB := tbm 810 (by decide +kernel) (by decide +kernel)
theorem ly_5_5 : u_lay RX5 TX5 5 ∈ TB := tbm 812 (by decide +kernel) (by decide +kernel)
theorem ly_5_6 : u_lay RX5 TX5 6 ∈ TB := tbm 814 (by decide +kernel) (by decide +kernel)
theorem ly_5_7 : u_lay RX5 TX5 7 ∈ TB := tbm 816 (by decide +kernel) (by decide +kernel)
theorem ly_5_8 : u_lay RX5 TX5 8 ∈ TB := tbm 818 (by decide +kernel) (by decide +kernel)
theorem ly_5_9 : u_lay RX5 TX5 9 ∈ TB := tbm 820 (by decide +kernel) (by decide +kernel)
theorem ly_5_10 : u_lay RX5 TX5 10 ∈ TB := tbm 822 (by decide +kernel) (by decide +kernel)
theorem ly_5_11 : u_lay RX5 TX5 11 ∈ TB := tbm 824 (by decide +kernel) (by decide +kernel)
theorem ly_5_12 : u_lay RX5 TX5 12 ∈ TB := tbm 826 (by decide +kernel) (by decide +kernel)
theorem ly_5_13 : u_lay RX5 TX5 13 ∈ TB := tbm 828 (by decide +kernel) (by decide +kernel)
theorem ly_5_14 : u_lay RX5 TX5 14 ∈ TB := tbm 830 (by decide +kernel) (by decide +kernel)
theorem ly_5_15 : u_lay RX5 TX5 15 ∈ TB := tbm 832 (by decide +kernel) (by decide +kernel)
theorem ly_5_16 : u_lay RX5 TX5 16 ∈ TB := tbm 834 (by decide +kernel) (by decide +kernel)
theorem ly_5_17 : u_lay RX5 TX5 17 ∈ TB := tbm 836 (by decide +kernel) (by decide +kernel)
theorem ly_5_18 : u_lay RX5 TX5 18 ∈ TB := tbm 838 (by decide +kernel) (by decide +kernel)
theorem ly_5_19 : u_lay RX5 TX5 19 ∈ TB := tbm 840 (by decide +kernel) (by decide +kernel)
theorem ly_5_20 : u_lay RX5 TX5 20 ∈ TB := tbm 842 (by decide +kernel) (by decide +kernel)
theorem ly_5_21 : u_lay RX5 TX5 21 ∈ TB := tbm 844 (by decide +kernel) (by decide +kernel)
theorem ly_5_22 : u_lay RX5 TX5 22 ∈ TB := tbm 846 (by decide +kernel) (by decide +kernel)
theorem ly_5_23 : u_lay RX5 TX5 23 ∈ TB := tbm 848 (by decide +kernel) (by decide +kernel)
theorem ly_5_24 : u_lay RX5 TX5 24 ∈ TB := tbm 850 (by decide +kernel) (by decide +kernel)
theorem ly_5_25 : u_lay RX5 TX5 25 ∈ TB := tbm 852 (by decide +kernel) (by decide +kernel)
theorem ly_5_26 : u_lay RX5 TX5 26 ∈ TB := tbm 854 (by decide +kernel) (by decide +kernel)
theorem ly_5_27 : u_lay RX5 TX5 27 ∈ TB := tbm 856 (by decide +kernel) (by decide +kernel)
theorem ly_5_28 : u_lay RX5 TX5 28 ∈ TB := tbm 858 (by decide +kernel) (by decide +kernel)
theorem ly_5_29 : u_lay RX5 TX5 29 ∈ TB := tbm 860 (by decide +kernel) (by decide +kernel)
theorem ly_5_30 : u_lay RX5 TX5 30 ∈ TB := tbm 862 (by decide +kernel) (by decide +kernel)
theorem ly_5_31 : u_lay RX5 TX5 31 ∈ TB := tbm 864 (by decide +kernel) (by decide +kernel)
theorem ly_5_32 : u_lay RX5 TX5 32 ∈ TB := tbm 866 (by decide +kernel) (by decide +kernel)
theorem ly_5_33 : u_lay RX5 TX5 33 ∈ TB := tbm 868 (by decide +kernel) (by decide +kernel)
theorem ly_5_34 : u_lay RX5 TX5 34 ∈ TB := tbm 870 (by decide +kernel) (by decide +kernel)
theorem ly_5_35 : u_lay RX5 TX5 35 ∈ TB := tbm 872 (by decide +kernel) (by decide +kernel)
theorem ly_5_36 : u_lay RX5 TX5 36 ∈ TB := tbm 874 (by decide +kernel) (by decide +kernel)
theorem ly_5_37 : u_lay RX5 TX5 37 ∈ TB := tbm 876 (by decide +kernel) (by decide +kernel)
theorem ly_5_38 : u_lay RX5 TX5 38 ∈ TB := tbm 878 (by decide +kernel) (by decide +kernel)
theorem ly_5_39 : u_lay RX5 TX5 39 ∈ TB := tbm 880 (by decide +kernel) (by decide +kernel)
theorem ly_5_40 : u_lay RX5 TX5 40 ∈ TB := tbm 882 (by decide +kernel) (by decide +kernel)
theorem iX5 : ∀ w ∈ u_ws RX5 TX5 41, w ∈ TB := inRange fun k hk => match k, hk with
  | 0, _ => ly_5_0
  | 1, _ => ly_5_1
  | 2, _ => ly_5_2
  | 3, _ => ly_5_3
  | 4, _ => ly_5_4
  | 5, _ => ly_5_5
  | 6, _ => ly_5_6
  | 7, _ => ly_5_7
  | 8, _ => ly_5_8
  | 9, _ => ly_5_9
  | 10, _ => ly_5_10
  | 11, _ => ly_5_11
  | 12, _ => ly_5_12
  | 13, _ => ly_5_13
  | 14, _ => ly_5_14
  | 15, _ => ly_5_15
  | 16, _ => ly_5_16
  | 17, _ => ly_5_17
  | 18, _ => ly_5_18
  | 19, _ => ly_5_19
  | 20, _ => ly_5_20
  | 21, _ => ly_5_21
  | 22, _ => ly_5_22
  | 23, _ => ly_5_23
  | 24, _ => ly_5_24
  | 25, _ => ly_5_25
  | 26, _ => ly_5_26
  | 27, _ => ly_5_27
  | 28, _ => ly_5_28
  | 29, _ => ly_5_29
  | 30, _ => ly_5_30
  | 31, _ => ly_5_31
  | 32, _ => ly_5_32
  | 33, _ => ly_5_33
  | 34, _ => ly_5_34
  | 35, _ => ly_5_35
  | 36, _ => ly_5_36
  | 37, _ => ly_5_37
  | 38, _ => ly_5_38
  | 39, _ => ly_5_39
  | 40, _ => ly_5_40
  | k + 41, h => absurd h (by omega)
def nestW : List Cond := [.fieldLinkNest RX0 34 RX3 "x" "[I" RX4, .fieldLinkNest RX4 134 RX3 "x" "[I" RX4, .fieldLinkNest RX0 43 RX3 "y" "[I" RX4, .fieldLinkNest RX4 137 RX3 "y" "[I" RX4, .fieldLinkNest RX0 44 RX3 "stiff" "[I" RX4, .fieldLinkNest RX4 140 RX3 "stiff" "[I" RX4, .fieldLinkNest RX0 45 RX3 "can" "[I" RX4, .fieldLinkNest RX4 143 RX3 "can" "[I" RX4, .fieldLinkNest RX0 46 RX3 "piles" "I" RX4, .fieldLinkNest RX2 42 RX3 "piles" "I" RX4, .fieldLinkNest RX4 89 RX3 "piles" "I" RX4, .fieldLinkNest RX4 105 RX3 "intact" "I" RX4, .fieldLinkNest RX4 120 RX3 "columnX" "[I" RX4, .fieldLinkNest RX4 123 RX3 "columnY" "[I" RX4, .fieldLinkNest RX4 117 RX3 "load" "[I" RX4, .fieldLinkNest RX2 48 RX3 "columns" "I" RX4, .fieldLinkNest RX4 282 RX3 "columns" "I" RX4, .fieldLinkNest RX2 89 RX3 "windX" "I" RX4, .fieldLinkNest RX4 126 RX3 "windX" "I" RX4, .fieldLinkNest RX2 92 RX3 "windY" "I" RX4, .fieldLinkNest RX4 129 RX3 "windY" "I" RX4, .fieldLinkNest RX4 62 RX2 "length" "I" RX4, .fieldLinkNest RX0 131 RX1 "bottom" "J" RX4, .fieldLinkNest RX4 171 RX0 "set" "I" RX4, .fieldLinkNest RX4 174 RX0 "active" "I" RX4, .fieldLinkNest RX4 168 RX0 "rounds" "I" RX4, .fieldLinkNest RX4 149 RX0 "settled" "Z" RX4, .fieldLinkNest RX4 292 RX0 "mostUsed" "I" RX4, .fieldLinkNest RX4 194 RX0 "plane" "LPileShares$Plane;" RX4, .methodLinkNest RX4 11 yX3_init RX4, .methodLinkNest RX4 21 yX2_init RX4, .methodLinkNest RX4 53 yX0_init RX4, .methodLinkNest RX0 26 yX1_init RX4]
theorem nf_RX0_34 : Cond.fieldLinkNest RX0 34 RX3 "x" "[I" RX4 ∈ nestW := List.mem_of_getElem? (i := 0) rfl
theorem nf_RX4_134 : Cond.fieldLinkNest RX4 134 RX3 "x" "[I" RX4 ∈ nestW := List.mem_of_getElem? (i := 1) rfl
theorem nf_RX0_43 : Cond.fieldLinkNest RX0 43 RX3 "y" "[I" RX4 ∈ nestW := List.mem_of_getElem? (i := 2) rfl
theorem nf_RX4_137 : Cond.fieldLinkNest RX4 137 RX3 "y" "[I" RX4 ∈ nestW := List.mem_of_getElem? (i := 3) rfl
theorem nf_RX0_44 : Cond.fieldLinkNest RX0 44 RX3 "stiff" "[I" RX4 ∈ nestW := List.mem_of_getElem? (i := 4) rfl
theorem nf_RX4_140 : Cond.fieldLinkNest RX4 140 RX3 "stiff" "[I" RX4 ∈ nestW := List.mem_of_getElem? (i := 5) rfl
theorem nf_RX0_45 : Cond.fieldLinkNest RX0 45 RX3 "can" "[I" RX4 ∈ nestW := List.mem_of_getElem? (i := 6) rfl
theorem nf_RX4_143 : Cond.fieldLinkNest RX4 143 RX3 "can" "[I" RX4 ∈ nestW := List.mem_of_getElem? (i := 7) rfl
theorem nf_RX0_46 : Cond.fieldLinkNest RX0 46 RX3 "piles" "I" RX4 ∈ nestW := List.mem_of_getElem? (i := 8) rfl
theorem nf_RX2_42 : Cond.fieldLinkNest RX2 42 RX3 "piles" "I" RX4 ∈ nestW := List.mem_of_getElem? (i := 9) rfl
theorem nf_RX4_89 : Cond.fieldLinkNest RX4 89 RX3 "piles" "I" RX4 ∈ nestW := List.mem_of_getElem? (i := 10) rfl
theorem nf_RX4_105 : Cond.fieldLinkNest RX4 105 RX3 "intact" "I" RX4 ∈ nestW := List.mem_of_getElem? (i := 11) rfl
theorem nf_RX4_120 : Cond.fieldLinkNest RX4 120 RX3 "columnX" "[I" RX4 ∈ nestW := List.mem_of_getElem? (i := 12) rfl
theorem nf_RX4_123 : Cond.fieldLinkNest RX4 123 RX3 "columnY" "[I" RX4 ∈ nestW := List.mem_of_getElem? (i := 13) rfl
theorem nf_RX4_117 : Cond.fieldLinkNest RX4 117 RX3 "load" "[I" RX4 ∈ nestW := List.mem_of_getElem? (i := 14) rfl
theorem nf_RX2_48 : Cond.fieldLinkNest RX2 48 RX3 "columns" "I" RX4 ∈ nestW := List.mem_of_getElem? (i := 15) rfl
theorem nf_RX4_282 : Cond.fieldLinkNest RX4 282 RX3 "columns" "I" RX4 ∈ nestW := List.mem_of_getElem? (i := 16) rfl
theorem nf_RX2_89 : Cond.fieldLinkNest RX2 89 RX3 "windX" "I" RX4 ∈ nestW := List.mem_of_getElem? (i := 17) rfl
theorem nf_RX4_126 : Cond.fieldLinkNest RX4 126 RX3 "windX" "I" RX4 ∈ nestW := List.mem_of_getElem? (i := 18) rfl
theorem nf_RX2_92 : Cond.fieldLinkNest RX2 92 RX3 "windY" "I" RX4 ∈ nestW := List.mem_of_getElem? (i := 19) rfl
theorem nf_RX4_129 : Cond.fieldLinkNest RX4 129 RX3 "windY" "I" RX4 ∈ nestW := List.mem_of_getElem? (i := 20) rfl
theorem nf_RX4_62 : Cond.fieldLinkNest RX4 62 RX2 "length" "I" RX4 ∈ nestW := List.mem_of_getElem? (i := 21) rfl
theorem nf_RX0_131 : Cond.fieldLinkNest RX0 131 RX1 "bottom" "J" RX4 ∈ nestW := List.mem_of_getElem? (i := 22) rfl
theorem nf_RX4_171 : Cond.fieldLinkNest RX4 171 RX0 "set" "I" RX4 ∈ nestW := List.mem_of_getElem? (i := 23) rfl
theorem nf_RX4_174 : Cond.fieldLinkNest RX4 174 RX0 "active" "I" RX4 ∈ nestW := List.mem_of_getElem? (i := 24) rfl
theorem nf_RX4_168 : Cond.fieldLinkNest RX4 168 RX0 "rounds" "I" RX4 ∈ nestW := List.mem_of_getElem? (i := 25) rfl
theorem nf_RX4_149 : Cond.fieldLinkNest RX4 149 RX0 "settled" "Z" RX4 ∈ nestW := List.mem_of_getElem? (i := 26) rfl
theorem nf_RX4_292 : Cond.fieldLinkNest RX4 292 RX0 "mostUsed" "I" RX4 ∈ nestW := List.mem_of_getElem? (i := 27) rfl
theorem nf_RX4_194 : Cond.fieldLinkNest RX4 194 RX0 "plane" "LPileShares$Plane;" RX4 ∈ nestW := List.mem_of_getElem? (i := 28) rfl
theorem nf_RX4_11 : Cond.methodLinkNest RX4 11 yX3_init RX4 ∈ nestW := List.mem_of_getElem? (i := 29) rfl
theorem nf_RX4_21 : Cond.methodLinkNest RX4 21 yX2_init RX4 ∈ nestW := List.mem_of_getElem? (i := 30) rfl
theorem nf_RX4_53 : Cond.methodLinkNest RX4 53 yX0_init RX4 ∈ nestW := List.mem_of_getElem? (i := 31) rfl
theorem nf_RX0_26 : Cond.methodLinkNest RX0 26 yX1_init RX4 ∈ nestW := List.mem_of_getElem? (i := 32) rfl
theorem nestW_warm {s U : State} (hW : s.WarmedH U.vm) (h : ∀ w ∈ nestW, va_Nw w s) : ∀ w ∈ nestW, va_Nw w U := by
  intro w hw
  have h1 := h w hw
  simp only [nestW, List.mem_cons, List.not_mem_nil, or_false] at hw
  rcases hw with rfl | rfl | rfl | rfl | rfl | rfl | rfl | rfl | rfl | rfl | rfl | rfl | rfl | rfl | rfl | rfl | rfl | rfl | rfl | rfl | rfl | rfl | rfl | rfl | rfl | rfl | rfl | rfl | rfl | rfl | rfl | rfl | rfl <;> first | exact va_Nw.warmF hW h1 | exact va_Nw.warmM hW h1
theorem ni_0 : Cond.fieldLinkNest RX0 34 RX3 "x" "[I" RX4 ∈ lw_tbl := List.mem_of_getElem? (i := 86) (by decide +kernel)
theorem ni_1 : Cond.fieldLinkNest RX4 134 RX3 "x" "[I" RX4 ∈ lw_tbl := List.mem_of_getElem? (i := 87) (by decide +kernel)
theorem ni_2 : Cond.fieldLinkNest RX0 43 RX3 "y" "[I" RX4 ∈ lw_tbl := List.mem_of_getElem? (i := 89) (by decide +kernel)
theorem ni_3 : Cond.fieldLinkNest RX4 137 RX3 "y" "[I" RX4 ∈ lw_tbl := List.mem_of_getElem? (i := 90) (by decide +kernel)
theorem ni_4 : Cond.fieldLinkNest RX0 44 RX3 "stiff" "[I" RX4 ∈ lw_tbl := List.mem_of_getElem? (i := 92) (by decide +kernel)
theorem ni_5 : Cond.fieldLinkNest RX4 140 RX3 "stiff" "[I" RX4 ∈ lw_tbl := List.mem_of_getElem? (i := 93) (by decide +kernel)
theorem ni_6 : Cond.fieldLinkNest RX0 45 RX3 "can" "[I" RX4 ∈ lw_tbl := List.mem_of_getElem? (i := 95) (by decide +kernel)
theorem ni_7 : Cond.fieldLinkNest RX4 143 RX3 "can" "[I" RX4 ∈ lw_tbl := List.mem_of_getElem? (i := 96) (by decide +kernel)
theorem ni_8 : Cond.fieldLinkNest RX0 46 RX3 "piles" "I" RX4 ∈ lw_tbl := List.mem_of_getElem? (i := 98) (by decide +kernel)
theorem ni_9 : Cond.fieldLinkNest RX2 42 RX3 "piles" "I" RX4 ∈ lw_tbl := List.mem_of_getElem? (i := 99) (by decide +kernel)
theorem ni_10 : Cond.fieldLinkNest RX4 89 RX3 "piles" "I" RX4 ∈ lw_tbl := List.mem_of_getElem? (i := 100) (by decide +kernel)
theorem ni_11 : Cond.fieldLinkNest RX4 105 RX3 "intact" "I" RX4 ∈ lw_tbl := List.mem_of_getElem? (i := 102) (by decide +kernel)
theorem ni_12 : Cond.fieldLinkNest RX4 120 RX3 "columnX" "[I" RX4 ∈ lw_tbl := List.mem_of_getElem? (i := 104) (by decide +kernel)
theorem ni_13 : Cond.fieldLinkNest RX4 123 RX3 "columnY" "[I" RX4 ∈ lw_tbl := List.mem_of_getElem? (i := 106) (by decide +kernel)
theorem ni_14 : Cond.fieldLinkNest RX4 117 RX3 "load" "[I" RX4 ∈ lw_tbl := List.mem_of_getElem? (i := 108) (by decide +kernel)
theorem ni_15 : Cond.fieldLinkNest RX2 48 RX3 "columns" "I" RX4 ∈ lw_tbl := List.mem_of_getElem? (i := 110) (by decide +kernel)
theorem ni_16 : Cond.fieldLinkNest RX4 282 RX3 "columns" "I" RX4 ∈ lw_tbl := List.mem_of_getElem? (i := 111) (by decide +kernel)
theorem ni_17 : Cond.fieldLinkNest RX2 89 RX3 "windX" "I" RX4 ∈ lw_tbl := List.mem_of_getElem? (i := 113) (by decide +kernel)
theorem ni_18 : Cond.fieldLinkNest RX4 126 RX3 "windX" "I" RX4 ∈ lw_tbl := List.mem_of_getElem? (i := 114) (by decide +kernel)
theorem ni_19 : Cond.fieldLinkNest RX2 92 RX3 "windY" "I" RX4 ∈ lw_tbl := List.mem_of_getElem? (i := 116) (by decide +kernel)
theorem ni_20 : Cond.fieldLinkNest RX4 129 RX3 "windY" "I" RX4 ∈ lw_tbl := List.mem_of_getElem? (i := 117) (by decide +kernel)
theorem ni_21 : Cond.fieldLinkNest RX4 62 RX2 "length" "I" RX4 ∈ lw_tbl := List.mem_of_getElem? (i := 152) (by decide +kernel)
theorem ni_22 : Cond.fieldLinkNest RX0 131 RX1 "bottom" "J" RX4 ∈ lw_tbl := List.mem_of_getElem? (i := 199) (by decide +kernel)
theorem ni_23 : Cond.fieldLinkNest RX4 171 RX0 "set" "I" RX4 ∈ lw_tbl := List.mem_of_getElem? (i := 246) (by decide +kernel)
theorem ni_24 : Cond.fieldLinkNest RX4 174 RX0 "active" "I" RX4 ∈ lw_tbl := List.mem_of_getElem? (i := 248) (by decide +kernel)
theorem ni_25 : Cond.fieldLinkNest RX4 168 RX0 "rounds" "I" RX4 ∈ lw_tbl := List.mem_of_getElem? (i := 250) (by decide +kernel)
theorem ni_26 : Cond.fieldLinkNest RX4 149 RX0 "settled" "Z" RX4 ∈ lw_tbl := List.mem_of_getElem? (i := 252) (by decide +kernel)
theorem ni_27 : Cond.fieldLinkNest RX4 292 RX0 "mostUsed" "I" RX4 ∈ lw_tbl := List.mem_of_getElem? (i := 254) (by decide +kernel)
theorem ni_28 : Cond.fieldLinkNest RX4 194 RX0 "plane" "LPileShares$Plane;" RX4 ∈ lw_tbl := List.mem_of_getElem? (i := 257) (by decide +kernel)
theorem ni_29 : Cond.methodLinkNest RX4 11 yX3_init RX4 ∈ lw_tbl := List.mem_of_getElem? (i := 81) (by decide +kernel)
theorem ni_30 : Cond.methodLinkNest RX4 21 yX2_init RX4 ∈ lw_tbl := List.mem_of_getElem? (i := 146) (by decide +kernel)
theorem ni_31 : Cond.methodLinkNest RX4 53 yX0_init RX4 ∈ lw_tbl := List.mem_of_getElem? (i := 176) (by decide +kernel)
theorem ni_32 : Cond.methodLinkNest RX0 26 yX1_init RX4 ∈ lw_tbl := List.mem_of_getElem? (i := 182) (by decide +kernel)
theorem nestW_in : ∀ w ∈ nestW, w ∈ lw_tbl := by
  intro w hw
  simp only [nestW, List.mem_cons, List.not_mem_nil, or_false] at hw
  rcases hw with rfl | rfl | rfl | rfl | rfl | rfl | rfl | rfl | rfl | rfl | rfl | rfl | rfl | rfl | rfl | rfl | rfl | rfl | rfl | rfl | rfl | rfl | rfl | rfl | rfl | rfl | rfl | rfl | rfl | rfl | rfl | rfl | rfl
  · exact ni_0
  · exact ni_1
  · exact ni_2
  · exact ni_3
  · exact ni_4
  · exact ni_5
  · exact ni_6
  · exact ni_7
  · exact ni_8
  · exact ni_9
  · exact ni_10
  · exact ni_11
  · exact ni_12
  · exact ni_13
  · exact ni_14
  · exact ni_15
  · exact ni_16
  · exact ni_17
  · exact ni_18
  · exact ni_19
  · exact ni_20
  · exact ni_21
  · exact ni_22
  · exact ni_23
  · exact ni_24
  · exact ni_25
  · exact ni_26
  · exact ni_27
  · exact ni_28
  · exact ni_29
  · exact ni_30
  · exact ni_31
  · exact ni_32
end
section
theorem dX0_init_0 : decode cX0_init 0 = .ok (.aload_n 0, 1) := by decide +kernel
theorem dX0_init_1 : decode cX0_init 1 = .ok (.invokespecial 3, 3) := by decide +kernel
theorem dX0_init_4 : decode cX0_init 4 = .ok (.aload_n 0, 1) := by decide +kernel
theorem dX0_init_5 : decode cX0_init 5 = .ok (.bipush 9, 2) := by decide +kernel
theorem dX0_init_7 : decode cX0_init 7 = .ok (.newarray .int, 2) := by decide +kernel
theorem dX0_init_9 : decode cX0_init 9 = .ok (.putfield 11, 3) := by decide +kernel
theorem dX0_init_12 : decode cX0_init 12 = .ok (.aload_n 0, 1) := by decide +kernel
theorem dX0_init_13 : decode cX0_init 13 = .ok (.bipush 9, 2) := by decide +kernel
theorem dX0_init_15 : decode cX0_init 15 = .ok (.newarray .int, 2) := by decide +kernel
theorem dX0_init_17 : decode cX0_init 17 = .ok (.putfield 15, 3) := by decide +kernel
theorem dX0_init_20 : decode cX0_init 20 = .ok (.aload_n 0, 1) := by decide +kernel
theorem dX0_init_21 : decode cX0_init 21 = .ok (.bipush 9, 2) := by decide +kernel
theorem dX0_init_23 : decode cX0_init 23 = .ok (.newarray .int, 2) := by decide +kernel
theorem dX0_init_25 : decode cX0_init 25 = .ok (.putfield 18, 3) := by decide +kernel
theorem dX0_init_28 : decode cX0_init 28 = .ok (.aload_n 0, 1) := by decide +kernel
theorem dX0_init_29 : decode cX0_init 29 = .ok (.bipush 9, 2) := by decide +kernel
theorem dX0_init_31 : decode cX0_init 31 = .ok (.newarray .int, 2) := by decide +kernel
theorem dX0_init_33 : decode cX0_init 33 = .ok (.putfield 21, 3) := by decide +kernel
theorem dX0_init_36 : decode cX0_init 36 = .ok (.aload_n 0, 1) := by decide +kernel
theorem dX0_init_37 : decode cX0_init 37 = .ok (.new 24, 3) := by decide +kernel
theorem dX0_init_40 : decode cX0_init 40 = .ok (.dup, 1) := by decide +kernel
theorem dX0_init_41 : decode cX0_init 41 = .ok (.invokespecial 26, 3) := by decide +kernel
theorem dX0_init_44 : decode cX0_init 44 = .ok (.putfield 27, 3) := by decide +kernel
theorem dX0_init_47 : decode cX0_init 47 = .ok (.aload_n 0, 1) := by decide +kernel
theorem dX0_init_48 : decode cX0_init 48 = .ok (.new 24, 3) := by decide +kernel
theorem dX0_init_51 : decode cX0_init 51 = .ok (.dup, 1) := by decide +kernel
theorem dX0_init_52 : decode cX0_init 52 = .ok (.invokespecial 26, 3) := by decide +kernel
theorem dX0_init_55 : decode cX0_init 55 = .ok (.putfield 31, 3) := by decide +kernel
theorem dX0_init_58 : decode cX0_init 58 = .ok (.return_, 1) := by decide +kernel
theorem dX0_takePiles_0 : decode cX0_takePiles 0 = .ok (.aload_n 1, 1) := by decide +kernel
theorem dX0_takePiles_1 : decode cX0_takePiles 1 = .ok (.getfield 34, 3) := by decide +kernel
theorem dX0_takePiles_4 : decode cX0_takePiles 4 = .ok (.iconst 0, 1) := by decide +kernel
theorem dX0_takePiles_5 : decode cX0_takePiles 5 = .ok (.aload_n 0, 1) := by decide +kernel
theorem dX0_takePiles_6 : decode cX0_takePiles 6 = .ok (.getfield 11, 3) := by decide +kernel
theorem dX0_takePiles_9 : decode cX0_takePiles 9 = .ok (.iconst 0, 1) := by decide +kernel
theorem dX0_takePiles_10 : decode cX0_takePiles 10 = .ok (.bipush 8, 2) := by decide +kernel
theorem dX0_takePiles_12 : decode cX0_takePiles 12 = .ok (.invokestatic 37, 3) := by decide +kernel
theorem dX0_takePiles_15 : decode cX0_takePiles 15 = .ok (.aload_n 1, 1) := by decide +kernel
theorem dX0_takePiles_16 : decode cX0_takePiles 16 = .ok (.getfield 43, 3) := by decide +kernel
theorem dX0_takePiles_19 : decode cX0_takePiles 19 = .ok (.iconst 0, 1) := by decide +kernel
theorem dX0_takePiles_20 : decode cX0_takePiles 20 = .ok (.aload_n 0, 1) := by decide +kernel
theorem dX0_takePiles_21 : decode cX0_takePiles 21 = .ok (.getfield 15, 3) := by decide +kernel
theorem dX0_takePiles_24 : decode cX0_takePiles 24 = .ok (.iconst 0, 1) := by decide +kernel
theorem dX0_takePiles_25 : decode cX0_takePiles 25 = .ok (.bipush 8, 2) := by decide +kernel
theorem dX0_takePiles_27 : decode cX0_takePiles 27 = .ok (.invokestatic 37, 3) := by decide +kernel
theorem dX0_takePiles_30 : decode cX0_takePiles 30 = .ok (.aload_n 1, 1) := by decide +kernel
theorem dX0_takePiles_31 : decode cX0_takePiles 31 = .ok (.getfield 44, 3) := by decide +kernel
theorem dX0_takePiles_34 : decode cX0_takePiles 34 = .ok (.iconst 0, 1) := by decide +kernel
theorem dX0_takePiles_35 : decode cX0_takePiles 35 = .ok (.aload_n 0, 1) := by decide +kernel
theorem dX0_takePiles_36 : decode cX0_takePiles 36 = .ok (.getfield 18, 3) := by decide +kernel
theorem dX0_takePiles_39 : decode cX0_takePiles 39 = .ok (.iconst 0, 1) := by decide +kernel
theorem dX0_takePiles_40 : decode cX0_takePiles 40 = .ok (.bipush 8, 2) := by decide +kernel
theorem dX0_takePiles_42 : decode cX0_takePiles 42 = .ok (.invokestatic 37, 3) := by decide +kernel
theorem dX0_takePiles_45 : decode cX0_takePiles 45 = .ok (.aload_n 1, 1) := by decide +kernel
theorem dX0_takePiles_46 : decode cX0_takePiles 46 = .ok (.getfield 45, 3) := by decide +kernel
theorem dX0_takePiles_49 : decode cX0_takePiles 49 = .ok (.iconst 0, 1) := by decide +kernel
theorem dX0_takePiles_50 : decode cX0_takePiles 50 = .ok (.aload_n 0, 1) := by decide +kernel
theorem dX0_takePiles_51 : decode cX0_takePiles 51 = .ok (.getfield 21, 3) := by decide +kernel
theorem dX0_takePiles_54 : decode cX0_takePiles 54 = .ok (.iconst 0, 1) := by decide +kernel
theorem dX0_takePiles_55 : decode cX0_takePiles 55 = .ok (.bipush 8, 2) := by decide +kernel
theorem dX0_takePiles_57 : decode cX0_takePiles 57 = .ok (.invokestatic 37, 3) := by decide +kernel
theorem dX0_takePiles_60 : decode cX0_takePiles 60 = .ok (.aload_n 0, 1) := by decide +kernel
theorem dX0_takePiles_61 : decode cX0_takePiles 61 = .ok (.aload_n 1, 1) := by decide +kernel
theorem dX0_takePiles_62 : decode cX0_takePiles 62 = .ok (.getfield 46, 3) := by decide +kernel
theorem dX0_takePiles_65 : decode cX0_takePiles 65 = .ok (.putfield 50, 3) := by decide +kernel
theorem dX0_takePiles_68 : decode cX0_takePiles 68 = .ok (.return_, 1) := by decide +kernel
theorem dX0_bear_0 : decode cX0_bear 0 = .ok (.aload_n 0, 1) := by decide +kernel
theorem dX0_bear_1 : decode cX0_bear 1 = .ok (.lload_n 1, 1) := by decide +kernel
theorem dX0_bear_2 : decode cX0_bear 2 = .ok (.putfield 51, 3) := by decide +kernel
theorem dX0_bear_5 : decode cX0_bear 5 = .ok (.aload_n 0, 1) := by decide +kernel
theorem dX0_bear_6 : decode cX0_bear 6 = .ok (.lload_n 3, 1) := by decide +kernel
theorem dX0_bear_7 : decode cX0_bear 7 = .ok (.putfield 55, 3) := by decide +kernel
theorem dX0_bear_10 : decode cX0_bear 10 = .ok (.aload_n 0, 1) := by decide +kernel
theorem dX0_bear_11 : decode cX0_bear 11 = .ok (.lload 5, 2) := by decide +kernel
theorem dX0_bear_13 : decode cX0_bear 13 = .ok (.putfield 58, 3) := by decide +kernel
theorem dX0_bear_16 : decode cX0_bear 16 = .ok (.return_, 1) := by decide +kernel
theorem dX0_settleOn_0 : decode cX0_settleOn 0 = .ok (.aload_n 0, 1) := by decide +kernel
theorem dX0_settleOn_1 : decode cX0_settleOn 1 = .ok (.iload_n 1, 1) := by decide +kernel
theorem dX0_settleOn_2 : decode cX0_settleOn 2 = .ok (.invokevirtual 61, 3) := by decide +kernel
theorem dX0_settleOn_5 : decode cX0_settleOn 5 = .ok (.aload_n 0, 1) := by decide +kernel
theorem dX0_settleOn_6 : decode cX0_settleOn 6 = .ok (.invokevirtual 65, 3) := by decide +kernel
theorem dX0_settleOn_9 : decode cX0_settleOn 9 = .ok (.return_, 1) := by decide +kernel
theorem dX0_beginWith_0 : decode cX0_beginWith 0 = .ok (.aload_n 0, 1) := by decide +kernel
theorem dX0_beginWith_1 : decode cX0_beginWith 1 = .ok (.iload_n 1, 1) := by decide +kernel
theorem dX0_beginWith_2 : decode cX0_beginWith 2 = .ok (.putfield 68, 3) := by decide +kernel
theorem dX0_beginWith_5 : decode cX0_beginWith 5 = .ok (.aload_n 0, 1) := by decide +kernel
theorem dX0_beginWith_6 : decode cX0_beginWith 6 = .ok (.getfield 27, 3) := by decide +kernel
theorem dX0_beginWith_9 : decode cX0_beginWith 9 = .ok (.invokevirtual 71, 3) := by decide +kernel
theorem dX0_beginWith_12 : decode cX0_beginWith 12 = .ok (.iconst 0, 1) := by decide +kernel
theorem dX0_beginWith_13 : decode cX0_beginWith 13 = .ok (.istore_n 2, 1) := by decide +kernel
theorem dX0_beginWith_14 : decode cX0_beginWith 14 = .ok (.iload_n 2, 1) := by decide +kernel
theorem dX0_beginWith_15 : decode cX0_beginWith 15 = .ok (.aload_n 0, 1) := by decide +kernel
theorem dX0_beginWith_16 : decode cX0_beginWith 16 = .ok (.getfield 50, 3) := by decide +kernel
theorem dX0_beginWith_19 : decode cX0_beginWith 19 = .ok (.if_icmp .ge 46, 3) := by decide +kernel
theorem dX0_beginWith_22 : decode cX0_beginWith 22 = .ok (.aload_n 0, 1) := by decide +kernel
theorem dX0_beginWith_23 : decode cX0_beginWith 23 = .ok (.getfield 68, 3) := by decide +kernel
theorem dX0_beginWith_26 : decode cX0_beginWith 26 = .ok (.iload_n 2, 1) := by decide +kernel
theorem dX0_beginWith_27 : decode cX0_beginWith 27 = .ok (.ishr, 1) := by decide +kernel
theorem dX0_beginWith_28 : decode cX0_beginWith 28 = .ok (.iconst 1, 1) := by decide +kernel
theorem dX0_beginWith_29 : decode cX0_beginWith 29 = .ok (.iand, 1) := by decide +kernel
theorem dX0_beginWith_30 : decode cX0_beginWith 30 = .ok (.iconst 1, 1) := by decide +kernel
theorem dX0_beginWith_31 : decode cX0_beginWith 31 = .ok (.if_icmp .ne 28, 3) := by decide +kernel
theorem dX0_beginWith_34 : decode cX0_beginWith 34 = .ok (.aload_n 0, 1) := by decide +kernel
theorem dX0_beginWith_35 : decode cX0_beginWith 35 = .ok (.getfield 27, 3) := by decide +kernel
theorem dX0_beginWith_38 : decode cX0_beginWith 38 = .ok (.aload_n 0, 1) := by decide +kernel
theorem dX0_beginWith_39 : decode cX0_beginWith 39 = .ok (.getfield 11, 3) := by decide +kernel
theorem dX0_beginWith_42 : decode cX0_beginWith 42 = .ok (.iload_n 2, 1) := by decide +kernel
theorem dX0_beginWith_43 : decode cX0_beginWith 43 = .ok (.iaload, 1) := by decide +kernel
theorem dX0_beginWith_44 : decode cX0_beginWith 44 = .ok (.aload_n 0, 1) := by decide +kernel
theorem dX0_beginWith_45 : decode cX0_beginWith 45 = .ok (.getfield 15, 3) := by decide +kernel
theorem dX0_beginWith_48 : decode cX0_beginWith 48 = .ok (.iload_n 2, 1) := by decide +kernel
theorem dX0_beginWith_49 : decode cX0_beginWith 49 = .ok (.iaload, 1) := by decide +kernel
theorem dX0_beginWith_50 : decode cX0_beginWith 50 = .ok (.aload_n 0, 1) := by decide +kernel
theorem dX0_beginWith_51 : decode cX0_beginWith 51 = .ok (.getfield 18, 3) := by decide +kernel
theorem dX0_beginWith_54 : decode cX0_beginWith 54 = .ok (.iload_n 2, 1) := by decide +kernel
theorem dX0_beginWith_55 : decode cX0_beginWith 55 = .ok (.iaload, 1) := by decide +kernel
theorem dX0_beginWith_56 : decode cX0_beginWith 56 = .ok (.invokevirtual 74, 3) := by decide +kernel
theorem dX0_beginWith_59 : decode cX0_beginWith 59 = .ok (.iinc 2 1, 3) := by decide +kernel
theorem dX0_beginWith_62 : decode cX0_beginWith 62 = .ok (.goto (-48), 3) := by decide +kernel
theorem dX0_beginWith_65 : decode cX0_beginWith 65 = .ok (.return_, 1) := by decide +kernel
theorem dX0_putFurther_0 : decode cX0_putFurther 0 = .ok (.aload_n 0, 1) := by decide +kernel
theorem dX0_putFurther_1 : decode cX0_putFurther 1 = .ok (.getfield 50, 3) := by decide +kernel
theorem dX0_putFurther_4 : decode cX0_putFurther 4 = .ok (.ifCond .lt 12, 3) := by decide +kernel
theorem dX0_putFurther_7 : decode cX0_putFurther 7 = .ok (.aload_n 0, 1) := by decide +kernel
theorem dX0_putFurther_8 : decode cX0_putFurther 8 = .ok (.getfield 50, 3) := by decide +kernel
theorem dX0_putFurther_11 : decode cX0_putFurther 11 = .ok (.bipush 9, 2) := by decide +kernel
theorem dX0_putFurther_13 : decode cX0_putFurther 13 = .ok (.if_icmp .lt 4, 3) := by decide +kernel
theorem dX0_putFurther_16 : decode cX0_putFurther 16 = .ok (.return_, 1) := by decide +kernel
theorem dX0_putFurther_17 : decode cX0_putFurther 17 = .ok (.aload_n 0, 1) := by decide +kernel
theorem dX0_putFurther_18 : decode cX0_putFurther 18 = .ok (.getfield 11, 3) := by decide +kernel
theorem dX0_putFurther_21 : decode cX0_putFurther 21 = .ok (.aload_n 0, 1) := by decide +kernel
theorem dX0_putFurther_22 : decode cX0_putFurther 22 = .ok (.getfield 50, 3) := by decide +kernel
theorem dX0_putFurther_25 : decode cX0_putFurther 25 = .ok (.iload_n 1, 1) := by decide +kernel
theorem dX0_putFurther_26 : decode cX0_putFurther 26 = .ok (.iastore, 1) := by decide +kernel
theorem dX0_putFurther_27 : decode cX0_putFurther 27 = .ok (.aload_n 0, 1) := by decide +kernel
theorem dX0_putFurther_28 : decode cX0_putFurther 28 = .ok (.getfield 15, 3) := by decide +kernel
theorem dX0_putFurther_31 : decode cX0_putFurther 31 = .ok (.aload_n 0, 1) := by decide +kernel
theorem dX0_putFurther_32 : decode cX0_putFurther 32 = .ok (.getfield 50, 3) := by decide +kernel
theorem dX0_putFurther_35 : decode cX0_putFurther 35 = .ok (.iload_n 2, 1) := by decide +kernel
theorem dX0_putFurther_36 : decode cX0_putFurther 36 = .ok (.iastore, 1) := by decide +kernel
theorem dX0_putFurther_37 : decode cX0_putFurther 37 = .ok (.aload_n 0, 1) := by decide +kernel
theorem dX0_putFurther_38 : decode cX0_putFurther 38 = .ok (.getfield 18, 3) := by decide +kernel
theorem dX0_putFurther_41 : decode cX0_putFurther 41 = .ok (.aload_n 0, 1) := by decide +kernel
theorem dX0_putFurther_42 : decode cX0_putFurther 42 = .ok (.getfield 50, 3) := by decide +kernel
theorem dX0_putFurther_45 : decode cX0_putFurther 45 = .ok (.iload_n 3, 1) := by decide +kernel
theorem dX0_putFurther_46 : decode cX0_putFurther 46 = .ok (.iastore, 1) := by decide +kernel
theorem dX0_putFurther_47 : decode cX0_putFurther 47 = .ok (.aload_n 0, 1) := by decide +kernel
theorem dX0_putFurther_48 : decode cX0_putFurther 48 = .ok (.getfield 21, 3) := by decide +kernel
theorem dX0_putFurther_51 : decode cX0_putFurther 51 = .ok (.aload_n 0, 1) := by decide +kernel
theorem dX0_putFurther_52 : decode cX0_putFurther 52 = .ok (.getfield 50, 3) := by decide +kernel
theorem dX0_putFurther_55 : decode cX0_putFurther 55 = .ok (.iload 4, 2) := by decide +kernel
theorem dX0_putFurther_57 : decode cX0_putFurther 57 = .ok (.iastore, 1) := by decide +kernel
theorem dX0_putFurther_58 : decode cX0_putFurther 58 = .ok (.aload_n 0, 1) := by decide +kernel
theorem dX0_putFurther_59 : decode cX0_putFurther 59 = .ok (.getfield 27, 3) := by decide +kernel
theorem dX0_putFurther_62 : decode cX0_putFurther 62 = .ok (.iload_n 1, 1) := by decide +kernel
theorem dX0_putFurther_63 : decode cX0_putFurther 63 = .ok (.iload_n 2, 1) := by decide +kernel
theorem dX0_putFurther_64 : decode cX0_putFurther 64 = .ok (.iload_n 3, 1) := by decide +kernel
theorem dX0_putFurther_65 : decode cX0_putFurther 65 = .ok (.invokevirtual 74, 3) := by decide +kernel
theorem dX0_putFurther_68 : decode cX0_putFurther 68 = .ok (.aload_n 0, 1) := by decide +kernel
theorem dX0_putFurther_69 : decode cX0_putFurther 69 = .ok (.dup, 1) := by decide +kernel
theorem dX0_putFurther_70 : decode cX0_putFurther 70 = .ok (.getfield 68, 3) := by decide +kernel
theorem dX0_putFurther_73 : decode cX0_putFurther 73 = .ok (.iconst 1, 1) := by decide +kernel
theorem dX0_putFurther_74 : decode cX0_putFurther 74 = .ok (.aload_n 0, 1) := by decide +kernel
theorem dX0_putFurther_75 : decode cX0_putFurther 75 = .ok (.getfield 50, 3) := by decide +kernel
theorem dX0_putFurther_78 : decode cX0_putFurther 78 = .ok (.ishl, 1) := by decide +kernel
theorem dX0_putFurther_79 : decode cX0_putFurther 79 = .ok (.ior, 1) := by decide +kernel
theorem dX0_putFurther_80 : decode cX0_putFurther 80 = .ok (.putfield 68, 3) := by decide +kernel
theorem dX0_putFurther_83 : decode cX0_putFurther 83 = .ok (.aload_n 0, 1) := by decide +kernel
theorem dX0_putFurther_84 : decode cX0_putFurther 84 = .ok (.dup, 1) := by decide +kernel
theorem dX0_putFurther_85 : decode cX0_putFurther 85 = .ok (.getfield 50, 3) := by decide +kernel
theorem dX0_putFurther_88 : decode cX0_putFurther 88 = .ok (.iconst 1, 1) := by decide +kernel
theorem dX0_putFurther_89 : decode cX0_putFurther 89 = .ok (.iadd, 1) := by decide +kernel
theorem dX0_putFurther_90 : decode cX0_putFurther 90 = .ok (.putfield 50, 3) := by decide +kernel
theorem dX0_putFurther_93 : decode cX0_putFurther 93 = .ok (.return_, 1) := by decide +kernel
theorem dX0_takeFurtherAway_0 : decode cX0_takeFurtherAway 0 = .ok (.aload_n 0, 1) := by decide +kernel
theorem dX0_takeFurtherAway_1 : decode cX0_takeFurtherAway 1 = .ok (.getfield 50, 3) := by decide +kernel
theorem dX0_takeFurtherAway_4 : decode cX0_takeFurtherAway 4 = .ok (.iconst 1, 1) := by decide +kernel
theorem dX0_takeFurtherAway_5 : decode cX0_takeFurtherAway 5 = .ok (.if_icmp .lt 12, 3) := by decide +kernel
theorem dX0_takeFurtherAway_8 : decode cX0_takeFurtherAway 8 = .ok (.aload_n 0, 1) := by decide +kernel
theorem dX0_takeFurtherAway_9 : decode cX0_takeFurtherAway 9 = .ok (.getfield 50, 3) := by decide +kernel
theorem dX0_takeFurtherAway_12 : decode cX0_takeFurtherAway 12 = .ok (.bipush 9, 2) := by decide +kernel
theorem dX0_takeFurtherAway_14 : decode cX0_takeFurtherAway 14 = .ok (.if_icmp .le 4, 3) := by decide +kernel
theorem dX0_takeFurtherAway_17 : decode cX0_takeFurtherAway 17 = .ok (.return_, 1) := by decide +kernel
theorem dX0_takeFurtherAway_18 : decode cX0_takeFurtherAway 18 = .ok (.aload_n 0, 1) := by decide +kernel
theorem dX0_takeFurtherAway_19 : decode cX0_takeFurtherAway 19 = .ok (.dup, 1) := by decide +kernel
theorem dX0_takeFurtherAway_20 : decode cX0_takeFurtherAway 20 = .ok (.getfield 50, 3) := by decide +kernel
theorem dX0_takeFurtherAway_23 : decode cX0_takeFurtherAway 23 = .ok (.iconst 1, 1) := by decide +kernel
theorem dX0_takeFurtherAway_24 : decode cX0_takeFurtherAway 24 = .ok (.isub, 1) := by decide +kernel
theorem dX0_takeFurtherAway_25 : decode cX0_takeFurtherAway 25 = .ok (.putfield 50, 3) := by decide +kernel
theorem dX0_takeFurtherAway_28 : decode cX0_takeFurtherAway 28 = .ok (.aload_n 0, 1) := by decide +kernel
theorem dX0_takeFurtherAway_29 : decode cX0_takeFurtherAway 29 = .ok (.getfield 27, 3) := by decide +kernel
theorem dX0_takeFurtherAway_32 : decode cX0_takeFurtherAway 32 = .ok (.aload_n 0, 1) := by decide +kernel
theorem dX0_takeFurtherAway_33 : decode cX0_takeFurtherAway 33 = .ok (.getfield 11, 3) := by decide +kernel
theorem dX0_takeFurtherAway_36 : decode cX0_takeFurtherAway 36 = .ok (.aload_n 0, 1) := by decide +kernel
theorem dX0_takeFurtherAway_37 : decode cX0_takeFurtherAway 37 = .ok (.getfield 50, 3) := by decide +kernel
theorem dX0_takeFurtherAway_40 : decode cX0_takeFurtherAway 40 = .ok (.iaload, 1) := by decide +kernel
theorem dX0_takeFurtherAway_41 : decode cX0_takeFurtherAway 41 = .ok (.aload_n 0, 1) := by decide +kernel
theorem dX0_takeFurtherAway_42 : decode cX0_takeFurtherAway 42 = .ok (.getfield 15, 3) := by decide +kernel
theorem dX0_takeFurtherAway_45 : decode cX0_takeFurtherAway 45 = .ok (.aload_n 0, 1) := by decide +kernel
theorem dX0_takeFurtherAway_46 : decode cX0_takeFurtherAway 46 = .ok (.getfield 50, 3) := by decide +kernel
theorem dX0_takeFurtherAway_49 : decode cX0_takeFurtherAway 49 = .ok (.iaload, 1) := by decide +kernel
theorem dX0_takeFurtherAway_50 : decode cX0_takeFurtherAway 50 = .ok (.aload_n 0, 1) := by decide +kernel
theorem dX0_takeFurtherAway_51 : decode cX0_takeFurtherAway 51 = .ok (.getfield 18, 3) := by decide +kernel
theorem dX0_takeFurtherAway_54 : decode cX0_takeFurtherAway 54 = .ok (.aload_n 0, 1) := by decide +kernel
theorem dX0_takeFurtherAway_55 : decode cX0_takeFurtherAway 55 = .ok (.getfield 50, 3) := by decide +kernel
theorem dX0_takeFurtherAway_58 : decode cX0_takeFurtherAway 58 = .ok (.iaload, 1) := by decide +kernel
theorem dX0_takeFurtherAway_59 : decode cX0_takeFurtherAway 59 = .ok (.ineg, 1) := by decide +kernel
theorem dX0_takeFurtherAway_60 : decode cX0_takeFurtherAway 60 = .ok (.invokevirtual 74, 3) := by decide +kernel
theorem dX0_takeFurtherAway_63 : decode cX0_takeFurtherAway 63 = .ok (.aload_n 0, 1) := by decide +kernel
theorem dX0_takeFurtherAway_64 : decode cX0_takeFurtherAway 64 = .ok (.dup, 1) := by decide +kernel
theorem dX0_takeFurtherAway_65 : decode cX0_takeFurtherAway 65 = .ok (.getfield 68, 3) := by decide +kernel
theorem dX0_takeFurtherAway_68 : decode cX0_takeFurtherAway 68 = .ok (.iconst 1, 1) := by decide +kernel
theorem dX0_takeFurtherAway_69 : decode cX0_takeFurtherAway 69 = .ok (.aload_n 0, 1) := by decide +kernel
theorem dX0_takeFurtherAway_70 : decode cX0_takeFurtherAway 70 = .ok (.getfield 50, 3) := by decide +kernel
theorem dX0_takeFurtherAway_73 : decode cX0_takeFurtherAway 73 = .ok (.ishl, 1) := by decide +kernel
theorem dX0_takeFurtherAway_74 : decode cX0_takeFurtherAway 74 = .ok (.iconst (-1), 1) := by decide +kernel
theorem dX0_takeFurtherAway_75 : decode cX0_takeFurtherAway 75 = .ok (.ixor, 1) := by decide +kernel
theorem dX0_takeFurtherAway_76 : decode cX0_takeFurtherAway 76 = .ok (.iand, 1) := by decide +kernel
theorem dX0_takeFurtherAway_77 : decode cX0_takeFurtherAway 77 = .ok (.putfield 68, 3) := by decide +kernel
theorem dX0_takeFurtherAway_80 : decode cX0_takeFurtherAway 80 = .ok (.return_, 1) := by decide +kernel
theorem dX0_settle_0 : decode cX0_settle 0 = .ok (.aload_n 0, 1) := by decide +kernel
theorem dX0_settle_1 : decode cX0_settle 1 = .ok (.getfield 31, 3) := by decide +kernel
theorem dX0_settle_4 : decode cX0_settle 4 = .ok (.aload_n 0, 1) := by decide +kernel
theorem dX0_settle_5 : decode cX0_settle 5 = .ok (.getfield 27, 3) := by decide +kernel
theorem dX0_settle_8 : decode cX0_settle 8 = .ok (.invokevirtual 78, 3) := by decide +kernel
theorem dX0_settle_11 : decode cX0_settle 11 = .ok (.aload_n 0, 1) := by decide +kernel
theorem dX0_settle_12 : decode cX0_settle 12 = .ok (.aload_n 0, 1) := by decide +kernel
theorem dX0_settle_13 : decode cX0_settle 13 = .ok (.getfield 68, 3) := by decide +kernel
theorem dX0_settle_16 : decode cX0_settle 16 = .ok (.putfield 82, 3) := by decide +kernel
theorem dX0_settle_19 : decode cX0_settle 19 = .ok (.aload_n 0, 1) := by decide +kernel
theorem dX0_settle_20 : decode cX0_settle 20 = .ok (.iconst 0, 1) := by decide +kernel
theorem dX0_settle_21 : decode cX0_settle 21 = .ok (.putfield 85, 3) := by decide +kernel
theorem dX0_settle_24 : decode cX0_settle 24 = .ok (.aload_n 0, 1) := by decide +kernel
theorem dX0_settle_25 : decode cX0_settle 25 = .ok (.iconst 0, 1) := by decide +kernel
theorem dX0_settle_26 : decode cX0_settle 26 = .ok (.putfield 89, 3) := by decide +kernel
theorem dX0_settle_29 : decode cX0_settle 29 = .ok (.iconst 1, 1) := by decide +kernel
theorem dX0_settle_30 : decode cX0_settle 30 = .ok (.istore_n 1, 1) := by decide +kernel
theorem dX0_settle_31 : decode cX0_settle 31 = .ok (.iconst 1, 1) := by decide +kernel
theorem dX0_settle_32 : decode cX0_settle 32 = .ok (.istore_n 2, 1) := by decide +kernel
theorem dX0_settle_33 : decode cX0_settle 33 = .ok (.iload_n 2, 1) := by decide +kernel
theorem dX0_settle_34 : decode cX0_settle 34 = .ok (.bipush 40, 2) := by decide +kernel
theorem dX0_settle_36 : decode cX0_settle 36 = .ok (.if_icmp .gt 23, 3) := by decide +kernel
theorem dX0_settle_39 : decode cX0_settle 39 = .ok (.iload_n 1, 1) := by decide +kernel
theorem dX0_settle_40 : decode cX0_settle 40 = .ok (.ifCond .eq 19, 3) := by decide +kernel
theorem dX0_settle_43 : decode cX0_settle 43 = .ok (.aload_n 0, 1) := by decide +kernel
theorem dX0_settle_44 : decode cX0_settle 44 = .ok (.iload_n 2, 1) := by decide +kernel
theorem dX0_settle_45 : decode cX0_settle 45 = .ok (.putfield 89, 3) := by decide +kernel
theorem dX0_settle_48 : decode cX0_settle 48 = .ok (.aload_n 0, 1) := by decide +kernel
theorem dX0_settle_49 : decode cX0_settle 49 = .ok (.invokevirtual 92, 3) := by decide +kernel
theorem dX0_settle_52 : decode cX0_settle 52 = .ok (.istore_n 1, 1) := by decide +kernel
theorem dX0_settle_53 : decode cX0_settle 53 = .ok (.iinc 2 1, 3) := by decide +kernel
theorem dX0_settle_56 : decode cX0_settle 56 = .ok (.goto (-23), 3) := by decide +kernel
theorem dX0_settle_59 : decode cX0_settle 59 = .ok (.aload_n 0, 1) := by decide +kernel
theorem dX0_settle_60 : decode cX0_settle 60 = .ok (.getfield 85, 3) := by decide +kernel
theorem dX0_settle_63 : decode cX0_settle 63 = .ok (.ifCond .eq 7, 3) := by decide +kernel
theorem dX0_settle_66 : decode cX0_settle 66 = .ok (.aload_n 0, 1) := by decide +kernel
theorem dX0_settle_67 : decode cX0_settle 67 = .ok (.invokevirtual 96, 3) := by decide +kernel
theorem dX0_settle_70 : decode cX0_settle 70 = .ok (.return_, 1) := by decide +kernel
theorem dX0_anotherRoundFollows_0 : decode cX0_anotherRoundFollows 0 = .ok (.aload_n 0, 1) := by decide +kernel
theorem dX0_anotherRoundFollows_1 : decode cX0_anotherRoundFollows 1 = .ok (.getfield 31, 3) := by decide +kernel
theorem dX0_anotherRoundFollows_4 : decode cX0_anotherRoundFollows 4 = .ok (.invokevirtual 99, 3) := by decide +kernel
theorem dX0_anotherRoundFollows_7 : decode cX0_anotherRoundFollows 7 = .ok (.ifCond .ne 5, 3) := by decide +kernel
theorem dX0_anotherRoundFollows_10 : decode cX0_anotherRoundFollows 10 = .ok (.iconst 0, 1) := by decide +kernel
theorem dX0_anotherRoundFollows_11 : decode cX0_anotherRoundFollows 11 = .ok (.ireturn, 1) := by decide +kernel
theorem dX0_anotherRoundFollows_12 : decode cX0_anotherRoundFollows 12 = .ok (.aload_n 0, 1) := by decide +kernel
theorem dX0_anotherRoundFollows_13 : decode cX0_anotherRoundFollows 13 = .ok (.getfield 31, 3) := by decide +kernel
theorem dX0_anotherRoundFollows_16 : decode cX0_anotherRoundFollows 16 = .ok (.aload_n 0, 1) := by decide +kernel
theorem dX0_anotherRoundFollows_17 : decode cX0_anotherRoundFollows 17 = .ok (.getfield 51, 3) := by decide +kernel
theorem dX0_anotherRoundFollows_20 : decode cX0_anotherRoundFollows 20 = .ok (.aload_n 0, 1) := by decide +kernel
theorem dX0_anotherRoundFollows_21 : decode cX0_anotherRoundFollows 21 = .ok (.getfield 55, 3) := by decide +kernel
theorem dX0_anotherRoundFollows_24 : decode cX0_anotherRoundFollows 24 = .ok (.aload_n 0, 1) := by decide +kernel
theorem dX0_anotherRoundFollows_25 : decode cX0_anotherRoundFollows 25 = .ok (.getfield 58, 3) := by decide +kernel
theorem dX0_anotherRoundFollows_28 : decode cX0_anotherRoundFollows 28 = .ok (.invokevirtual 102, 3) := by decide +kernel
theorem dX0_anotherRoundFollows_31 : decode cX0_anotherRoundFollows 31 = .ok (.aload_n 0, 1) := by decide +kernel
theorem dX0_anotherRoundFollows_32 : decode cX0_anotherRoundFollows 32 = .ok (.invokevirtual 106, 3) := by decide +kernel
theorem dX0_anotherRoundFollows_35 : decode cX0_anotherRoundFollows 35 = .ok (.istore_n 1, 1) := by decide +kernel
theorem dX0_anotherRoundFollows_36 : decode cX0_anotherRoundFollows 36 = .ok (.iload_n 1, 1) := by decide +kernel
theorem dX0_anotherRoundFollows_37 : decode cX0_anotherRoundFollows 37 = .ok (.ifCond .lt 45, 3) := by decide +kernel
theorem dX0_anotherRoundFollows_40 : decode cX0_anotherRoundFollows 40 = .ok (.aload_n 0, 1) := by decide +kernel
theorem dX0_anotherRoundFollows_41 : decode cX0_anotherRoundFollows 41 = .ok (.dup, 1) := by decide +kernel
theorem dX0_anotherRoundFollows_42 : decode cX0_anotherRoundFollows 42 = .ok (.getfield 82, 3) := by decide +kernel
theorem dX0_anotherRoundFollows_45 : decode cX0_anotherRoundFollows 45 = .ok (.iconst 1, 1) := by decide +kernel
theorem dX0_anotherRoundFollows_46 : decode cX0_anotherRoundFollows 46 = .ok (.iload_n 1, 1) := by decide +kernel
theorem dX0_anotherRoundFollows_47 : decode cX0_anotherRoundFollows 47 = .ok (.ishl, 1) := by decide +kernel
theorem dX0_anotherRoundFollows_48 : decode cX0_anotherRoundFollows 48 = .ok (.iconst (-1), 1) := by decide +kernel
theorem dX0_anotherRoundFollows_49 : decode cX0_anotherRoundFollows 49 = .ok (.ixor, 1) := by decide +kernel
theorem dX0_anotherRoundFollows_50 : decode cX0_anotherRoundFollows 50 = .ok (.iand, 1) := by decide +kernel
theorem dX0_anotherRoundFollows_51 : decode cX0_anotherRoundFollows 51 = .ok (.putfield 82, 3) := by decide +kernel
theorem dX0_anotherRoundFollows_54 : decode cX0_anotherRoundFollows 54 = .ok (.aload_n 0, 1) := by decide +kernel
theorem dX0_anotherRoundFollows_55 : decode cX0_anotherRoundFollows 55 = .ok (.getfield 31, 3) := by decide +kernel
theorem dX0_anotherRoundFollows_58 : decode cX0_anotherRoundFollows 58 = .ok (.aload_n 0, 1) := by decide +kernel
theorem dX0_anotherRoundFollows_59 : decode cX0_anotherRoundFollows 59 = .ok (.getfield 11, 3) := by decide +kernel
theorem dX0_anotherRoundFollows_62 : decode cX0_anotherRoundFollows 62 = .ok (.iload_n 1, 1) := by decide +kernel
theorem dX0_anotherRoundFollows_63 : decode cX0_anotherRoundFollows 63 = .ok (.iaload, 1) := by decide +kernel
theorem dX0_anotherRoundFollows_64 : decode cX0_anotherRoundFollows 64 = .ok (.aload_n 0, 1) := by decide +kernel
theorem dX0_anotherRoundFollows_65 : decode cX0_anotherRoundFollows 65 = .ok (.getfield 15, 3) := by decide +kernel
theorem dX0_anotherRoundFollows_68 : decode cX0_anotherRoundFollows 68 = .ok (.iload_n 1, 1) := by decide +kernel
theorem dX0_anotherRoundFollows_69 : decode cX0_anotherRoundFollows 69 = .ok (.iaload, 1) := by decide +kernel
theorem dX0_anotherRoundFollows_70 : decode cX0_anotherRoundFollows 70 = .ok (.aload_n 0, 1) := by decide +kernel
theorem dX0_anotherRoundFollows_71 : decode cX0_anotherRoundFollows 71 = .ok (.getfield 18, 3) := by decide +kernel
theorem dX0_anotherRoundFollows_74 : decode cX0_anotherRoundFollows 74 = .ok (.iload_n 1, 1) := by decide +kernel
theorem dX0_anotherRoundFollows_75 : decode cX0_anotherRoundFollows 75 = .ok (.iaload, 1) := by decide +kernel
theorem dX0_anotherRoundFollows_76 : decode cX0_anotherRoundFollows 76 = .ok (.ineg, 1) := by decide +kernel
theorem dX0_anotherRoundFollows_77 : decode cX0_anotherRoundFollows 77 = .ok (.invokevirtual 74, 3) := by decide +kernel
theorem dX0_anotherRoundFollows_80 : decode cX0_anotherRoundFollows 80 = .ok (.iconst 1, 1) := by decide +kernel
theorem dX0_anotherRoundFollows_81 : decode cX0_anotherRoundFollows 81 = .ok (.ireturn, 1) := by decide +kernel
theorem dX0_anotherRoundFollows_82 : decode cX0_anotherRoundFollows 82 = .ok (.aload_n 0, 1) := by decide +kernel
theorem dX0_anotherRoundFollows_83 : decode cX0_anotherRoundFollows 83 = .ok (.invokevirtual 110, 3) := by decide +kernel
theorem dX0_anotherRoundFollows_86 : decode cX0_anotherRoundFollows 86 = .ok (.istore_n 2, 1) := by decide +kernel
theorem dX0_anotherRoundFollows_87 : decode cX0_anotherRoundFollows 87 = .ok (.iload_n 2, 1) := by decide +kernel
theorem dX0_anotherRoundFollows_88 : decode cX0_anotherRoundFollows 88 = .ok (.ifCond .lt 42, 3) := by decide +kernel
theorem dX0_anotherRoundFollows_91 : decode cX0_anotherRoundFollows 91 = .ok (.aload_n 0, 1) := by decide +kernel
theorem dX0_anotherRoundFollows_92 : decode cX0_anotherRoundFollows 92 = .ok (.dup, 1) := by decide +kernel
theorem dX0_anotherRoundFollows_93 : decode cX0_anotherRoundFollows 93 = .ok (.getfield 82, 3) := by decide +kernel
theorem dX0_anotherRoundFollows_96 : decode cX0_anotherRoundFollows 96 = .ok (.iconst 1, 1) := by decide +kernel
theorem dX0_anotherRoundFollows_97 : decode cX0_anotherRoundFollows 97 = .ok (.iload_n 2, 1) := by decide +kernel
theorem dX0_anotherRoundFollows_98 : decode cX0_anotherRoundFollows 98 = .ok (.ishl, 1) := by decide +kernel
theorem dX0_anotherRoundFollows_99 : decode cX0_anotherRoundFollows 99 = .ok (.ior, 1) := by decide +kernel
theorem dX0_anotherRoundFollows_100 : decode cX0_anotherRoundFollows 100 = .ok (.putfield 82, 3) := by decide +kernel
theorem dX0_anotherRoundFollows_103 : decode cX0_anotherRoundFollows 103 = .ok (.aload_n 0, 1) := by decide +kernel
theorem dX0_anotherRoundFollows_104 : decode cX0_anotherRoundFollows 104 = .ok (.getfield 31, 3) := by decide +kernel
theorem dX0_anotherRoundFollows_107 : decode cX0_anotherRoundFollows 107 = .ok (.aload_n 0, 1) := by decide +kernel
theorem dX0_anotherRoundFollows_108 : decode cX0_anotherRoundFollows 108 = .ok (.getfield 11, 3) := by decide +kernel
theorem dX0_anotherRoundFollows_111 : decode cX0_anotherRoundFollows 111 = .ok (.iload_n 2, 1) := by decide +kernel
theorem dX0_anotherRoundFollows_112 : decode cX0_anotherRoundFollows 112 = .ok (.iaload, 1) := by decide +kernel
theorem dX0_anotherRoundFollows_113 : decode cX0_anotherRoundFollows 113 = .ok (.aload_n 0, 1) := by decide +kernel
theorem dX0_anotherRoundFollows_114 : decode cX0_anotherRoundFollows 114 = .ok (.getfield 15, 3) := by decide +kernel
theorem dX0_anotherRoundFollows_117 : decode cX0_anotherRoundFollows 117 = .ok (.iload_n 2, 1) := by decide +kernel
theorem dX0_anotherRoundFollows_118 : decode cX0_anotherRoundFollows 118 = .ok (.iaload, 1) := by decide +kernel
theorem dX0_anotherRoundFollows_119 : decode cX0_anotherRoundFollows 119 = .ok (.aload_n 0, 1) := by decide +kernel
theorem dX0_anotherRoundFollows_120 : decode cX0_anotherRoundFollows 120 = .ok (.getfield 18, 3) := by decide +kernel
theorem dX0_anotherRoundFollows_123 : decode cX0_anotherRoundFollows 123 = .ok (.iload_n 2, 1) := by decide +kernel
theorem dX0_anotherRoundFollows_124 : decode cX0_anotherRoundFollows 124 = .ok (.iaload, 1) := by decide +kernel
theorem dX0_anotherRoundFollows_125 : decode cX0_anotherRoundFollows 125 = .ok (.invokevirtual 74, 3) := by decide +kernel
theorem dX0_anotherRoundFollows_128 : decode cX0_anotherRoundFollows 128 = .ok (.iconst 1, 1) := by decide +kernel
theorem dX0_anotherRoundFollows_129 : decode cX0_anotherRoundFollows 129 = .ok (.ireturn, 1) := by decide +kernel
theorem dX0_anotherRoundFollows_130 : decode cX0_anotherRoundFollows 130 = .ok (.aload_n 0, 1) := by decide +kernel
theorem dX0_anotherRoundFollows_131 : decode cX0_anotherRoundFollows 131 = .ok (.iconst 1, 1) := by decide +kernel
theorem dX0_anotherRoundFollows_132 : decode cX0_anotherRoundFollows 132 = .ok (.putfield 85, 3) := by decide +kernel
theorem dX0_anotherRoundFollows_135 : decode cX0_anotherRoundFollows 135 = .ok (.iconst 0, 1) := by decide +kernel
theorem dX0_anotherRoundFollows_136 : decode cX0_anotherRoundFollows 136 = .ok (.ireturn, 1) := by decide +kernel
theorem dX0_mostPulled_0 : decode cX0_mostPulled 0 = .ok (.iconst (-1), 1) := by decide +kernel
theorem dX0_mostPulled_1 : decode cX0_mostPulled 1 = .ok (.istore_n 1, 1) := by decide +kernel
theorem dX0_mostPulled_2 : decode cX0_mostPulled 2 = .ok (.lconst 0, 1) := by decide +kernel
theorem dX0_mostPulled_3 : decode cX0_mostPulled 3 = .ok (.lstore_n 2, 1) := by decide +kernel
theorem dX0_mostPulled_4 : decode cX0_mostPulled 4 = .ok (.iconst 0, 1) := by decide +kernel
theorem dX0_mostPulled_5 : decode cX0_mostPulled 5 = .ok (.istore 4, 2) := by decide +kernel
theorem dX0_mostPulled_7 : decode cX0_mostPulled 7 = .ok (.iload 4, 2) := by decide +kernel
theorem dX0_mostPulled_9 : decode cX0_mostPulled 9 = .ok (.aload_n 0, 1) := by decide +kernel
theorem dX0_mostPulled_10 : decode cX0_mostPulled 10 = .ok (.getfield 50, 3) := by decide +kernel
theorem dX0_mostPulled_13 : decode cX0_mostPulled 13 = .ok (.if_icmp .ge 67, 3) := by decide +kernel
theorem dX0_mostPulled_16 : decode cX0_mostPulled 16 = .ok (.aload_n 0, 1) := by decide +kernel
theorem dX0_mostPulled_17 : decode cX0_mostPulled 17 = .ok (.getfield 82, 3) := by decide +kernel
theorem dX0_mostPulled_20 : decode cX0_mostPulled 20 = .ok (.iload 4, 2) := by decide +kernel
theorem dX0_mostPulled_22 : decode cX0_mostPulled 22 = .ok (.ishr, 1) := by decide +kernel
theorem dX0_mostPulled_23 : decode cX0_mostPulled 23 = .ok (.iconst 1, 1) := by decide +kernel
theorem dX0_mostPulled_24 : decode cX0_mostPulled 24 = .ok (.iand, 1) := by decide +kernel
theorem dX0_mostPulled_25 : decode cX0_mostPulled 25 = .ok (.iconst 1, 1) := by decide +kernel
theorem dX0_mostPulled_26 : decode cX0_mostPulled 26 = .ok (.if_icmp .ne 48, 3) := by decide +kernel
theorem dX0_mostPulled_29 : decode cX0_mostPulled 29 = .ok (.aload_n 0, 1) := by decide +kernel
theorem dX0_mostPulled_30 : decode cX0_mostPulled 30 = .ok (.getfield 18, 3) := by decide +kernel
theorem dX0_mostPulled_33 : decode cX0_mostPulled 33 = .ok (.iload 4, 2) := by decide +kernel
theorem dX0_mostPulled_35 : decode cX0_mostPulled 35 = .ok (.iaload, 1) := by decide +kernel
theorem dX0_mostPulled_36 : decode cX0_mostPulled 36 = .ok (.i2l, 1) := by decide +kernel
theorem dX0_mostPulled_37 : decode cX0_mostPulled 37 = .ok (.aload_n 0, 1) := by decide +kernel
theorem dX0_mostPulled_38 : decode cX0_mostPulled 38 = .ok (.getfield 31, 3) := by decide +kernel
theorem dX0_mostPulled_41 : decode cX0_mostPulled 41 = .ok (.aload_n 0, 1) := by decide +kernel
theorem dX0_mostPulled_42 : decode cX0_mostPulled 42 = .ok (.getfield 11, 3) := by decide +kernel
theorem dX0_mostPulled_45 : decode cX0_mostPulled 45 = .ok (.iload 4, 2) := by decide +kernel
theorem dX0_mostPulled_47 : decode cX0_mostPulled 47 = .ok (.iaload, 1) := by decide +kernel
theorem dX0_mostPulled_48 : decode cX0_mostPulled 48 = .ok (.aload_n 0, 1) := by decide +kernel
theorem dX0_mostPulled_49 : decode cX0_mostPulled 49 = .ok (.getfield 15, 3) := by decide +kernel
theorem dX0_mostPulled_52 : decode cX0_mostPulled 52 = .ok (.iload 4, 2) := by decide +kernel
theorem dX0_mostPulled_54 : decode cX0_mostPulled 54 = .ok (.iaload, 1) := by decide +kernel
theorem dX0_mostPulled_55 : decode cX0_mostPulled 55 = .ok (.invokevirtual 113, 3) := by decide +kernel
theorem dX0_mostPulled_58 : decode cX0_mostPulled 58 = .ok (.lmul, 1) := by decide +kernel
theorem dX0_mostPulled_59 : decode cX0_mostPulled 59 = .ok (.lstore 5, 2) := by decide +kernel
theorem dX0_mostPulled_61 : decode cX0_mostPulled 61 = .ok (.lload 5, 2) := by decide +kernel
theorem dX0_mostPulled_63 : decode cX0_mostPulled 63 = .ok (.lload_n 2, 1) := by decide +kernel
theorem dX0_mostPulled_64 : decode cX0_mostPulled 64 = .ok (.lcmp, 1) := by decide +kernel
theorem dX0_mostPulled_65 : decode cX0_mostPulled 65 = .ok (.ifCond .ge 9, 3) := by decide +kernel
theorem dX0_mostPulled_68 : decode cX0_mostPulled 68 = .ok (.lload 5, 2) := by decide +kernel
theorem dX0_mostPulled_70 : decode cX0_mostPulled 70 = .ok (.lstore_n 2, 1) := by decide +kernel
theorem dX0_mostPulled_71 : decode cX0_mostPulled 71 = .ok (.iload 4, 2) := by decide +kernel
theorem dX0_mostPulled_73 : decode cX0_mostPulled 73 = .ok (.istore_n 1, 1) := by decide +kernel
theorem dX0_mostPulled_74 : decode cX0_mostPulled 74 = .ok (.iinc 4 1, 3) := by decide +kernel
theorem dX0_mostPulled_77 : decode cX0_mostPulled 77 = .ok (.goto (-70), 3) := by decide +kernel
theorem dX0_mostPulled_80 : decode cX0_mostPulled 80 = .ok (.iload_n 1, 1) := by decide +kernel
theorem dX0_mostPulled_81 : decode cX0_mostPulled 81 = .ok (.ireturn, 1) := by decide +kernel
theorem dX0_mostPressedOfReleased_0 : decode cX0_mostPressedOfReleased 0 = .ok (.aload_n 0, 1) := by decide +kernel
theorem dX0_mostPressedOfReleased_1 : decode cX0_mostPressedOfReleased 1 = .ok (.getfield 68, 3) := by decide +kernel
theorem dX0_mostPressedOfReleased_4 : decode cX0_mostPressedOfReleased 4 = .ok (.aload_n 0, 1) := by decide +kernel
theorem dX0_mostPressedOfReleased_5 : decode cX0_mostPressedOfReleased 5 = .ok (.getfield 82, 3) := by decide +kernel
theorem dX0_mostPressedOfReleased_8 : decode cX0_mostPressedOfReleased 8 = .ok (.iconst (-1), 1) := by decide +kernel
theorem dX0_mostPressedOfReleased_9 : decode cX0_mostPressedOfReleased 9 = .ok (.ixor, 1) := by decide +kernel
theorem dX0_mostPressedOfReleased_10 : decode cX0_mostPressedOfReleased 10 = .ok (.iand, 1) := by decide +kernel
theorem dX0_mostPressedOfReleased_11 : decode cX0_mostPressedOfReleased 11 = .ok (.istore_n 1, 1) := by decide +kernel
theorem dX0_mostPressedOfReleased_12 : decode cX0_mostPressedOfReleased 12 = .ok (.iconst (-1), 1) := by decide +kernel
theorem dX0_mostPressedOfReleased_13 : decode cX0_mostPressedOfReleased 13 = .ok (.istore_n 2, 1) := by decide +kernel
theorem dX0_mostPressedOfReleased_14 : decode cX0_mostPressedOfReleased 14 = .ok (.lconst 0, 1) := by decide +kernel
theorem dX0_mostPressedOfReleased_15 : decode cX0_mostPressedOfReleased 15 = .ok (.lstore_n 3, 1) := by decide +kernel
theorem dX0_mostPressedOfReleased_16 : decode cX0_mostPressedOfReleased 16 = .ok (.iconst 0, 1) := by decide +kernel
theorem dX0_mostPressedOfReleased_17 : decode cX0_mostPressedOfReleased 17 = .ok (.istore 5, 2) := by decide +kernel
theorem dX0_mostPressedOfReleased_19 : decode cX0_mostPressedOfReleased 19 = .ok (.iload 5, 2) := by decide +kernel
theorem dX0_mostPressedOfReleased_21 : decode cX0_mostPressedOfReleased 21 = .ok (.aload_n 0, 1) := by decide +kernel
theorem dX0_mostPressedOfReleased_22 : decode cX0_mostPressedOfReleased 22 = .ok (.getfield 50, 3) := by decide +kernel
theorem dX0_mostPressedOfReleased_25 : decode cX0_mostPressedOfReleased 25 = .ok (.if_icmp .ge 59, 3) := by decide +kernel
theorem dX0_mostPressedOfReleased_28 : decode cX0_mostPressedOfReleased 28 = .ok (.iload_n 1, 1) := by decide +kernel
theorem dX0_mostPressedOfReleased_29 : decode cX0_mostPressedOfReleased 29 = .ok (.ifCond .eq 55, 3) := by decide +kernel
theorem dX0_mostPressedOfReleased_32 : decode cX0_mostPressedOfReleased 32 = .ok (.iload_n 1, 1) := by decide +kernel
theorem dX0_mostPressedOfReleased_33 : decode cX0_mostPressedOfReleased 33 = .ok (.iload 5, 2) := by decide +kernel
theorem dX0_mostPressedOfReleased_35 : decode cX0_mostPressedOfReleased 35 = .ok (.ishr, 1) := by decide +kernel
theorem dX0_mostPressedOfReleased_36 : decode cX0_mostPressedOfReleased 36 = .ok (.iconst 1, 1) := by decide +kernel
theorem dX0_mostPressedOfReleased_37 : decode cX0_mostPressedOfReleased 37 = .ok (.iand, 1) := by decide +kernel
theorem dX0_mostPressedOfReleased_38 : decode cX0_mostPressedOfReleased 38 = .ok (.iconst 1, 1) := by decide +kernel
theorem dX0_mostPressedOfReleased_39 : decode cX0_mostPressedOfReleased 39 = .ok (.if_icmp .ne 39, 3) := by decide +kernel
theorem dX0_mostPressedOfReleased_42 : decode cX0_mostPressedOfReleased 42 = .ok (.aload_n 0, 1) := by decide +kernel
theorem dX0_mostPressedOfReleased_43 : decode cX0_mostPressedOfReleased 43 = .ok (.getfield 31, 3) := by decide +kernel
theorem dX0_mostPressedOfReleased_46 : decode cX0_mostPressedOfReleased 46 = .ok (.aload_n 0, 1) := by decide +kernel
theorem dX0_mostPressedOfReleased_47 : decode cX0_mostPressedOfReleased 47 = .ok (.getfield 11, 3) := by decide +kernel
theorem dX0_mostPressedOfReleased_50 : decode cX0_mostPressedOfReleased 50 = .ok (.iload 5, 2) := by decide +kernel
theorem dX0_mostPressedOfReleased_52 : decode cX0_mostPressedOfReleased 52 = .ok (.iaload, 1) := by decide +kernel
theorem dX0_mostPressedOfReleased_53 : decode cX0_mostPressedOfReleased 53 = .ok (.aload_n 0, 1) := by decide +kernel
theorem dX0_mostPressedOfReleased_54 : decode cX0_mostPressedOfReleased 54 = .ok (.getfield 15, 3) := by decide +kernel
theorem dX0_mostPressedOfReleased_57 : decode cX0_mostPressedOfReleased 57 = .ok (.iload 5, 2) := by decide +kernel
theorem dX0_mostPressedOfReleased_59 : decode cX0_mostPressedOfReleased 59 = .ok (.iaload, 1) := by decide +kernel
theorem dX0_mostPressedOfReleased_60 : decode cX0_mostPressedOfReleased 60 = .ok (.invokevirtual 113, 3) := by decide +kernel
theorem dX0_mostPressedOfReleased_63 : decode cX0_mostPressedOfReleased 63 = .ok (.lstore 6, 2) := by decide +kernel
theorem dX0_mostPressedOfReleased_65 : decode cX0_mostPressedOfReleased 65 = .ok (.lload 6, 2) := by decide +kernel
theorem dX0_mostPressedOfReleased_67 : decode cX0_mostPressedOfReleased 67 = .ok (.lload_n 3, 1) := by decide +kernel
theorem dX0_mostPressedOfReleased_68 : decode cX0_mostPressedOfReleased 68 = .ok (.lcmp, 1) := by decide +kernel
theorem dX0_mostPressedOfReleased_69 : decode cX0_mostPressedOfReleased 69 = .ok (.ifCond .le 9, 3) := by decide +kernel
theorem dX0_mostPressedOfReleased_72 : decode cX0_mostPressedOfReleased 72 = .ok (.lload 6, 2) := by decide +kernel
theorem dX0_mostPressedOfReleased_74 : decode cX0_mostPressedOfReleased 74 = .ok (.lstore_n 3, 1) := by decide +kernel
theorem dX0_mostPressedOfReleased_75 : decode cX0_mostPressedOfReleased 75 = .ok (.iload 5, 2) := by decide +kernel
theorem dX0_mostPressedOfReleased_77 : decode cX0_mostPressedOfReleased 77 = .ok (.istore_n 2, 1) := by decide +kernel
theorem dX0_mostPressedOfReleased_78 : decode cX0_mostPressedOfReleased 78 = .ok (.iinc 5 1, 3) := by decide +kernel
theorem dX0_mostPressedOfReleased_81 : decode cX0_mostPressedOfReleased 81 = .ok (.goto (-62), 3) := by decide +kernel
theorem dX0_mostPressedOfReleased_84 : decode cX0_mostPressedOfReleased 84 = .ok (.iload_n 2, 1) := by decide +kernel
theorem dX0_mostPressedOfReleased_85 : decode cX0_mostPressedOfReleased 85 = .ok (.ireturn, 1) := by decide +kernel
theorem dX0_findMostUsed_0 : decode cX0_findMostUsed 0 = .ok (.aload_n 0, 1) := by decide +kernel
theorem dX0_findMostUsed_1 : decode cX0_findMostUsed 1 = .ok (.iconst (-1), 1) := by decide +kernel
theorem dX0_findMostUsed_2 : decode cX0_findMostUsed 2 = .ok (.putfield 117, 3) := by decide +kernel
theorem dX0_findMostUsed_5 : decode cX0_findMostUsed 5 = .ok (.lconst 0, 1) := by decide +kernel
theorem dX0_findMostUsed_6 : decode cX0_findMostUsed 6 = .ok (.lstore_n 1, 1) := by decide +kernel
theorem dX0_findMostUsed_7 : decode cX0_findMostUsed 7 = .ok (.iconst 0, 1) := by decide +kernel
theorem dX0_findMostUsed_8 : decode cX0_findMostUsed 8 = .ok (.istore_n 3, 1) := by decide +kernel
theorem dX0_findMostUsed_9 : decode cX0_findMostUsed 9 = .ok (.iload_n 3, 1) := by decide +kernel
theorem dX0_findMostUsed_10 : decode cX0_findMostUsed 10 = .ok (.aload_n 0, 1) := by decide +kernel
theorem dX0_findMostUsed_11 : decode cX0_findMostUsed 11 = .ok (.getfield 50, 3) := by decide +kernel
theorem dX0_findMostUsed_14 : decode cX0_findMostUsed 14 = .ok (.if_icmp .ge 69, 3) := by decide +kernel
theorem dX0_findMostUsed_17 : decode cX0_findMostUsed 17 = .ok (.aload_n 0, 1) := by decide +kernel
theorem dX0_findMostUsed_18 : decode cX0_findMostUsed 18 = .ok (.getfield 68, 3) := by decide +kernel
theorem dX0_findMostUsed_21 : decode cX0_findMostUsed 21 = .ok (.iload_n 3, 1) := by decide +kernel
theorem dX0_findMostUsed_22 : decode cX0_findMostUsed 22 = .ok (.ishr, 1) := by decide +kernel
theorem dX0_findMostUsed_23 : decode cX0_findMostUsed 23 = .ok (.iconst 1, 1) := by decide +kernel
theorem dX0_findMostUsed_24 : decode cX0_findMostUsed 24 = .ok (.iand, 1) := by decide +kernel
theorem dX0_findMostUsed_25 : decode cX0_findMostUsed 25 = .ok (.iconst 1, 1) := by decide +kernel
theorem dX0_findMostUsed_26 : decode cX0_findMostUsed 26 = .ok (.if_icmp .ne 51, 3) := by decide +kernel
theorem dX0_findMostUsed_29 : decode cX0_findMostUsed 29 = .ok (.aload_n 0, 1) := by decide +kernel
theorem dX0_findMostUsed_30 : decode cX0_findMostUsed 30 = .ok (.iload_n 3, 1) := by decide +kernel
theorem dX0_findMostUsed_31 : decode cX0_findMostUsed 31 = .ok (.invokevirtual 120, 3) := by decide +kernel
theorem dX0_findMostUsed_34 : decode cX0_findMostUsed 34 = .ok (.lstore 4, 2) := by decide +kernel
theorem dX0_findMostUsed_36 : decode cX0_findMostUsed 36 = .ok (.aload_n 0, 1) := by decide +kernel
theorem dX0_findMostUsed_37 : decode cX0_findMostUsed 37 = .ok (.getfield 117, 3) := by decide +kernel
theorem dX0_findMostUsed_40 : decode cX0_findMostUsed 40 = .ok (.ifCond .lt 29, 3) := by decide +kernel
theorem dX0_findMostUsed_43 : decode cX0_findMostUsed 43 = .ok (.lload 4, 2) := by decide +kernel
theorem dX0_findMostUsed_45 : decode cX0_findMostUsed 45 = .ok (.aload_n 0, 1) := by decide +kernel
theorem dX0_findMostUsed_46 : decode cX0_findMostUsed 46 = .ok (.getfield 21, 3) := by decide +kernel
theorem dX0_findMostUsed_49 : decode cX0_findMostUsed 49 = .ok (.aload_n 0, 1) := by decide +kernel
theorem dX0_findMostUsed_50 : decode cX0_findMostUsed 50 = .ok (.getfield 117, 3) := by decide +kernel
theorem dX0_findMostUsed_53 : decode cX0_findMostUsed 53 = .ok (.iaload, 1) := by decide +kernel
theorem dX0_findMostUsed_54 : decode cX0_findMostUsed 54 = .ok (.i2l, 1) := by decide +kernel
theorem dX0_findMostUsed_55 : decode cX0_findMostUsed 55 = .ok (.lmul, 1) := by decide +kernel
theorem dX0_findMostUsed_56 : decode cX0_findMostUsed 56 = .ok (.lload_n 1, 1) := by decide +kernel
theorem dX0_findMostUsed_57 : decode cX0_findMostUsed 57 = .ok (.aload_n 0, 1) := by decide +kernel
theorem dX0_findMostUsed_58 : decode cX0_findMostUsed 58 = .ok (.getfield 21, 3) := by decide +kernel
theorem dX0_findMostUsed_61 : decode cX0_findMostUsed 61 = .ok (.iload_n 3, 1) := by decide +kernel
theorem dX0_findMostUsed_62 : decode cX0_findMostUsed 62 = .ok (.iaload, 1) := by decide +kernel
theorem dX0_findMostUsed_63 : decode cX0_findMostUsed 63 = .ok (.i2l, 1) := by decide +kernel
theorem dX0_findMostUsed_64 : decode cX0_findMostUsed 64 = .ok (.lmul, 1) := by decide +kernel
theorem dX0_findMostUsed_65 : decode cX0_findMostUsed 65 = .ok (.lcmp, 1) := by decide +kernel
theorem dX0_findMostUsed_66 : decode cX0_findMostUsed 66 = .ok (.ifCond .le 11, 3) := by decide +kernel
theorem dX0_findMostUsed_69 : decode cX0_findMostUsed 69 = .ok (.aload_n 0, 1) := by decide +kernel
theorem dX0_findMostUsed_70 : decode cX0_findMostUsed 70 = .ok (.iload_n 3, 1) := by decide +kernel
theorem dX0_findMostUsed_71 : decode cX0_findMostUsed 71 = .ok (.putfield 117, 3) := by decide +kernel
theorem dX0_findMostUsed_74 : decode cX0_findMostUsed 74 = .ok (.lload 4, 2) := by decide +kernel
theorem dX0_findMostUsed_76 : decode cX0_findMostUsed 76 = .ok (.lstore_n 1, 1) := by decide +kernel
theorem dX0_findMostUsed_77 : decode cX0_findMostUsed 77 = .ok (.iinc 3 1, 3) := by decide +kernel
theorem dX0_findMostUsed_80 : decode cX0_findMostUsed 80 = .ok (.goto (-71), 3) := by decide +kernel
theorem dX0_findMostUsed_83 : decode cX0_findMostUsed 83 = .ok (.return_, 1) := by decide +kernel
theorem dX0_pullsNoPile_0 : decode cX0_pullsNoPile 0 = .ok (.aload_n 0, 1) := by decide +kernel
theorem dX0_pullsNoPile_1 : decode cX0_pullsNoPile 1 = .ok (.getfield 31, 3) := by decide +kernel
theorem dX0_pullsNoPile_4 : decode cX0_pullsNoPile 4 = .ok (.lconst 1, 1) := by decide +kernel
theorem dX0_pullsNoPile_5 : decode cX0_pullsNoPile 5 = .ok (.iload_n 1, 1) := by decide +kernel
theorem dX0_pullsNoPile_6 : decode cX0_pullsNoPile 6 = .ok (.i2l, 1) := by decide +kernel
theorem dX0_pullsNoPile_7 : decode cX0_pullsNoPile 7 = .ok (.iload_n 2, 1) := by decide +kernel
theorem dX0_pullsNoPile_8 : decode cX0_pullsNoPile 8 = .ok (.i2l, 1) := by decide +kernel
theorem dX0_pullsNoPile_9 : decode cX0_pullsNoPile 9 = .ok (.invokevirtual 102, 3) := by decide +kernel
theorem dX0_pullsNoPile_12 : decode cX0_pullsNoPile 12 = .ok (.aload_n 0, 1) := by decide +kernel
theorem dX0_pullsNoPile_13 : decode cX0_pullsNoPile 13 = .ok (.invokevirtual 106, 3) := by decide +kernel
theorem dX0_pullsNoPile_16 : decode cX0_pullsNoPile 16 = .ok (.ifCond .ge 7, 3) := by decide +kernel
theorem dX0_pullsNoPile_19 : decode cX0_pullsNoPile 19 = .ok (.iconst 1, 1) := by decide +kernel
theorem dX0_pullsNoPile_20 : decode cX0_pullsNoPile 20 = .ok (.goto 4, 3) := by decide +kernel
theorem dX0_pullsNoPile_23 : decode cX0_pullsNoPile 23 = .ok (.iconst 0, 1) := by decide +kernel
theorem dX0_pullsNoPile_24 : decode cX0_pullsNoPile 24 = .ok (.ireturn, 1) := by decide +kernel
theorem dX0_braceAll_0 : decode cX0_braceAll 0 = .ok (.aload_n 0, 1) := by decide +kernel
theorem dX0_braceAll_1 : decode cX0_braceAll 1 = .ok (.iload_n 1, 1) := by decide +kernel
theorem dX0_braceAll_2 : decode cX0_braceAll 2 = .ok (.invokevirtual 61, 3) := by decide +kernel
theorem dX0_braceAll_5 : decode cX0_braceAll 5 = .ok (.aload_n 0, 1) := by decide +kernel
theorem dX0_braceAll_6 : decode cX0_braceAll 6 = .ok (.getfield 31, 3) := by decide +kernel
theorem dX0_braceAll_9 : decode cX0_braceAll 9 = .ok (.aload_n 0, 1) := by decide +kernel
theorem dX0_braceAll_10 : decode cX0_braceAll 10 = .ok (.getfield 27, 3) := by decide +kernel
theorem dX0_braceAll_13 : decode cX0_braceAll 13 = .ok (.invokevirtual 78, 3) := by decide +kernel
theorem dX0_braceAll_16 : decode cX0_braceAll 16 = .ok (.aload_n 0, 1) := by decide +kernel
theorem dX0_braceAll_17 : decode cX0_braceAll 17 = .ok (.aload_n 0, 1) := by decide +kernel
theorem dX0_braceAll_18 : decode cX0_braceAll 18 = .ok (.getfield 68, 3) := by decide +kernel
theorem dX0_braceAll_21 : decode cX0_braceAll 21 = .ok (.putfield 82, 3) := by decide +kernel
theorem dX0_braceAll_24 : decode cX0_braceAll 24 = .ok (.aload_n 0, 1) := by decide +kernel
theorem dX0_braceAll_25 : decode cX0_braceAll 25 = .ok (.getfield 31, 3) := by decide +kernel
theorem dX0_braceAll_28 : decode cX0_braceAll 28 = .ok (.invokevirtual 99, 3) := by decide +kernel
theorem dX0_braceAll_31 : decode cX0_braceAll 31 = .ok (.ireturn, 1) := by decide +kernel
theorem dX0_isActive_0 : decode cX0_isActive 0 = .ok (.aload_n 0, 1) := by decide +kernel
theorem dX0_isActive_1 : decode cX0_isActive 1 = .ok (.getfield 82, 3) := by decide +kernel
theorem dX0_isActive_4 : decode cX0_isActive 4 = .ok (.iload_n 1, 1) := by decide +kernel
theorem dX0_isActive_5 : decode cX0_isActive 5 = .ok (.ishr, 1) := by decide +kernel
theorem dX0_isActive_6 : decode cX0_isActive 6 = .ok (.iconst 1, 1) := by decide +kernel
theorem dX0_isActive_7 : decode cX0_isActive 7 = .ok (.iand, 1) := by decide +kernel
theorem dX0_isActive_8 : decode cX0_isActive 8 = .ok (.iconst 1, 1) := by decide +kernel
theorem dX0_isActive_9 : decode cX0_isActive 9 = .ok (.if_icmp .ne 7, 3) := by decide +kernel
theorem dX0_isActive_12 : decode cX0_isActive 12 = .ok (.iconst 1, 1) := by decide +kernel
theorem dX0_isActive_13 : decode cX0_isActive 13 = .ok (.goto 4, 3) := by decide +kernel
theorem dX0_isActive_16 : decode cX0_isActive 16 = .ok (.iconst 0, 1) := by decide +kernel
theorem dX0_isActive_17 : decode cX0_isActive 17 = .ok (.ireturn, 1) := by decide +kernel
theorem dX0_isSlot_0 : decode cX0_isSlot 0 = .ok (.iload_n 0, 1) := by decide +kernel
theorem dX0_isSlot_1 : decode cX0_isSlot 1 = .ok (.ifCond .lt 13, 3) := by decide +kernel
theorem dX0_isSlot_4 : decode cX0_isSlot 4 = .ok (.iload_n 0, 1) := by decide +kernel
theorem dX0_isSlot_5 : decode cX0_isSlot 5 = .ok (.bipush 9, 2) := by decide +kernel
theorem dX0_isSlot_7 : decode cX0_isSlot 7 = .ok (.if_icmp .ge 7, 3) := by decide +kernel
theorem dX0_isSlot_10 : decode cX0_isSlot 10 = .ok (.iconst 1, 1) := by decide +kernel
theorem dX0_isSlot_11 : decode cX0_isSlot 11 = .ok (.goto 4, 3) := by decide +kernel
theorem dX0_isSlot_14 : decode cX0_isSlot 14 = .ok (.iconst 0, 1) := by decide +kernel
theorem dX0_isSlot_15 : decode cX0_isSlot 15 = .ok (.ireturn, 1) := by decide +kernel
theorem dX0_shareTop_0 : decode cX0_shareTop 0 = .ok (.iload_n 1, 1) := by decide +kernel
theorem dX0_shareTop_1 : decode cX0_shareTop 1 = .ok (.invokestatic 124, 3) := by decide +kernel
theorem dX0_shareTop_4 : decode cX0_shareTop 4 = .ok (.ifCond .eq 41, 3) := by decide +kernel
theorem dX0_shareTop_7 : decode cX0_shareTop 7 = .ok (.aload_n 0, 1) := by decide +kernel
theorem dX0_shareTop_8 : decode cX0_shareTop 8 = .ok (.iload_n 1, 1) := by decide +kernel
theorem dX0_shareTop_9 : decode cX0_shareTop 9 = .ok (.invokevirtual 128, 3) := by decide +kernel
theorem dX0_shareTop_12 : decode cX0_shareTop 12 = .ok (.ifCond .eq 33, 3) := by decide +kernel
theorem dX0_shareTop_15 : decode cX0_shareTop 15 = .ok (.aload_n 0, 1) := by decide +kernel
theorem dX0_shareTop_16 : decode cX0_shareTop 16 = .ok (.getfield 18, 3) := by decide +kernel
theorem dX0_shareTop_19 : decode cX0_shareTop 19 = .ok (.iload_n 1, 1) := by decide +kernel
theorem dX0_shareTop_20 : decode cX0_shareTop 20 = .ok (.iaload, 1) := by decide +kernel
theorem dX0_shareTop_21 : decode cX0_shareTop 21 = .ok (.i2l, 1) := by decide +kernel
theorem dX0_shareTop_22 : decode cX0_shareTop 22 = .ok (.aload_n 0, 1) := by decide +kernel
theorem dX0_shareTop_23 : decode cX0_shareTop 23 = .ok (.getfield 31, 3) := by decide +kernel
theorem dX0_shareTop_26 : decode cX0_shareTop 26 = .ok (.aload_n 0, 1) := by decide +kernel
theorem dX0_shareTop_27 : decode cX0_shareTop 27 = .ok (.getfield 11, 3) := by decide +kernel
theorem dX0_shareTop_30 : decode cX0_shareTop 30 = .ok (.iload_n 1, 1) := by decide +kernel
theorem dX0_shareTop_31 : decode cX0_shareTop 31 = .ok (.iaload, 1) := by decide +kernel
theorem dX0_shareTop_32 : decode cX0_shareTop 32 = .ok (.aload_n 0, 1) := by decide +kernel
theorem dX0_shareTop_33 : decode cX0_shareTop 33 = .ok (.getfield 15, 3) := by decide +kernel
theorem dX0_shareTop_36 : decode cX0_shareTop 36 = .ok (.iload_n 1, 1) := by decide +kernel
theorem dX0_shareTop_37 : decode cX0_shareTop 37 = .ok (.iaload, 1) := by decide +kernel
theorem dX0_shareTop_38 : decode cX0_shareTop 38 = .ok (.invokevirtual 113, 3) := by decide +kernel
theorem dX0_shareTop_41 : decode cX0_shareTop 41 = .ok (.lmul, 1) := by decide +kernel
theorem dX0_shareTop_42 : decode cX0_shareTop 42 = .ok (.goto 4, 3) := by decide +kernel
theorem dX0_shareTop_45 : decode cX0_shareTop 45 = .ok (.lconst 0, 1) := by decide +kernel
theorem dX0_shareTop_46 : decode cX0_shareTop 46 = .ok (.lreturn, 1) := by decide +kernel
theorem dX0_bottom_0 : decode cX0_bottom 0 = .ok (.aload_n 0, 1) := by decide +kernel
theorem dX0_bottom_1 : decode cX0_bottom 1 = .ok (.getfield 31, 3) := by decide +kernel
theorem dX0_bottom_4 : decode cX0_bottom 4 = .ok (.getfield 131, 3) := by decide +kernel
theorem dX0_bottom_7 : decode cX0_bottom 7 = .ok (.lreturn, 1) := by decide +kernel
theorem dX0_shareDown_0 : decode cX0_shareDown 0 = .ok (.aload_n 0, 1) := by decide +kernel
theorem dX0_shareDown_1 : decode cX0_shareDown 1 = .ok (.getfield 31, 3) := by decide +kernel
theorem dX0_shareDown_4 : decode cX0_shareDown 4 = .ok (.getfield 131, 3) := by decide +kernel
theorem dX0_shareDown_7 : decode cX0_shareDown 7 = .ok (.lconst 0, 1) := by decide +kernel
theorem dX0_shareDown_8 : decode cX0_shareDown 8 = .ok (.lcmp, 1) := by decide +kernel
theorem dX0_shareDown_9 : decode cX0_shareDown 9 = .ok (.ifCond .ne 7, 3) := by decide +kernel
theorem dX0_shareDown_12 : decode cX0_shareDown 12 = .ok (.lconst 0, 1) := by decide +kernel
theorem dX0_shareDown_13 : decode cX0_shareDown 13 = .ok (.goto 18, 3) := by decide +kernel
theorem dX0_shareDown_16 : decode cX0_shareDown 16 = .ok (.aload_n 0, 1) := by decide +kernel
theorem dX0_shareDown_17 : decode cX0_shareDown 17 = .ok (.iload_n 1, 1) := by decide +kernel
theorem dX0_shareDown_18 : decode cX0_shareDown 18 = .ok (.invokevirtual 120, 3) := by decide +kernel
theorem dX0_shareDown_21 : decode cX0_shareDown 21 = .ok (.aload_n 0, 1) := by decide +kernel
theorem dX0_shareDown_22 : decode cX0_shareDown 22 = .ok (.getfield 31, 3) := by decide +kernel
theorem dX0_shareDown_25 : decode cX0_shareDown 25 = .ok (.getfield 131, 3) := by decide +kernel
theorem dX0_shareDown_28 : decode cX0_shareDown 28 = .ok (.invokestatic 134, 3) := by decide +kernel
theorem dX0_shareDown_31 : decode cX0_shareDown 31 = .ok (.lreturn, 1) := by decide +kernel
theorem dX0_useTop_0 : decode cX0_useTop 0 = .ok (.aload_n 0, 1) := by decide +kernel
theorem dX0_useTop_1 : decode cX0_useTop 1 = .ok (.aload_n 0, 1) := by decide +kernel
theorem dX0_useTop_2 : decode cX0_useTop 2 = .ok (.getfield 117, 3) := by decide +kernel
theorem dX0_useTop_5 : decode cX0_useTop 5 = .ok (.invokevirtual 120, 3) := by decide +kernel
theorem dX0_useTop_8 : decode cX0_useTop 8 = .ok (.lreturn, 1) := by decide +kernel
theorem dX0_useBottom_0 : decode cX0_useBottom 0 = .ok (.aload_n 0, 1) := by decide +kernel
theorem dX0_useBottom_1 : decode cX0_useBottom 1 = .ok (.getfield 117, 3) := by decide +kernel
theorem dX0_useBottom_4 : decode cX0_useBottom 4 = .ok (.invokestatic 124, 3) := by decide +kernel
theorem dX0_useBottom_7 : decode cX0_useBottom 7 = .ok (.ifCond .eq 24, 3) := by decide +kernel
theorem dX0_useBottom_10 : decode cX0_useBottom 10 = .ok (.aload_n 0, 1) := by decide +kernel
theorem dX0_useBottom_11 : decode cX0_useBottom 11 = .ok (.getfield 31, 3) := by decide +kernel
theorem dX0_useBottom_14 : decode cX0_useBottom 14 = .ok (.getfield 131, 3) := by decide +kernel
theorem dX0_useBottom_17 : decode cX0_useBottom 17 = .ok (.aload_n 0, 1) := by decide +kernel
theorem dX0_useBottom_18 : decode cX0_useBottom 18 = .ok (.getfield 21, 3) := by decide +kernel
theorem dX0_useBottom_21 : decode cX0_useBottom 21 = .ok (.aload_n 0, 1) := by decide +kernel
theorem dX0_useBottom_22 : decode cX0_useBottom 22 = .ok (.getfield 117, 3) := by decide +kernel
theorem dX0_useBottom_25 : decode cX0_useBottom 25 = .ok (.iaload, 1) := by decide +kernel
theorem dX0_useBottom_26 : decode cX0_useBottom 26 = .ok (.i2l, 1) := by decide +kernel
theorem dX0_useBottom_27 : decode cX0_useBottom 27 = .ok (.lmul, 1) := by decide +kernel
theorem dX0_useBottom_28 : decode cX0_useBottom 28 = .ok (.goto 4, 3) := by decide +kernel
theorem dX0_useBottom_31 : decode cX0_useBottom 31 = .ok (.lconst 1, 1) := by decide +kernel
theorem dX0_useBottom_32 : decode cX0_useBottom 32 = .ok (.lreturn, 1) := by decide +kernel
theorem dX1_init_0 : decode cX1_init 0 = .ok (.aload_n 0, 1) := by decide +kernel
theorem dX1_init_1 : decode cX1_init 1 = .ok (.invokespecial 1, 3) := by decide +kernel
theorem dX1_init_4 : decode cX1_init 4 = .ok (.return_, 1) := by decide +kernel
theorem dX1_empty_0 : decode cX1_empty 0 = .ok (.aload_n 0, 1) := by decide +kernel
theorem dX1_empty_1 : decode cX1_empty 1 = .ok (.lconst 0, 1) := by decide +kernel
theorem dX1_empty_2 : decode cX1_empty 2 = .ok (.putfield 7, 3) := by decide +kernel
theorem dX1_empty_5 : decode cX1_empty 5 = .ok (.aload_n 0, 1) := by decide +kernel
theorem dX1_empty_6 : decode cX1_empty 6 = .ok (.lconst 0, 1) := by decide +kernel
theorem dX1_empty_7 : decode cX1_empty 7 = .ok (.putfield 13, 3) := by decide +kernel
theorem dX1_empty_10 : decode cX1_empty 10 = .ok (.aload_n 0, 1) := by decide +kernel
theorem dX1_empty_11 : decode cX1_empty 11 = .ok (.lconst 0, 1) := by decide +kernel
theorem dX1_empty_12 : decode cX1_empty 12 = .ok (.putfield 16, 3) := by decide +kernel
theorem dX1_empty_15 : decode cX1_empty 15 = .ok (.aload_n 0, 1) := by decide +kernel
theorem dX1_empty_16 : decode cX1_empty 16 = .ok (.lconst 0, 1) := by decide +kernel
theorem dX1_empty_17 : decode cX1_empty 17 = .ok (.putfield 19, 3) := by decide +kernel
theorem dX1_empty_20 : decode cX1_empty 20 = .ok (.aload_n 0, 1) := by decide +kernel
theorem dX1_empty_21 : decode cX1_empty 21 = .ok (.lconst 0, 1) := by decide +kernel
theorem dX1_empty_22 : decode cX1_empty 22 = .ok (.putfield 22, 3) := by decide +kernel
theorem dX1_empty_25 : decode cX1_empty 25 = .ok (.aload_n 0, 1) := by decide +kernel
theorem dX1_empty_26 : decode cX1_empty 26 = .ok (.lconst 0, 1) := by decide +kernel
theorem dX1_empty_27 : decode cX1_empty 27 = .ok (.putfield 25, 3) := by decide +kernel
theorem dX1_empty_30 : decode cX1_empty 30 = .ok (.return_, 1) := by decide +kernel
theorem dX1_copySums_0 : decode cX1_copySums 0 = .ok (.aload_n 0, 1) := by decide +kernel
theorem dX1_copySums_1 : decode cX1_copySums 1 = .ok (.aload_n 1, 1) := by decide +kernel
theorem dX1_copySums_2 : decode cX1_copySums 2 = .ok (.getfield 7, 3) := by decide +kernel
theorem dX1_copySums_5 : decode cX1_copySums 5 = .ok (.putfield 7, 3) := by decide +kernel
theorem dX1_copySums_8 : decode cX1_copySums 8 = .ok (.aload_n 0, 1) := by decide +kernel
theorem dX1_copySums_9 : decode cX1_copySums 9 = .ok (.aload_n 1, 1) := by decide +kernel
theorem dX1_copySums_10 : decode cX1_copySums 10 = .ok (.getfield 13, 3) := by decide +kernel
theorem dX1_copySums_13 : decode cX1_copySums 13 = .ok (.putfield 13, 3) := by decide +kernel
theorem dX1_copySums_16 : decode cX1_copySums 16 = .ok (.aload_n 0, 1) := by decide +kernel
theorem dX1_copySums_17 : decode cX1_copySums 17 = .ok (.aload_n 1, 1) := by decide +kernel
theorem dX1_copySums_18 : decode cX1_copySums 18 = .ok (.getfield 16, 3) := by decide +kernel
theorem dX1_copySums_21 : decode cX1_copySums 21 = .ok (.putfield 16, 3) := by decide +kernel
theorem dX1_copySums_24 : decode cX1_copySums 24 = .ok (.aload_n 0, 1) := by decide +kernel
theorem dX1_copySums_25 : decode cX1_copySums 25 = .ok (.aload_n 1, 1) := by decide +kernel
theorem dX1_copySums_26 : decode cX1_copySums 26 = .ok (.getfield 19, 3) := by decide +kernel
theorem dX1_copySums_29 : decode cX1_copySums 29 = .ok (.putfield 19, 3) := by decide +kernel
theorem dX1_copySums_32 : decode cX1_copySums 32 = .ok (.aload_n 0, 1) := by decide +kernel
theorem dX1_copySums_33 : decode cX1_copySums 33 = .ok (.aload_n 1, 1) := by decide +kernel
theorem dX1_copySums_34 : decode cX1_copySums 34 = .ok (.getfield 22, 3) := by decide +kernel
theorem dX1_copySums_37 : decode cX1_copySums 37 = .ok (.putfield 22, 3) := by decide +kernel
theorem dX1_copySums_40 : decode cX1_copySums 40 = .ok (.aload_n 0, 1) := by decide +kernel
theorem dX1_copySums_41 : decode cX1_copySums 41 = .ok (.aload_n 1, 1) := by decide +kernel
theorem dX1_copySums_42 : decode cX1_copySums 42 = .ok (.getfield 25, 3) := by decide +kernel
theorem dX1_copySums_45 : decode cX1_copySums 45 = .ok (.putfield 25, 3) := by decide +kernel
theorem dX1_copySums_48 : decode cX1_copySums 48 = .ok (.return_, 1) := by decide +kernel
theorem dX1_put_0 : decode cX1_put 0 = .ok (.iload_n 3, 1) := by decide +kernel
theorem dX1_put_1 : decode cX1_put 1 = .ok (.iload_n 1, 1) := by decide +kernel
theorem dX1_put_2 : decode cX1_put 2 = .ok (.imul, 1) := by decide +kernel
theorem dX1_put_3 : decode cX1_put 3 = .ok (.istore 4, 2) := by decide +kernel
theorem dX1_put_5 : decode cX1_put 5 = .ok (.iload_n 3, 1) := by decide +kernel
theorem dX1_put_6 : decode cX1_put 6 = .ok (.iload_n 2, 1) := by decide +kernel
theorem dX1_put_7 : decode cX1_put 7 = .ok (.imul, 1) := by decide +kernel
theorem dX1_put_8 : decode cX1_put 8 = .ok (.istore 5, 2) := by decide +kernel
theorem dX1_put_10 : decode cX1_put 10 = .ok (.aload_n 0, 1) := by decide +kernel
theorem dX1_put_11 : decode cX1_put 11 = .ok (.dup, 1) := by decide +kernel
theorem dX1_put_12 : decode cX1_put 12 = .ok (.getfield 7, 3) := by decide +kernel
theorem dX1_put_15 : decode cX1_put 15 = .ok (.iload_n 3, 1) := by decide +kernel
theorem dX1_put_16 : decode cX1_put 16 = .ok (.i2l, 1) := by decide +kernel
theorem dX1_put_17 : decode cX1_put 17 = .ok (.ladd, 1) := by decide +kernel
theorem dX1_put_18 : decode cX1_put 18 = .ok (.putfield 7, 3) := by decide +kernel
theorem dX1_put_21 : decode cX1_put 21 = .ok (.aload_n 0, 1) := by decide +kernel
theorem dX1_put_22 : decode cX1_put 22 = .ok (.dup, 1) := by decide +kernel
theorem dX1_put_23 : decode cX1_put 23 = .ok (.getfield 13, 3) := by decide +kernel
theorem dX1_put_26 : decode cX1_put 26 = .ok (.iload 4, 2) := by decide +kernel
theorem dX1_put_28 : decode cX1_put 28 = .ok (.i2l, 1) := by decide +kernel
theorem dX1_put_29 : decode cX1_put 29 = .ok (.ladd, 1) := by decide +kernel
theorem dX1_put_30 : decode cX1_put 30 = .ok (.putfield 13, 3) := by decide +kernel
theorem dX1_put_33 : decode cX1_put 33 = .ok (.aload_n 0, 1) := by decide +kernel
theorem dX1_put_34 : decode cX1_put 34 = .ok (.dup, 1) := by decide +kernel
theorem dX1_put_35 : decode cX1_put 35 = .ok (.getfield 16, 3) := by decide +kernel
theorem dX1_put_38 : decode cX1_put 38 = .ok (.iload 5, 2) := by decide +kernel
theorem dX1_put_40 : decode cX1_put 40 = .ok (.i2l, 1) := by decide +kernel
theorem dX1_put_41 : decode cX1_put 41 = .ok (.ladd, 1) := by decide +kernel
theorem dX1_put_42 : decode cX1_put 42 = .ok (.putfield 16, 3) := by decide +kernel
theorem dX1_put_45 : decode cX1_put 45 = .ok (.aload_n 0, 1) := by decide +kernel
theorem dX1_put_46 : decode cX1_put 46 = .ok (.dup, 1) := by decide +kernel
theorem dX1_put_47 : decode cX1_put 47 = .ok (.getfield 19, 3) := by decide +kernel
theorem dX1_put_50 : decode cX1_put 50 = .ok (.iload 4, 2) := by decide +kernel
theorem dX1_put_52 : decode cX1_put 52 = .ok (.iload_n 1, 1) := by decide +kernel
theorem dX1_put_53 : decode cX1_put 53 = .ok (.imul, 1) := by decide +kernel
theorem dX1_put_54 : decode cX1_put 54 = .ok (.i2l, 1) := by decide +kernel
theorem dX1_put_55 : decode cX1_put 55 = .ok (.ladd, 1) := by decide +kernel
theorem dX1_put_56 : decode cX1_put 56 = .ok (.putfield 19, 3) := by decide +kernel
theorem dX1_put_59 : decode cX1_put 59 = .ok (.aload_n 0, 1) := by decide +kernel
theorem dX1_put_60 : decode cX1_put 60 = .ok (.dup, 1) := by decide +kernel
theorem dX1_put_61 : decode cX1_put 61 = .ok (.getfield 22, 3) := by decide +kernel
theorem dX1_put_64 : decode cX1_put 64 = .ok (.iload 4, 2) := by decide +kernel
theorem dX1_put_66 : decode cX1_put 66 = .ok (.iload_n 2, 1) := by decide +kernel
theorem dX1_put_67 : decode cX1_put 67 = .ok (.imul, 1) := by decide +kernel
theorem dX1_put_68 : decode cX1_put 68 = .ok (.i2l, 1) := by decide +kernel
theorem dX1_put_69 : decode cX1_put 69 = .ok (.ladd, 1) := by decide +kernel
theorem dX1_put_70 : decode cX1_put 70 = .ok (.putfield 22, 3) := by decide +kernel
theorem dX1_put_73 : decode cX1_put 73 = .ok (.aload_n 0, 1) := by decide +kernel
theorem dX1_put_74 : decode cX1_put 74 = .ok (.dup, 1) := by decide +kernel
theorem dX1_put_75 : decode cX1_put 75 = .ok (.getfield 25, 3) := by decide +kernel
theorem dX1_put_78 : decode cX1_put 78 = .ok (.iload 5, 2) := by decide +kernel
theorem dX1_put_80 : decode cX1_put 80 = .ok (.iload_n 2, 1) := by decide +kernel
theorem dX1_put_81 : decode cX1_put 81 = .ok (.imul, 1) := by decide +kernel
theorem dX1_put_82 : decode cX1_put 82 = .ok (.i2l, 1) := by decide +kernel
theorem dX1_put_83 : decode cX1_put 83 = .ok (.ladd, 1) := by decide +kernel
theorem dX1_put_84 : decode cX1_put 84 = .ok (.putfield 25, 3) := by decide +kernel
theorem dX1_put_87 : decode cX1_put 87 = .ok (.return_, 1) := by decide +kernel
theorem dX1_brace_0 : decode cX1_brace 0 = .ok (.aload_n 0, 1) := by decide +kernel
theorem dX1_brace_1 : decode cX1_brace 1 = .ok (.aload_n 0, 1) := by decide +kernel
theorem dX1_brace_2 : decode cX1_brace 2 = .ok (.getfield 19, 3) := by decide +kernel
theorem dX1_brace_5 : decode cX1_brace 5 = .ok (.aload_n 0, 1) := by decide +kernel
theorem dX1_brace_6 : decode cX1_brace 6 = .ok (.getfield 25, 3) := by decide +kernel
theorem dX1_brace_9 : decode cX1_brace 9 = .ok (.lmul, 1) := by decide +kernel
theorem dX1_brace_10 : decode cX1_brace 10 = .ok (.aload_n 0, 1) := by decide +kernel
theorem dX1_brace_11 : decode cX1_brace 11 = .ok (.getfield 22, 3) := by decide +kernel
theorem dX1_brace_14 : decode cX1_brace 14 = .ok (.aload_n 0, 1) := by decide +kernel
theorem dX1_brace_15 : decode cX1_brace 15 = .ok (.getfield 22, 3) := by decide +kernel
theorem dX1_brace_18 : decode cX1_brace 18 = .ok (.lmul, 1) := by decide +kernel
theorem dX1_brace_19 : decode cX1_brace 19 = .ok (.lsub, 1) := by decide +kernel
theorem dX1_brace_20 : decode cX1_brace 20 = .ok (.putfield 28, 3) := by decide +kernel
theorem dX1_brace_23 : decode cX1_brace 23 = .ok (.aload_n 0, 1) := by decide +kernel
theorem dX1_brace_24 : decode cX1_brace 24 = .ok (.aload_n 0, 1) := by decide +kernel
theorem dX1_brace_25 : decode cX1_brace 25 = .ok (.getfield 22, 3) := by decide +kernel
theorem dX1_brace_28 : decode cX1_brace 28 = .ok (.aload_n 0, 1) := by decide +kernel
theorem dX1_brace_29 : decode cX1_brace 29 = .ok (.getfield 16, 3) := by decide +kernel
theorem dX1_brace_32 : decode cX1_brace 32 = .ok (.lmul, 1) := by decide +kernel
theorem dX1_brace_33 : decode cX1_brace 33 = .ok (.aload_n 0, 1) := by decide +kernel
theorem dX1_brace_34 : decode cX1_brace 34 = .ok (.getfield 13, 3) := by decide +kernel
theorem dX1_brace_37 : decode cX1_brace 37 = .ok (.aload_n 0, 1) := by decide +kernel
theorem dX1_brace_38 : decode cX1_brace 38 = .ok (.getfield 25, 3) := by decide +kernel
theorem dX1_brace_41 : decode cX1_brace 41 = .ok (.lmul, 1) := by decide +kernel
theorem dX1_brace_42 : decode cX1_brace 42 = .ok (.lsub, 1) := by decide +kernel
theorem dX1_brace_43 : decode cX1_brace 43 = .ok (.putfield 31, 3) := by decide +kernel
theorem dX1_brace_46 : decode cX1_brace 46 = .ok (.aload_n 0, 1) := by decide +kernel
theorem dX1_brace_47 : decode cX1_brace 47 = .ok (.aload_n 0, 1) := by decide +kernel
theorem dX1_brace_48 : decode cX1_brace 48 = .ok (.getfield 13, 3) := by decide +kernel
theorem dX1_brace_51 : decode cX1_brace 51 = .ok (.aload_n 0, 1) := by decide +kernel
theorem dX1_brace_52 : decode cX1_brace 52 = .ok (.getfield 22, 3) := by decide +kernel
theorem dX1_brace_55 : decode cX1_brace 55 = .ok (.lmul, 1) := by decide +kernel
theorem dX1_brace_56 : decode cX1_brace 56 = .ok (.aload_n 0, 1) := by decide +kernel
theorem dX1_brace_57 : decode cX1_brace 57 = .ok (.getfield 19, 3) := by decide +kernel
theorem dX1_brace_60 : decode cX1_brace 60 = .ok (.aload_n 0, 1) := by decide +kernel
theorem dX1_brace_61 : decode cX1_brace 61 = .ok (.getfield 16, 3) := by decide +kernel
theorem dX1_brace_64 : decode cX1_brace 64 = .ok (.lmul, 1) := by decide +kernel
theorem dX1_brace_65 : decode cX1_brace 65 = .ok (.lsub, 1) := by decide +kernel
theorem dX1_brace_66 : decode cX1_brace 66 = .ok (.putfield 34, 3) := by decide +kernel
theorem dX1_brace_69 : decode cX1_brace 69 = .ok (.aload_n 0, 1) := by decide +kernel
theorem dX1_brace_70 : decode cX1_brace 70 = .ok (.aload_n 0, 1) := by decide +kernel
theorem dX1_brace_71 : decode cX1_brace 71 = .ok (.getfield 7, 3) := by decide +kernel
theorem dX1_brace_74 : decode cX1_brace 74 = .ok (.aload_n 0, 1) := by decide +kernel
theorem dX1_brace_75 : decode cX1_brace 75 = .ok (.getfield 25, 3) := by decide +kernel
theorem dX1_brace_78 : decode cX1_brace 78 = .ok (.lmul, 1) := by decide +kernel
theorem dX1_brace_79 : decode cX1_brace 79 = .ok (.aload_n 0, 1) := by decide +kernel
theorem dX1_brace_80 : decode cX1_brace 80 = .ok (.getfield 16, 3) := by decide +kernel
theorem dX1_brace_83 : decode cX1_brace 83 = .ok (.aload_n 0, 1) := by decide +kernel
theorem dX1_brace_84 : decode cX1_brace 84 = .ok (.getfield 16, 3) := by decide +kernel
theorem dX1_brace_87 : decode cX1_brace 87 = .ok (.lmul, 1) := by decide +kernel
theorem dX1_brace_88 : decode cX1_brace 88 = .ok (.lsub, 1) := by decide +kernel
theorem dX1_brace_89 : decode cX1_brace 89 = .ok (.putfield 37, 3) := by decide +kernel
theorem dX1_brace_92 : decode cX1_brace 92 = .ok (.aload_n 0, 1) := by decide +kernel
theorem dX1_brace_93 : decode cX1_brace 93 = .ok (.aload_n 0, 1) := by decide +kernel
theorem dX1_brace_94 : decode cX1_brace 94 = .ok (.getfield 13, 3) := by decide +kernel
theorem dX1_brace_97 : decode cX1_brace 97 = .ok (.aload_n 0, 1) := by decide +kernel
theorem dX1_brace_98 : decode cX1_brace 98 = .ok (.getfield 16, 3) := by decide +kernel
theorem dX1_brace_101 : decode cX1_brace 101 = .ok (.lmul, 1) := by decide +kernel
theorem dX1_brace_102 : decode cX1_brace 102 = .ok (.aload_n 0, 1) := by decide +kernel
theorem dX1_brace_103 : decode cX1_brace 103 = .ok (.getfield 7, 3) := by decide +kernel
theorem dX1_brace_106 : decode cX1_brace 106 = .ok (.aload_n 0, 1) := by decide +kernel
theorem dX1_brace_107 : decode cX1_brace 107 = .ok (.getfield 22, 3) := by decide +kernel
theorem dX1_brace_110 : decode cX1_brace 110 = .ok (.lmul, 1) := by decide +kernel
theorem dX1_brace_111 : decode cX1_brace 111 = .ok (.lsub, 1) := by decide +kernel
theorem dX1_brace_112 : decode cX1_brace 112 = .ok (.putfield 40, 3) := by decide +kernel
theorem dX1_brace_115 : decode cX1_brace 115 = .ok (.aload_n 0, 1) := by decide +kernel
theorem dX1_brace_116 : decode cX1_brace 116 = .ok (.aload_n 0, 1) := by decide +kernel
theorem dX1_brace_117 : decode cX1_brace 117 = .ok (.getfield 7, 3) := by decide +kernel
theorem dX1_brace_120 : decode cX1_brace 120 = .ok (.aload_n 0, 1) := by decide +kernel
theorem dX1_brace_121 : decode cX1_brace 121 = .ok (.getfield 19, 3) := by decide +kernel
theorem dX1_brace_124 : decode cX1_brace 124 = .ok (.lmul, 1) := by decide +kernel
theorem dX1_brace_125 : decode cX1_brace 125 = .ok (.aload_n 0, 1) := by decide +kernel
theorem dX1_brace_126 : decode cX1_brace 126 = .ok (.getfield 13, 3) := by decide +kernel
theorem dX1_brace_129 : decode cX1_brace 129 = .ok (.aload_n 0, 1) := by decide +kernel
theorem dX1_brace_130 : decode cX1_brace 130 = .ok (.getfield 13, 3) := by decide +kernel
theorem dX1_brace_133 : decode cX1_brace 133 = .ok (.lmul, 1) := by decide +kernel
theorem dX1_brace_134 : decode cX1_brace 134 = .ok (.lsub, 1) := by decide +kernel
theorem dX1_brace_135 : decode cX1_brace 135 = .ok (.putfield 43, 3) := by decide +kernel
theorem dX1_brace_138 : decode cX1_brace 138 = .ok (.aload_n 0, 1) := by decide +kernel
theorem dX1_brace_139 : decode cX1_brace 139 = .ok (.aload_n 0, 1) := by decide +kernel
theorem dX1_brace_140 : decode cX1_brace 140 = .ok (.getfield 7, 3) := by decide +kernel
theorem dX1_brace_143 : decode cX1_brace 143 = .ok (.aload_n 0, 1) := by decide +kernel
theorem dX1_brace_144 : decode cX1_brace 144 = .ok (.getfield 28, 3) := by decide +kernel
theorem dX1_brace_147 : decode cX1_brace 147 = .ok (.lmul, 1) := by decide +kernel
theorem dX1_brace_148 : decode cX1_brace 148 = .ok (.aload_n 0, 1) := by decide +kernel
theorem dX1_brace_149 : decode cX1_brace 149 = .ok (.getfield 13, 3) := by decide +kernel
theorem dX1_brace_152 : decode cX1_brace 152 = .ok (.aload_n 0, 1) := by decide +kernel
theorem dX1_brace_153 : decode cX1_brace 153 = .ok (.getfield 31, 3) := by decide +kernel
theorem dX1_brace_156 : decode cX1_brace 156 = .ok (.lmul, 1) := by decide +kernel
theorem dX1_brace_157 : decode cX1_brace 157 = .ok (.ladd, 1) := by decide +kernel
theorem dX1_brace_158 : decode cX1_brace 158 = .ok (.aload_n 0, 1) := by decide +kernel
theorem dX1_brace_159 : decode cX1_brace 159 = .ok (.getfield 16, 3) := by decide +kernel
theorem dX1_brace_162 : decode cX1_brace 162 = .ok (.aload_n 0, 1) := by decide +kernel
theorem dX1_brace_163 : decode cX1_brace 163 = .ok (.getfield 34, 3) := by decide +kernel
theorem dX1_brace_166 : decode cX1_brace 166 = .ok (.lmul, 1) := by decide +kernel
theorem dX1_brace_167 : decode cX1_brace 167 = .ok (.ladd, 1) := by decide +kernel
theorem dX1_brace_168 : decode cX1_brace 168 = .ok (.putfield 46, 3) := by decide +kernel
theorem dX1_brace_171 : decode cX1_brace 171 = .ok (.aload_n 0, 1) := by decide +kernel
theorem dX1_brace_172 : decode cX1_brace 172 = .ok (.getfield 46, 3) := by decide +kernel
theorem dX1_brace_175 : decode cX1_brace 175 = .ok (.lconst 0, 1) := by decide +kernel
theorem dX1_brace_176 : decode cX1_brace 176 = .ok (.lcmp, 1) := by decide +kernel
theorem dX1_brace_177 : decode cX1_brace 177 = .ok (.ifCond .le 7, 3) := by decide +kernel
theorem dX1_brace_180 : decode cX1_brace 180 = .ok (.iconst 1, 1) := by decide +kernel
theorem dX1_brace_181 : decode cX1_brace 181 = .ok (.goto 4, 3) := by decide +kernel
theorem dX1_brace_184 : decode cX1_brace 184 = .ok (.iconst 0, 1) := by decide +kernel
theorem dX1_brace_185 : decode cX1_brace 185 = .ok (.ireturn, 1) := by decide +kernel
theorem dX1_tilt_0 : decode cX1_tilt 0 = .ok (.aload_n 0, 1) := by decide +kernel
theorem dX1_tilt_1 : decode cX1_tilt 1 = .ok (.aload_n 0, 1) := by decide +kernel
theorem dX1_tilt_2 : decode cX1_tilt 2 = .ok (.getfield 28, 3) := by decide +kernel
theorem dX1_tilt_5 : decode cX1_tilt 5 = .ok (.lload_n 1, 1) := by decide +kernel
theorem dX1_tilt_6 : decode cX1_tilt 6 = .ok (.lmul, 1) := by decide +kernel
theorem dX1_tilt_7 : decode cX1_tilt 7 = .ok (.aload_n 0, 1) := by decide +kernel
theorem dX1_tilt_8 : decode cX1_tilt 8 = .ok (.getfield 31, 3) := by decide +kernel
theorem dX1_tilt_11 : decode cX1_tilt 11 = .ok (.lload_n 3, 1) := by decide +kernel
theorem dX1_tilt_12 : decode cX1_tilt 12 = .ok (.lmul, 1) := by decide +kernel
theorem dX1_tilt_13 : decode cX1_tilt 13 = .ok (.ladd, 1) := by decide +kernel
theorem dX1_tilt_14 : decode cX1_tilt 14 = .ok (.aload_n 0, 1) := by decide +kernel
theorem dX1_tilt_15 : decode cX1_tilt 15 = .ok (.getfield 34, 3) := by decide +kernel
theorem dX1_tilt_18 : decode cX1_tilt 18 = .ok (.lload 5, 2) := by decide +kernel
theorem dX1_tilt_20 : decode cX1_tilt 20 = .ok (.lmul, 1) := by decide +kernel
theorem dX1_tilt_21 : decode cX1_tilt 21 = .ok (.ladd, 1) := by decide +kernel
theorem dX1_tilt_22 : decode cX1_tilt 22 = .ok (.putfield 49, 3) := by decide +kernel
theorem dX1_tilt_25 : decode cX1_tilt 25 = .ok (.aload_n 0, 1) := by decide +kernel
theorem dX1_tilt_26 : decode cX1_tilt 26 = .ok (.aload_n 0, 1) := by decide +kernel
theorem dX1_tilt_27 : decode cX1_tilt 27 = .ok (.getfield 31, 3) := by decide +kernel
theorem dX1_tilt_30 : decode cX1_tilt 30 = .ok (.lload_n 1, 1) := by decide +kernel
theorem dX1_tilt_31 : decode cX1_tilt 31 = .ok (.lmul, 1) := by decide +kernel
theorem dX1_tilt_32 : decode cX1_tilt 32 = .ok (.aload_n 0, 1) := by decide +kernel
theorem dX1_tilt_33 : decode cX1_tilt 33 = .ok (.getfield 37, 3) := by decide +kernel
theorem dX1_tilt_36 : decode cX1_tilt 36 = .ok (.lload_n 3, 1) := by decide +kernel
theorem dX1_tilt_37 : decode cX1_tilt 37 = .ok (.lmul, 1) := by decide +kernel
theorem dX1_tilt_38 : decode cX1_tilt 38 = .ok (.ladd, 1) := by decide +kernel
theorem dX1_tilt_39 : decode cX1_tilt 39 = .ok (.aload_n 0, 1) := by decide +kernel
theorem dX1_tilt_40 : decode cX1_tilt 40 = .ok (.getfield 40, 3) := by decide +kernel
theorem dX1_tilt_43 : decode cX1_tilt 43 = .ok (.lload 5, 2) := by decide +kernel
theorem dX1_tilt_45 : decode cX1_tilt 45 = .ok (.lmul, 1) := by decide +kernel
theorem dX1_tilt_46 : decode cX1_tilt 46 = .ok (.ladd, 1) := by decide +kernel
theorem dX1_tilt_47 : decode cX1_tilt 47 = .ok (.putfield 52, 3) := by decide +kernel
theorem dX1_tilt_50 : decode cX1_tilt 50 = .ok (.aload_n 0, 1) := by decide +kernel
theorem dX1_tilt_51 : decode cX1_tilt 51 = .ok (.aload_n 0, 1) := by decide +kernel
theorem dX1_tilt_52 : decode cX1_tilt 52 = .ok (.getfield 34, 3) := by decide +kernel
theorem dX1_tilt_55 : decode cX1_tilt 55 = .ok (.lload_n 1, 1) := by decide +kernel
theorem dX1_tilt_56 : decode cX1_tilt 56 = .ok (.lmul, 1) := by decide +kernel
theorem dX1_tilt_57 : decode cX1_tilt 57 = .ok (.aload_n 0, 1) := by decide +kernel
theorem dX1_tilt_58 : decode cX1_tilt 58 = .ok (.getfield 40, 3) := by decide +kernel
theorem dX1_tilt_61 : decode cX1_tilt 61 = .ok (.lload_n 3, 1) := by decide +kernel
theorem dX1_tilt_62 : decode cX1_tilt 62 = .ok (.lmul, 1) := by decide +kernel
theorem dX1_tilt_63 : decode cX1_tilt 63 = .ok (.ladd, 1) := by decide +kernel
theorem dX1_tilt_64 : decode cX1_tilt 64 = .ok (.aload_n 0, 1) := by decide +kernel
theorem dX1_tilt_65 : decode cX1_tilt 65 = .ok (.getfield 43, 3) := by decide +kernel
theorem dX1_tilt_68 : decode cX1_tilt 68 = .ok (.lload 5, 2) := by decide +kernel
theorem dX1_tilt_70 : decode cX1_tilt 70 = .ok (.lmul, 1) := by decide +kernel
theorem dX1_tilt_71 : decode cX1_tilt 71 = .ok (.ladd, 1) := by decide +kernel
theorem dX1_tilt_72 : decode cX1_tilt 72 = .ok (.putfield 55, 3) := by decide +kernel
theorem dX1_tilt_75 : decode cX1_tilt 75 = .ok (.return_, 1) := by decide +kernel
theorem dX1_topAt_0 : decode cX1_topAt 0 = .ok (.aload_n 0, 1) := by decide +kernel
theorem dX1_topAt_1 : decode cX1_topAt 1 = .ok (.getfield 49, 3) := by decide +kernel
theorem dX1_topAt_4 : decode cX1_topAt 4 = .ok (.aload_n 0, 1) := by decide +kernel
theorem dX1_topAt_5 : decode cX1_topAt 5 = .ok (.getfield 52, 3) := by decide +kernel
theorem dX1_topAt_8 : decode cX1_topAt 8 = .ok (.iload_n 1, 1) := by decide +kernel
theorem dX1_topAt_9 : decode cX1_topAt 9 = .ok (.i2l, 1) := by decide +kernel
theorem dX1_topAt_10 : decode cX1_topAt 10 = .ok (.lmul, 1) := by decide +kernel
theorem dX1_topAt_11 : decode cX1_topAt 11 = .ok (.ladd, 1) := by decide +kernel
theorem dX1_topAt_12 : decode cX1_topAt 12 = .ok (.aload_n 0, 1) := by decide +kernel
theorem dX1_topAt_13 : decode cX1_topAt 13 = .ok (.getfield 55, 3) := by decide +kernel
theorem dX1_topAt_16 : decode cX1_topAt 16 = .ok (.iload_n 2, 1) := by decide +kernel
theorem dX1_topAt_17 : decode cX1_topAt 17 = .ok (.i2l, 1) := by decide +kernel
theorem dX1_topAt_18 : decode cX1_topAt 18 = .ok (.lmul, 1) := by decide +kernel
theorem dX1_topAt_19 : decode cX1_topAt 19 = .ok (.ladd, 1) := by decide +kernel
theorem dX1_topAt_20 : decode cX1_topAt 20 = .ok (.lreturn, 1) := by decide +kernel
theorem dX2_init_0 : decode cX2_init 0 = .ok (.aload_n 0, 1) := by decide +kernel
theorem dX2_init_1 : decode cX2_init 1 = .ok (.invokespecial 3, 3) := by decide +kernel
theorem dX2_init_4 : decode cX2_init 4 = .ok (.aload_n 0, 1) := by decide +kernel
theorem dX2_init_5 : decode cX2_init 5 = .ok (.sipush 160, 3) := by decide +kernel
theorem dX2_init_8 : decode cX2_init 8 = .ok (.newarray .int, 2) := by decide +kernel
theorem dX2_init_10 : decode cX2_init 10 = .ok (.putfield 9, 3) := by decide +kernel
theorem dX2_init_13 : decode cX2_init 13 = .ok (.return_, 1) := by decide +kernel
theorem dX2_append_0 : decode cX2_append 0 = .ok (.aload_n 0, 1) := by decide +kernel
theorem dX2_append_1 : decode cX2_append 1 = .ok (.getfield 15, 3) := by decide +kernel
theorem dX2_append_4 : decode cX2_append 4 = .ok (.ifCond .lt 13, 3) := by decide +kernel
theorem dX2_append_7 : decode cX2_append 7 = .ok (.aload_n 0, 1) := by decide +kernel
theorem dX2_append_8 : decode cX2_append 8 = .ok (.getfield 15, 3) := by decide +kernel
theorem dX2_append_11 : decode cX2_append 11 = .ok (.sipush 160, 3) := by decide +kernel
theorem dX2_append_14 : decode cX2_append 14 = .ok (.if_icmp .lt 5, 3) := by decide +kernel
theorem dX2_append_17 : decode cX2_append 17 = .ok (.iconst 0, 1) := by decide +kernel
theorem dX2_append_18 : decode cX2_append 18 = .ok (.ireturn, 1) := by decide +kernel
theorem dX2_append_19 : decode cX2_append 19 = .ok (.aload_n 0, 1) := by decide +kernel
theorem dX2_append_20 : decode cX2_append 20 = .ok (.getfield 9, 3) := by decide +kernel
theorem dX2_append_23 : decode cX2_append 23 = .ok (.aload_n 0, 1) := by decide +kernel
theorem dX2_append_24 : decode cX2_append 24 = .ok (.getfield 15, 3) := by decide +kernel
theorem dX2_append_27 : decode cX2_append 27 = .ok (.iload_n 1, 1) := by decide +kernel
theorem dX2_append_28 : decode cX2_append 28 = .ok (.iastore, 1) := by decide +kernel
theorem dX2_append_29 : decode cX2_append 29 = .ok (.aload_n 0, 1) := by decide +kernel
theorem dX2_append_30 : decode cX2_append 30 = .ok (.dup, 1) := by decide +kernel
theorem dX2_append_31 : decode cX2_append 31 = .ok (.getfield 15, 3) := by decide +kernel
theorem dX2_append_34 : decode cX2_append 34 = .ok (.iconst 1, 1) := by decide +kernel
theorem dX2_append_35 : decode cX2_append 35 = .ok (.iadd, 1) := by decide +kernel
theorem dX2_append_36 : decode cX2_append 36 = .ok (.putfield 15, 3) := by decide +kernel
theorem dX2_append_39 : decode cX2_append 39 = .ok (.iconst 1, 1) := by decide +kernel
theorem dX2_append_40 : decode cX2_append 40 = .ok (.ireturn, 1) := by decide +kernel
theorem dX2_readInto_0 : decode cX2_readInto 0 = .ok (.aload_n 1, 1) := by decide +kernel
theorem dX2_readInto_1 : decode cX2_readInto 1 = .ok (.invokevirtual 19, 3) := by decide +kernel
theorem dX2_readInto_4 : decode cX2_readInto 4 = .ok (.aload_n 0, 1) := by decide +kernel
theorem dX2_readInto_5 : decode cX2_readInto 5 = .ok (.iconst 0, 1) := by decide +kernel
theorem dX2_readInto_6 : decode cX2_readInto 6 = .ok (.putfield 24, 3) := by decide +kernel
theorem dX2_readInto_9 : decode cX2_readInto 9 = .ok (.aload_n 0, 1) := by decide +kernel
theorem dX2_readInto_10 : decode cX2_readInto 10 = .ok (.iconst 0, 1) := by decide +kernel
theorem dX2_readInto_11 : decode cX2_readInto 11 = .ok (.putfield 27, 3) := by decide +kernel
theorem dX2_readInto_14 : decode cX2_readInto 14 = .ok (.iconst 0, 1) := by decide +kernel
theorem dX2_readInto_15 : decode cX2_readInto 15 = .ok (.istore_n 2, 1) := by decide +kernel
theorem dX2_readInto_16 : decode cX2_readInto 16 = .ok (.iload_n 2, 1) := by decide +kernel
theorem dX2_readInto_17 : decode cX2_readInto 17 = .ok (.sipush 160, 3) := by decide +kernel
theorem dX2_readInto_20 : decode cX2_readInto 20 = .ok (.if_icmp .ge 37, 3) := by decide +kernel
theorem dX2_readInto_23 : decode cX2_readInto 23 = .ok (.aload_n 0, 1) := by decide +kernel
theorem dX2_readInto_24 : decode cX2_readInto 24 = .ok (.invokevirtual 31, 3) := by decide +kernel
theorem dX2_readInto_27 : decode cX2_readInto 27 = .ok (.aload_n 0, 1) := by decide +kernel
theorem dX2_readInto_28 : decode cX2_readInto 28 = .ok (.getfield 24, 3) := by decide +kernel
theorem dX2_readInto_31 : decode cX2_readInto 31 = .ok (.aload_n 0, 1) := by decide +kernel
theorem dX2_readInto_32 : decode cX2_readInto 32 = .ok (.getfield 15, 3) := by decide +kernel
theorem dX2_readInto_35 : decode cX2_readInto 35 = .ok (.if_icmp .lt 5, 3) := by decide +kernel
theorem dX2_readInto_38 : decode cX2_readInto 38 = .ok (.iload_n 2, 1) := by decide +kernel
theorem dX2_readInto_39 : decode cX2_readInto 39 = .ok (.ireturn, 1) := by decide +kernel
theorem dX2_readInto_40 : decode cX2_readInto 40 = .ok (.aload_n 0, 1) := by decide +kernel
theorem dX2_readInto_41 : decode cX2_readInto 41 = .ok (.aload_n 1, 1) := by decide +kernel
theorem dX2_readInto_42 : decode cX2_readInto 42 = .ok (.invokevirtual 34, 3) := by decide +kernel
theorem dX2_readInto_45 : decode cX2_readInto 45 = .ok (.ifCond .ne 6, 3) := by decide +kernel
theorem dX2_readInto_48 : decode cX2_readInto 48 = .ok (.goto 9, 3) := by decide +kernel
theorem dX2_readInto_51 : decode cX2_readInto 51 = .ok (.iinc 2 1, 3) := by decide +kernel
theorem dX2_readInto_54 : decode cX2_readInto 54 = .ok (.goto (-38), 3) := by decide +kernel
theorem dX2_readInto_57 : decode cX2_readInto 57 = .ok (.bipush (-10), 2) := by decide +kernel
theorem dX2_readInto_59 : decode cX2_readInto 59 = .ok (.aload_n 0, 1) := by decide +kernel
theorem dX2_readInto_60 : decode cX2_readInto 60 = .ok (.getfield 24, 3) := by decide +kernel
theorem dX2_readInto_63 : decode cX2_readInto 63 = .ok (.isub, 1) := by decide +kernel
theorem dX2_readInto_64 : decode cX2_readInto 64 = .ok (.ireturn, 1) := by decide +kernel
theorem dX2_readItem_0 : decode cX2_readItem 0 = .ok (.aload_n 0, 1) := by decide +kernel
theorem dX2_readItem_1 : decode cX2_readItem 1 = .ok (.invokevirtual 38, 3) := by decide +kernel
theorem dX2_readItem_4 : decode cX2_readItem 4 = .ok (.lookupswitch 102 #[(99, 59), (112, 36), (119, 81)], 36) := by decide +kernel
theorem dX2_readItem_40 : decode cX2_readItem 40 = .ok (.aload_n 1, 1) := by decide +kernel
theorem dX2_readItem_41 : decode cX2_readItem 41 = .ok (.getfield 42, 3) := by decide +kernel
theorem dX2_readItem_44 : decode cX2_readItem 44 = .ok (.bipush 8, 2) := by decide +kernel
theorem dX2_readItem_46 : decode cX2_readItem 46 = .ok (.if_icmp .ge 15, 3) := by decide +kernel
theorem dX2_readItem_49 : decode cX2_readItem 49 = .ok (.aload_n 0, 1) := by decide +kernel
theorem dX2_readItem_50 : decode cX2_readItem 50 = .ok (.aload_n 1, 1) := by decide +kernel
theorem dX2_readItem_51 : decode cX2_readItem 51 = .ok (.invokevirtual 45, 3) := by decide +kernel
theorem dX2_readItem_54 : decode cX2_readItem 54 = .ok (.ifCond .eq 7, 3) := by decide +kernel
theorem dX2_readItem_57 : decode cX2_readItem 57 = .ok (.iconst 1, 1) := by decide +kernel
theorem dX2_readItem_58 : decode cX2_readItem 58 = .ok (.goto 4, 3) := by decide +kernel
theorem dX2_readItem_61 : decode cX2_readItem 61 = .ok (.iconst 0, 1) := by decide +kernel
theorem dX2_readItem_62 : decode cX2_readItem 62 = .ok (.ireturn, 1) := by decide +kernel
theorem dX2_readItem_63 : decode cX2_readItem 63 = .ok (.aload_n 1, 1) := by decide +kernel
theorem dX2_readItem_64 : decode cX2_readItem 64 = .ok (.getfield 48, 3) := by decide +kernel
theorem dX2_readItem_67 : decode cX2_readItem 67 = .ok (.iconst 5, 1) := by decide +kernel
theorem dX2_readItem_68 : decode cX2_readItem 68 = .ok (.if_icmp .ge 15, 3) := by decide +kernel
theorem dX2_readItem_71 : decode cX2_readItem 71 = .ok (.aload_n 0, 1) := by decide +kernel
theorem dX2_readItem_72 : decode cX2_readItem 72 = .ok (.aload_n 1, 1) := by decide +kernel
theorem dX2_readItem_73 : decode cX2_readItem 73 = .ok (.invokevirtual 51, 3) := by decide +kernel
theorem dX2_readItem_76 : decode cX2_readItem 76 = .ok (.ifCond .eq 7, 3) := by decide +kernel
theorem dX2_readItem_79 : decode cX2_readItem 79 = .ok (.iconst 1, 1) := by decide +kernel
theorem dX2_readItem_80 : decode cX2_readItem 80 = .ok (.goto 4, 3) := by decide +kernel
theorem dX2_readItem_83 : decode cX2_readItem 83 = .ok (.iconst 0, 1) := by decide +kernel
theorem dX2_readItem_84 : decode cX2_readItem 84 = .ok (.ireturn, 1) := by decide +kernel
theorem dX2_readItem_85 : decode cX2_readItem 85 = .ok (.aload_n 0, 1) := by decide +kernel
theorem dX2_readItem_86 : decode cX2_readItem 86 = .ok (.getfield 27, 3) := by decide +kernel
theorem dX2_readItem_89 : decode cX2_readItem 89 = .ok (.ifCond .ne 15, 3) := by decide +kernel
theorem dX2_readItem_92 : decode cX2_readItem 92 = .ok (.aload_n 0, 1) := by decide +kernel
theorem dX2_readItem_93 : decode cX2_readItem 93 = .ok (.aload_n 1, 1) := by decide +kernel
theorem dX2_readItem_94 : decode cX2_readItem 94 = .ok (.invokevirtual 54, 3) := by decide +kernel
theorem dX2_readItem_97 : decode cX2_readItem 97 = .ok (.ifCond .eq 7, 3) := by decide +kernel
theorem dX2_readItem_100 : decode cX2_readItem 100 = .ok (.iconst 1, 1) := by decide +kernel
theorem dX2_readItem_101 : decode cX2_readItem 101 = .ok (.goto 4, 3) := by decide +kernel
theorem dX2_readItem_104 : decode cX2_readItem 104 = .ok (.iconst 0, 1) := by decide +kernel
theorem dX2_readItem_105 : decode cX2_readItem 105 = .ok (.ireturn, 1) := by decide +kernel
theorem dX2_readItem_106 : decode cX2_readItem 106 = .ok (.iconst 0, 1) := by decide +kernel
theorem dX2_readItem_107 : decode cX2_readItem 107 = .ok (.ireturn, 1) := by decide +kernel
theorem dX2_readPile_0 : decode cX2_readPile 0 = .ok (.aload_n 0, 1) := by decide +kernel
theorem dX2_readPile_1 : decode cX2_readPile 1 = .ok (.dup, 1) := by decide +kernel
theorem dX2_readPile_2 : decode cX2_readPile 2 = .ok (.getfield 24, 3) := by decide +kernel
theorem dX2_readPile_5 : decode cX2_readPile 5 = .ok (.iconst 1, 1) := by decide +kernel
theorem dX2_readPile_6 : decode cX2_readPile 6 = .ok (.iadd, 1) := by decide +kernel
theorem dX2_readPile_7 : decode cX2_readPile 7 = .ok (.putfield 24, 3) := by decide +kernel
theorem dX2_readPile_10 : decode cX2_readPile 10 = .ok (.aload_n 0, 1) := by decide +kernel
theorem dX2_readPile_11 : decode cX2_readPile 11 = .ok (.invokevirtual 57, 3) := by decide +kernel
theorem dX2_readPile_14 : decode cX2_readPile 14 = .ok (.ifCond .ne 5, 3) := by decide +kernel
theorem dX2_readPile_17 : decode cX2_readPile 17 = .ok (.iconst 0, 1) := by decide +kernel
theorem dX2_readPile_18 : decode cX2_readPile 18 = .ok (.ireturn, 1) := by decide +kernel
theorem dX2_readPile_19 : decode cX2_readPile 19 = .ok (.aload_n 1, 1) := by decide +kernel
theorem dX2_readPile_20 : decode cX2_readPile 20 = .ok (.aload_n 0, 1) := by decide +kernel
theorem dX2_readPile_21 : decode cX2_readPile 21 = .ok (.getfield 61, 3) := by decide +kernel
theorem dX2_readPile_24 : decode cX2_readPile 24 = .ok (.aload_n 0, 1) := by decide +kernel
theorem dX2_readPile_25 : decode cX2_readPile 25 = .ok (.getfield 64, 3) := by decide +kernel
theorem dX2_readPile_28 : decode cX2_readPile 28 = .ok (.invokevirtual 67, 3) := by decide +kernel
theorem dX2_readPile_31 : decode cX2_readPile 31 = .ok (.ifCond .eq 13, 3) := by decide +kernel
theorem dX2_readPile_34 : decode cX2_readPile 34 = .ok (.aload_n 0, 1) := by decide +kernel
theorem dX2_readPile_35 : decode cX2_readPile 35 = .ok (.aload_n 0, 1) := by decide +kernel
theorem dX2_readPile_36 : decode cX2_readPile 36 = .ok (.getfield 71, 3) := by decide +kernel
theorem dX2_readPile_39 : decode cX2_readPile 39 = .ok (.putfield 24, 3) := by decide +kernel
theorem dX2_readPile_42 : decode cX2_readPile 42 = .ok (.iconst 0, 1) := by decide +kernel
theorem dX2_readPile_43 : decode cX2_readPile 43 = .ok (.ireturn, 1) := by decide +kernel
theorem dX2_readPile_44 : decode cX2_readPile 44 = .ok (.aload_n 0, 1) := by decide +kernel
theorem dX2_readPile_45 : decode cX2_readPile 45 = .ok (.iconst 1, 1) := by decide +kernel
theorem dX2_readPile_46 : decode cX2_readPile 46 = .ok (.bipush 9, 2) := by decide +kernel
theorem dX2_readPile_48 : decode cX2_readPile 48 = .ok (.invokevirtual 74, 3) := by decide +kernel
theorem dX2_readPile_51 : decode cX2_readPile 51 = .ok (.istore_n 2, 1) := by decide +kernel
theorem dX2_readPile_52 : decode cX2_readPile 52 = .ok (.iload_n 2, 1) := by decide +kernel
theorem dX2_readPile_53 : decode cX2_readPile 53 = .ok (.iconst (-1), 1) := by decide +kernel
theorem dX2_readPile_54 : decode cX2_readPile 54 = .ok (.if_icmp .ne 5, 3) := by decide +kernel
theorem dX2_readPile_57 : decode cX2_readPile 57 = .ok (.iconst 0, 1) := by decide +kernel
theorem dX2_readPile_58 : decode cX2_readPile 58 = .ok (.ireturn, 1) := by decide +kernel
theorem dX2_readPile_59 : decode cX2_readPile 59 = .ok (.aload_n 0, 1) := by decide +kernel
theorem dX2_readPile_60 : decode cX2_readPile 60 = .ok (.iconst 1, 1) := by decide +kernel
theorem dX2_readPile_61 : decode cX2_readPile 61 = .ok (.bipush 99, 2) := by decide +kernel
theorem dX2_readPile_63 : decode cX2_readPile 63 = .ok (.invokevirtual 74, 3) := by decide +kernel
theorem dX2_readPile_66 : decode cX2_readPile 66 = .ok (.istore_n 3, 1) := by decide +kernel
theorem dX2_readPile_67 : decode cX2_readPile 67 = .ok (.iload_n 3, 1) := by decide +kernel
theorem dX2_readPile_68 : decode cX2_readPile 68 = .ok (.iconst (-1), 1) := by decide +kernel
theorem dX2_readPile_69 : decode cX2_readPile 69 = .ok (.if_icmp .eq 10, 3) := by decide +kernel
theorem dX2_readPile_72 : decode cX2_readPile 72 = .ok (.aload_n 0, 1) := by decide +kernel
theorem dX2_readPile_73 : decode cX2_readPile 73 = .ok (.invokevirtual 78, 3) := by decide +kernel
theorem dX2_readPile_76 : decode cX2_readPile 76 = .ok (.ifCond .ne 5, 3) := by decide +kernel
theorem dX2_readPile_79 : decode cX2_readPile 79 = .ok (.iconst 0, 1) := by decide +kernel
theorem dX2_readPile_80 : decode cX2_readPile 80 = .ok (.ireturn, 1) := by decide +kernel
theorem dX2_readPile_81 : decode cX2_readPile 81 = .ok (.aload_n 1, 1) := by decide +kernel
theorem dX2_readPile_82 : decode cX2_readPile 82 = .ok (.aload_n 0, 1) := by decide +kernel
theorem dX2_readPile_83 : decode cX2_readPile 83 = .ok (.getfield 61, 3) := by decide +kernel
theorem dX2_readPile_86 : decode cX2_readPile 86 = .ok (.aload_n 0, 1) := by decide +kernel
theorem dX2_readPile_87 : decode cX2_readPile 87 = .ok (.getfield 64, 3) := by decide +kernel
theorem dX2_readPile_90 : decode cX2_readPile 90 = .ok (.iload_n 2, 1) := by decide +kernel
theorem dX2_readPile_91 : decode cX2_readPile 91 = .ok (.iload_n 3, 1) := by decide +kernel
theorem dX2_readPile_92 : decode cX2_readPile 92 = .ok (.invokevirtual 81, 3) := by decide +kernel
theorem dX2_readPile_95 : decode cX2_readPile 95 = .ok (.iconst 1, 1) := by decide +kernel
theorem dX2_readPile_96 : decode cX2_readPile 96 = .ok (.ireturn, 1) := by decide +kernel
theorem dX2_readColumn_0 : decode cX2_readColumn 0 = .ok (.aload_n 0, 1) := by decide +kernel
theorem dX2_readColumn_1 : decode cX2_readColumn 1 = .ok (.dup, 1) := by decide +kernel
theorem dX2_readColumn_2 : decode cX2_readColumn 2 = .ok (.getfield 24, 3) := by decide +kernel
theorem dX2_readColumn_5 : decode cX2_readColumn 5 = .ok (.iconst 1, 1) := by decide +kernel
theorem dX2_readColumn_6 : decode cX2_readColumn 6 = .ok (.iadd, 1) := by decide +kernel
theorem dX2_readColumn_7 : decode cX2_readColumn 7 = .ok (.putfield 24, 3) := by decide +kernel
theorem dX2_readColumn_10 : decode cX2_readColumn 10 = .ok (.aload_n 0, 1) := by decide +kernel
theorem dX2_readColumn_11 : decode cX2_readColumn 11 = .ok (.invokevirtual 57, 3) := by decide +kernel
theorem dX2_readColumn_14 : decode cX2_readColumn 14 = .ok (.ifCond .ne 5, 3) := by decide +kernel
theorem dX2_readColumn_17 : decode cX2_readColumn 17 = .ok (.iconst 0, 1) := by decide +kernel
theorem dX2_readColumn_18 : decode cX2_readColumn 18 = .ok (.ireturn, 1) := by decide +kernel
theorem dX2_readColumn_19 : decode cX2_readColumn 19 = .ok (.aload_n 0, 1) := by decide +kernel
theorem dX2_readColumn_20 : decode cX2_readColumn 20 = .ok (.iconst 0, 1) := by decide +kernel
theorem dX2_readColumn_21 : decode cX2_readColumn 21 = .ok (.bipush 99, 2) := by decide +kernel
theorem dX2_readColumn_23 : decode cX2_readColumn 23 = .ok (.invokevirtual 74, 3) := by decide +kernel
theorem dX2_readColumn_26 : decode cX2_readColumn 26 = .ok (.istore_n 2, 1) := by decide +kernel
theorem dX2_readColumn_27 : decode cX2_readColumn 27 = .ok (.iload_n 2, 1) := by decide +kernel
theorem dX2_readColumn_28 : decode cX2_readColumn 28 = .ok (.iconst (-1), 1) := by decide +kernel
theorem dX2_readColumn_29 : decode cX2_readColumn 29 = .ok (.if_icmp .eq 10, 3) := by decide +kernel
theorem dX2_readColumn_32 : decode cX2_readColumn 32 = .ok (.aload_n 0, 1) := by decide +kernel
theorem dX2_readColumn_33 : decode cX2_readColumn 33 = .ok (.invokevirtual 78, 3) := by decide +kernel
theorem dX2_readColumn_36 : decode cX2_readColumn 36 = .ok (.ifCond .ne 5, 3) := by decide +kernel
theorem dX2_readColumn_39 : decode cX2_readColumn 39 = .ok (.iconst 0, 1) := by decide +kernel
theorem dX2_readColumn_40 : decode cX2_readColumn 40 = .ok (.ireturn, 1) := by decide +kernel
theorem dX2_readColumn_41 : decode cX2_readColumn 41 = .ok (.aload_n 1, 1) := by decide +kernel
theorem dX2_readColumn_42 : decode cX2_readColumn 42 = .ok (.aload_n 0, 1) := by decide +kernel
theorem dX2_readColumn_43 : decode cX2_readColumn 43 = .ok (.getfield 61, 3) := by decide +kernel
theorem dX2_readColumn_46 : decode cX2_readColumn 46 = .ok (.aload_n 0, 1) := by decide +kernel
theorem dX2_readColumn_47 : decode cX2_readColumn 47 = .ok (.getfield 64, 3) := by decide +kernel
theorem dX2_readColumn_50 : decode cX2_readColumn 50 = .ok (.iload_n 2, 1) := by decide +kernel
theorem dX2_readColumn_51 : decode cX2_readColumn 51 = .ok (.invokevirtual 85, 3) := by decide +kernel
theorem dX2_readColumn_54 : decode cX2_readColumn 54 = .ok (.iconst 1, 1) := by decide +kernel
theorem dX2_readColumn_55 : decode cX2_readColumn 55 = .ok (.ireturn, 1) := by decide +kernel
theorem dX2_readPlace_0 : decode cX2_readPlace 0 = .ok (.aload_n 0, 1) := by decide +kernel
theorem dX2_readPlace_1 : decode cX2_readPlace 1 = .ok (.iconst 0, 1) := by decide +kernel
theorem dX2_readPlace_2 : decode cX2_readPlace 2 = .ok (.bipush 18, 2) := by decide +kernel
theorem dX2_readPlace_4 : decode cX2_readPlace 4 = .ok (.invokevirtual 74, 3) := by decide +kernel
theorem dX2_readPlace_7 : decode cX2_readPlace 7 = .ok (.istore_n 1, 1) := by decide +kernel
theorem dX2_readPlace_8 : decode cX2_readPlace 8 = .ok (.iload_n 1, 1) := by decide +kernel
theorem dX2_readPlace_9 : decode cX2_readPlace 9 = .ok (.iconst (-1), 1) := by decide +kernel
theorem dX2_readPlace_10 : decode cX2_readPlace 10 = .ok (.if_icmp .ne 5, 3) := by decide +kernel
theorem dX2_readPlace_13 : decode cX2_readPlace 13 = .ok (.iconst 0, 1) := by decide +kernel
theorem dX2_readPlace_14 : decode cX2_readPlace 14 = .ok (.ireturn, 1) := by decide +kernel
theorem dX2_readPlace_15 : decode cX2_readPlace 15 = .ok (.aload_n 0, 1) := by decide +kernel
theorem dX2_readPlace_16 : decode cX2_readPlace 16 = .ok (.iconst 0, 1) := by decide +kernel
theorem dX2_readPlace_17 : decode cX2_readPlace 17 = .ok (.bipush 18, 2) := by decide +kernel
theorem dX2_readPlace_19 : decode cX2_readPlace 19 = .ok (.invokevirtual 74, 3) := by decide +kernel
theorem dX2_readPlace_22 : decode cX2_readPlace 22 = .ok (.istore_n 2, 1) := by decide +kernel
theorem dX2_readPlace_23 : decode cX2_readPlace 23 = .ok (.iload_n 2, 1) := by decide +kernel
theorem dX2_readPlace_24 : decode cX2_readPlace 24 = .ok (.iconst (-1), 1) := by decide +kernel
theorem dX2_readPlace_25 : decode cX2_readPlace 25 = .ok (.if_icmp .ne 5, 3) := by decide +kernel
theorem dX2_readPlace_28 : decode cX2_readPlace 28 = .ok (.iconst 0, 1) := by decide +kernel
theorem dX2_readPlace_29 : decode cX2_readPlace 29 = .ok (.ireturn, 1) := by decide +kernel
theorem dX2_readPlace_30 : decode cX2_readPlace 30 = .ok (.aload_n 0, 1) := by decide +kernel
theorem dX2_readPlace_31 : decode cX2_readPlace 31 = .ok (.iload_n 1, 1) := by decide +kernel
theorem dX2_readPlace_32 : decode cX2_readPlace 32 = .ok (.bipush 9, 2) := by decide +kernel
theorem dX2_readPlace_34 : decode cX2_readPlace 34 = .ok (.isub, 1) := by decide +kernel
theorem dX2_readPlace_35 : decode cX2_readPlace 35 = .ok (.putfield 61, 3) := by decide +kernel
theorem dX2_readPlace_38 : decode cX2_readPlace 38 = .ok (.aload_n 0, 1) := by decide +kernel
theorem dX2_readPlace_39 : decode cX2_readPlace 39 = .ok (.iload_n 2, 1) := by decide +kernel
theorem dX2_readPlace_40 : decode cX2_readPlace 40 = .ok (.bipush 9, 2) := by decide +kernel
theorem dX2_readPlace_42 : decode cX2_readPlace 42 = .ok (.isub, 1) := by decide +kernel
theorem dX2_readPlace_43 : decode cX2_readPlace 43 = .ok (.putfield 64, 3) := by decide +kernel
theorem dX2_readPlace_46 : decode cX2_readPlace 46 = .ok (.iconst 1, 1) := by decide +kernel
theorem dX2_readPlace_47 : decode cX2_readPlace 47 = .ok (.ireturn, 1) := by decide +kernel
theorem dX2_readWind_0 : decode cX2_readWind 0 = .ok (.aload_n 0, 1) := by decide +kernel
theorem dX2_readWind_1 : decode cX2_readWind 1 = .ok (.dup, 1) := by decide +kernel
theorem dX2_readWind_2 : decode cX2_readWind 2 = .ok (.getfield 24, 3) := by decide +kernel
theorem dX2_readWind_5 : decode cX2_readWind 5 = .ok (.iconst 1, 1) := by decide +kernel
theorem dX2_readWind_6 : decode cX2_readWind 6 = .ok (.iadd, 1) := by decide +kernel
theorem dX2_readWind_7 : decode cX2_readWind 7 = .ok (.putfield 24, 3) := by decide +kernel
theorem dX2_readWind_10 : decode cX2_readWind 10 = .ok (.aload_n 0, 1) := by decide +kernel
theorem dX2_readWind_11 : decode cX2_readWind 11 = .ok (.iconst 0, 1) := by decide +kernel
theorem dX2_readWind_12 : decode cX2_readWind 12 = .ok (.sipush 198, 3) := by decide +kernel
theorem dX2_readWind_15 : decode cX2_readWind 15 = .ok (.invokevirtual 74, 3) := by decide +kernel
theorem dX2_readWind_18 : decode cX2_readWind 18 = .ok (.istore_n 2, 1) := by decide +kernel
theorem dX2_readWind_19 : decode cX2_readWind 19 = .ok (.iload_n 2, 1) := by decide +kernel
theorem dX2_readWind_20 : decode cX2_readWind 20 = .ok (.iconst (-1), 1) := by decide +kernel
theorem dX2_readWind_21 : decode cX2_readWind 21 = .ok (.if_icmp .ne 5, 3) := by decide +kernel
theorem dX2_readWind_24 : decode cX2_readWind 24 = .ok (.iconst 0, 1) := by decide +kernel
theorem dX2_readWind_25 : decode cX2_readWind 25 = .ok (.ireturn, 1) := by decide +kernel
theorem dX2_readWind_26 : decode cX2_readWind 26 = .ok (.aload_n 0, 1) := by decide +kernel
theorem dX2_readWind_27 : decode cX2_readWind 27 = .ok (.iconst 0, 1) := by decide +kernel
theorem dX2_readWind_28 : decode cX2_readWind 28 = .ok (.sipush 198, 3) := by decide +kernel
theorem dX2_readWind_31 : decode cX2_readWind 31 = .ok (.invokevirtual 74, 3) := by decide +kernel
theorem dX2_readWind_34 : decode cX2_readWind 34 = .ok (.istore_n 3, 1) := by decide +kernel
theorem dX2_readWind_35 : decode cX2_readWind 35 = .ok (.iload_n 3, 1) := by decide +kernel
theorem dX2_readWind_36 : decode cX2_readWind 36 = .ok (.iconst (-1), 1) := by decide +kernel
theorem dX2_readWind_37 : decode cX2_readWind 37 = .ok (.if_icmp .eq 10, 3) := by decide +kernel
theorem dX2_readWind_40 : decode cX2_readWind 40 = .ok (.aload_n 0, 1) := by decide +kernel
theorem dX2_readWind_41 : decode cX2_readWind 41 = .ok (.invokevirtual 78, 3) := by decide +kernel
theorem dX2_readWind_44 : decode cX2_readWind 44 = .ok (.ifCond .ne 5, 3) := by decide +kernel
theorem dX2_readWind_47 : decode cX2_readWind 47 = .ok (.iconst 0, 1) := by decide +kernel
theorem dX2_readWind_48 : decode cX2_readWind 48 = .ok (.ireturn, 1) := by decide +kernel
theorem dX2_readWind_49 : decode cX2_readWind 49 = .ok (.aload_n 1, 1) := by decide +kernel
theorem dX2_readWind_50 : decode cX2_readWind 50 = .ok (.iload_n 2, 1) := by decide +kernel
theorem dX2_readWind_51 : decode cX2_readWind 51 = .ok (.bipush 99, 2) := by decide +kernel
theorem dX2_readWind_53 : decode cX2_readWind 53 = .ok (.isub, 1) := by decide +kernel
theorem dX2_readWind_54 : decode cX2_readWind 54 = .ok (.putfield 89, 3) := by decide +kernel
theorem dX2_readWind_57 : decode cX2_readWind 57 = .ok (.aload_n 1, 1) := by decide +kernel
theorem dX2_readWind_58 : decode cX2_readWind 58 = .ok (.iload_n 3, 1) := by decide +kernel
theorem dX2_readWind_59 : decode cX2_readWind 59 = .ok (.bipush 99, 2) := by decide +kernel
theorem dX2_readWind_61 : decode cX2_readWind 61 = .ok (.isub, 1) := by decide +kernel
theorem dX2_readWind_62 : decode cX2_readWind 62 = .ok (.putfield 92, 3) := by decide +kernel
theorem dX2_readWind_65 : decode cX2_readWind 65 = .ok (.aload_n 0, 1) := by decide +kernel
theorem dX2_readWind_66 : decode cX2_readWind 66 = .ok (.iconst 1, 1) := by decide +kernel
theorem dX2_readWind_67 : decode cX2_readWind 67 = .ok (.putfield 27, 3) := by decide +kernel
theorem dX2_readWind_70 : decode cX2_readWind 70 = .ok (.iconst 1, 1) := by decide +kernel
theorem dX2_readWind_71 : decode cX2_readWind 71 = .ok (.ireturn, 1) := by decide +kernel
theorem dX2_readNumber_0 : decode cX2_readNumber 0 = .ok (.aload_n 0, 1) := by decide +kernel
theorem dX2_readNumber_1 : decode cX2_readNumber 1 = .ok (.invokevirtual 31, 3) := by decide +kernel
theorem dX2_readNumber_4 : decode cX2_readNumber 4 = .ok (.aload_n 0, 1) := by decide +kernel
theorem dX2_readNumber_5 : decode cX2_readNumber 5 = .ok (.aload_n 0, 1) := by decide +kernel
theorem dX2_readNumber_6 : decode cX2_readNumber 6 = .ok (.getfield 24, 3) := by decide +kernel
theorem dX2_readNumber_9 : decode cX2_readNumber 9 = .ok (.putfield 71, 3) := by decide +kernel
theorem dX2_readNumber_12 : decode cX2_readNumber 12 = .ok (.iconst 0, 1) := by decide +kernel
theorem dX2_readNumber_13 : decode cX2_readNumber 13 = .ok (.istore_n 3, 1) := by decide +kernel
theorem dX2_readNumber_14 : decode cX2_readNumber 14 = .ok (.iconst 0, 1) := by decide +kernel
theorem dX2_readNumber_15 : decode cX2_readNumber 15 = .ok (.istore 4, 2) := by decide +kernel
theorem dX2_readNumber_17 : decode cX2_readNumber 17 = .ok (.aload_n 0, 1) := by decide +kernel
theorem dX2_readNumber_18 : decode cX2_readNumber 18 = .ok (.getfield 24, 3) := by decide +kernel
theorem dX2_readNumber_21 : decode cX2_readNumber 21 = .ok (.istore 5, 2) := by decide +kernel
theorem dX2_readNumber_23 : decode cX2_readNumber 23 = .ok (.iload 5, 2) := by decide +kernel
theorem dX2_readNumber_25 : decode cX2_readNumber 25 = .ok (.aload_n 0, 1) := by decide +kernel
theorem dX2_readNumber_26 : decode cX2_readNumber 26 = .ok (.getfield 15, 3) := by decide +kernel
theorem dX2_readNumber_29 : decode cX2_readNumber 29 = .ok (.if_icmp .ge 47, 3) := by decide +kernel
theorem dX2_readNumber_32 : decode cX2_readNumber 32 = .ok (.aload_n 0, 1) := by decide +kernel
theorem dX2_readNumber_33 : decode cX2_readNumber 33 = .ok (.getfield 9, 3) := by decide +kernel
theorem dX2_readNumber_36 : decode cX2_readNumber 36 = .ok (.iload 5, 2) := by decide +kernel
theorem dX2_readNumber_38 : decode cX2_readNumber 38 = .ok (.iaload, 1) := by decide +kernel
theorem dX2_readNumber_39 : decode cX2_readNumber 39 = .ok (.invokestatic 95, 3) := by decide +kernel
theorem dX2_readNumber_42 : decode cX2_readNumber 42 = .ok (.ifCond .eq 34, 3) := by decide +kernel
theorem dX2_readNumber_45 : decode cX2_readNumber 45 = .ok (.bipush 10, 2) := by decide +kernel
theorem dX2_readNumber_47 : decode cX2_readNumber 47 = .ok (.iload_n 3, 1) := by decide +kernel
theorem dX2_readNumber_48 : decode cX2_readNumber 48 = .ok (.imul, 1) := by decide +kernel
theorem dX2_readNumber_49 : decode cX2_readNumber 49 = .ok (.aload_n 0, 1) := by decide +kernel
theorem dX2_readNumber_50 : decode cX2_readNumber 50 = .ok (.getfield 9, 3) := by decide +kernel
theorem dX2_readNumber_53 : decode cX2_readNumber 53 = .ok (.iload 5, 2) := by decide +kernel
theorem dX2_readNumber_55 : decode cX2_readNumber 55 = .ok (.iaload, 1) := by decide +kernel
theorem dX2_readNumber_56 : decode cX2_readNumber 56 = .ok (.iadd, 1) := by decide +kernel
theorem dX2_readNumber_57 : decode cX2_readNumber 57 = .ok (.bipush 48, 2) := by decide +kernel
theorem dX2_readNumber_59 : decode cX2_readNumber 59 = .ok (.isub, 1) := by decide +kernel
theorem dX2_readNumber_60 : decode cX2_readNumber 60 = .ok (.sipush 199, 3) := by decide +kernel
theorem dX2_readNumber_63 : decode cX2_readNumber 63 = .ok (.invokestatic 99, 3) := by decide +kernel
theorem dX2_readNumber_66 : decode cX2_readNumber 66 = .ok (.istore_n 3, 1) := by decide +kernel
theorem dX2_readNumber_67 : decode cX2_readNumber 67 = .ok (.iinc 4 1, 3) := by decide +kernel
theorem dX2_readNumber_70 : decode cX2_readNumber 70 = .ok (.iinc 5 1, 3) := by decide +kernel
theorem dX2_readNumber_73 : decode cX2_readNumber 73 = .ok (.goto (-50), 3) := by decide +kernel
theorem dX2_readNumber_76 : decode cX2_readNumber 76 = .ok (.iload 4, 2) := by decide +kernel
theorem dX2_readNumber_78 : decode cX2_readNumber 78 = .ok (.iconst 1, 1) := by decide +kernel
theorem dX2_readNumber_79 : decode cX2_readNumber 79 = .ok (.if_icmp .le 16, 3) := by decide +kernel
theorem dX2_readNumber_82 : decode cX2_readNumber 82 = .ok (.aload_n 0, 1) := by decide +kernel
theorem dX2_readNumber_83 : decode cX2_readNumber 83 = .ok (.invokevirtual 38, 3) := by decide +kernel
theorem dX2_readNumber_86 : decode cX2_readNumber 86 = .ok (.bipush 48, 2) := by decide +kernel
theorem dX2_readNumber_88 : decode cX2_readNumber 88 = .ok (.if_icmp .ne 7, 3) := by decide +kernel
theorem dX2_readNumber_91 : decode cX2_readNumber 91 = .ok (.iconst 1, 1) := by decide +kernel
theorem dX2_readNumber_92 : decode cX2_readNumber 92 = .ok (.goto 4, 3) := by decide +kernel
theorem dX2_readNumber_95 : decode cX2_readNumber 95 = .ok (.iconst 0, 1) := by decide +kernel
theorem dX2_readNumber_96 : decode cX2_readNumber 96 = .ok (.istore 5, 2) := by decide +kernel
theorem dX2_readNumber_98 : decode cX2_readNumber 98 = .ok (.iload 4, 2) := by decide +kernel
theorem dX2_readNumber_100 : decode cX2_readNumber 100 = .ok (.ifCond .eq 18, 3) := by decide +kernel
theorem dX2_readNumber_103 : decode cX2_readNumber 103 = .ok (.iload 5, 2) := by decide +kernel
theorem dX2_readNumber_105 : decode cX2_readNumber 105 = .ok (.ifCond .ne 13, 3) := by decide +kernel
theorem dX2_readNumber_108 : decode cX2_readNumber 108 = .ok (.iload_n 3, 1) := by decide +kernel
theorem dX2_readNumber_109 : decode cX2_readNumber 109 = .ok (.iload_n 1, 1) := by decide +kernel
theorem dX2_readNumber_110 : decode cX2_readNumber 110 = .ok (.if_icmp .lt 8, 3) := by decide +kernel
theorem dX2_readNumber_113 : decode cX2_readNumber 113 = .ok (.iload_n 3, 1) := by decide +kernel
theorem dX2_readNumber_114 : decode cX2_readNumber 114 = .ok (.iload_n 2, 1) := by decide +kernel
theorem dX2_readNumber_115 : decode cX2_readNumber 115 = .ok (.if_icmp .le 5, 3) := by decide +kernel
theorem dX2_readNumber_118 : decode cX2_readNumber 118 = .ok (.iconst (-1), 1) := by decide +kernel
theorem dX2_readNumber_119 : decode cX2_readNumber 119 = .ok (.ireturn, 1) := by decide +kernel
theorem dX2_readNumber_120 : decode cX2_readNumber 120 = .ok (.aload_n 0, 1) := by decide +kernel
theorem dX2_readNumber_121 : decode cX2_readNumber 121 = .ok (.dup, 1) := by decide +kernel
theorem dX2_readNumber_122 : decode cX2_readNumber 122 = .ok (.getfield 24, 3) := by decide +kernel
theorem dX2_readNumber_125 : decode cX2_readNumber 125 = .ok (.iload 4, 2) := by decide +kernel
theorem dX2_readNumber_127 : decode cX2_readNumber 127 = .ok (.iadd, 1) := by decide +kernel
theorem dX2_readNumber_128 : decode cX2_readNumber 128 = .ok (.putfield 24, 3) := by decide +kernel
theorem dX2_readNumber_131 : decode cX2_readNumber 131 = .ok (.iload_n 3, 1) := by decide +kernel
theorem dX2_readNumber_132 : decode cX2_readNumber 132 = .ok (.ireturn, 1) := by decide +kernel
theorem dX2_readSemicolon_0 : decode cX2_readSemicolon 0 = .ok (.aload_n 0, 1) := by decide +kernel
theorem dX2_readSemicolon_1 : decode cX2_readSemicolon 1 = .ok (.invokevirtual 31, 3) := by decide +kernel
theorem dX2_readSemicolon_4 : decode cX2_readSemicolon 4 = .ok (.aload_n 0, 1) := by decide +kernel
theorem dX2_readSemicolon_5 : decode cX2_readSemicolon 5 = .ok (.invokevirtual 38, 3) := by decide +kernel
theorem dX2_readSemicolon_8 : decode cX2_readSemicolon 8 = .ok (.bipush 59, 2) := by decide +kernel
theorem dX2_readSemicolon_10 : decode cX2_readSemicolon 10 = .ok (.if_icmp .eq 5, 3) := by decide +kernel
theorem dX2_readSemicolon_13 : decode cX2_readSemicolon 13 = .ok (.iconst 0, 1) := by decide +kernel
theorem dX2_readSemicolon_14 : decode cX2_readSemicolon 14 = .ok (.ireturn, 1) := by decide +kernel
theorem dX2_readSemicolon_15 : decode cX2_readSemicolon 15 = .ok (.aload_n 0, 1) := by decide +kernel
theorem dX2_readSemicolon_16 : decode cX2_readSemicolon 16 = .ok (.dup, 1) := by decide +kernel
theorem dX2_readSemicolon_17 : decode cX2_readSemicolon 17 = .ok (.getfield 24, 3) := by decide +kernel
theorem dX2_readSemicolon_20 : decode cX2_readSemicolon 20 = .ok (.iconst 1, 1) := by decide +kernel
theorem dX2_readSemicolon_21 : decode cX2_readSemicolon 21 = .ok (.iadd, 1) := by decide +kernel
theorem dX2_readSemicolon_22 : decode cX2_readSemicolon 22 = .ok (.putfield 24, 3) := by decide +kernel
theorem dX2_readSemicolon_25 : decode cX2_readSemicolon 25 = .ok (.iconst 1, 1) := by decide +kernel
theorem dX2_readSemicolon_26 : decode cX2_readSemicolon 26 = .ok (.ireturn, 1) := by decide +kernel
theorem dX2_skipBlanks_0 : decode cX2_skipBlanks 0 = .ok (.aload_n 0, 1) := by decide +kernel
theorem dX2_skipBlanks_1 : decode cX2_skipBlanks 1 = .ok (.getfield 24, 3) := by decide +kernel
theorem dX2_skipBlanks_4 : decode cX2_skipBlanks 4 = .ok (.istore_n 1, 1) := by decide +kernel
theorem dX2_skipBlanks_5 : decode cX2_skipBlanks 5 = .ok (.iload_n 1, 1) := by decide +kernel
theorem dX2_skipBlanks_6 : decode cX2_skipBlanks 6 = .ok (.aload_n 0, 1) := by decide +kernel
theorem dX2_skipBlanks_7 : decode cX2_skipBlanks 7 = .ok (.getfield 15, 3) := by decide +kernel
theorem dX2_skipBlanks_10 : decode cX2_skipBlanks 10 = .ok (.if_icmp .ge 27, 3) := by decide +kernel
theorem dX2_skipBlanks_13 : decode cX2_skipBlanks 13 = .ok (.aload_n 0, 1) := by decide +kernel
theorem dX2_skipBlanks_14 : decode cX2_skipBlanks 14 = .ok (.getfield 9, 3) := by decide +kernel
theorem dX2_skipBlanks_17 : decode cX2_skipBlanks 17 = .ok (.iload_n 1, 1) := by decide +kernel
theorem dX2_skipBlanks_18 : decode cX2_skipBlanks 18 = .ok (.iaload, 1) := by decide +kernel
theorem dX2_skipBlanks_19 : decode cX2_skipBlanks 19 = .ok (.bipush 32, 2) := by decide +kernel
theorem dX2_skipBlanks_21 : decode cX2_skipBlanks 21 = .ok (.if_icmp .ne 16, 3) := by decide +kernel
theorem dX2_skipBlanks_24 : decode cX2_skipBlanks 24 = .ok (.aload_n 0, 1) := by decide +kernel
theorem dX2_skipBlanks_25 : decode cX2_skipBlanks 25 = .ok (.iload_n 1, 1) := by decide +kernel
theorem dX2_skipBlanks_26 : decode cX2_skipBlanks 26 = .ok (.iconst 1, 1) := by decide +kernel
theorem dX2_skipBlanks_27 : decode cX2_skipBlanks 27 = .ok (.iadd, 1) := by decide +kernel
theorem dX2_skipBlanks_28 : decode cX2_skipBlanks 28 = .ok (.putfield 24, 3) := by decide +kernel
theorem dX2_skipBlanks_31 : decode cX2_skipBlanks 31 = .ok (.iinc 1 1, 3) := by decide +kernel
theorem dX2_skipBlanks_34 : decode cX2_skipBlanks 34 = .ok (.goto (-29), 3) := by decide +kernel
theorem dX2_skipBlanks_37 : decode cX2_skipBlanks 37 = .ok (.return_, 1) := by decide +kernel
theorem dX2_letterHere_0 : decode cX2_letterHere 0 = .ok (.aload_n 0, 1) := by decide +kernel
theorem dX2_letterHere_1 : decode cX2_letterHere 1 = .ok (.getfield 24, 3) := by decide +kernel
theorem dX2_letterHere_4 : decode cX2_letterHere 4 = .ok (.ifCond .lt 26, 3) := by decide +kernel
theorem dX2_letterHere_7 : decode cX2_letterHere 7 = .ok (.aload_n 0, 1) := by decide +kernel
theorem dX2_letterHere_8 : decode cX2_letterHere 8 = .ok (.getfield 24, 3) := by decide +kernel
theorem dX2_letterHere_11 : decode cX2_letterHere 11 = .ok (.aload_n 0, 1) := by decide +kernel
theorem dX2_letterHere_12 : decode cX2_letterHere 12 = .ok (.getfield 15, 3) := by decide +kernel
theorem dX2_letterHere_15 : decode cX2_letterHere 15 = .ok (.if_icmp .ge 15, 3) := by decide +kernel
theorem dX2_letterHere_18 : decode cX2_letterHere 18 = .ok (.aload_n 0, 1) := by decide +kernel
theorem dX2_letterHere_19 : decode cX2_letterHere 19 = .ok (.getfield 9, 3) := by decide +kernel
theorem dX2_letterHere_22 : decode cX2_letterHere 22 = .ok (.aload_n 0, 1) := by decide +kernel
theorem dX2_letterHere_23 : decode cX2_letterHere 23 = .ok (.getfield 24, 3) := by decide +kernel
theorem dX2_letterHere_26 : decode cX2_letterHere 26 = .ok (.iaload, 1) := by decide +kernel
theorem dX2_letterHere_27 : decode cX2_letterHere 27 = .ok (.goto 4, 3) := by decide +kernel
theorem dX2_letterHere_30 : decode cX2_letterHere 30 = .ok (.iconst (-1), 1) := by decide +kernel
theorem dX2_letterHere_31 : decode cX2_letterHere 31 = .ok (.ireturn, 1) := by decide +kernel
theorem dX2_isDigit_0 : decode cX2_isDigit 0 = .ok (.iload_n 0, 1) := by decide +kernel
theorem dX2_isDigit_1 : decode cX2_isDigit 1 = .ok (.bipush 48, 2) := by decide +kernel
theorem dX2_isDigit_3 : decode cX2_isDigit 3 = .ok (.if_icmp .lt 13, 3) := by decide +kernel
theorem dX2_isDigit_6 : decode cX2_isDigit 6 = .ok (.iload_n 0, 1) := by decide +kernel
theorem dX2_isDigit_7 : decode cX2_isDigit 7 = .ok (.bipush 57, 2) := by decide +kernel
theorem dX2_isDigit_9 : decode cX2_isDigit 9 = .ok (.if_icmp .gt 7, 3) := by decide +kernel
theorem dX2_isDigit_12 : decode cX2_isDigit 12 = .ok (.iconst 1, 1) := by decide +kernel
theorem dX2_isDigit_13 : decode cX2_isDigit 13 = .ok (.goto 4, 3) := by decide +kernel
theorem dX2_isDigit_16 : decode cX2_isDigit 16 = .ok (.iconst 0, 1) := by decide +kernel
theorem dX2_isDigit_17 : decode cX2_isDigit 17 = .ok (.ireturn, 1) := by decide +kernel
theorem dX3_init_0 : decode cX3_init 0 = .ok (.aload_n 0, 1) := by decide +kernel
theorem dX3_init_1 : decode cX3_init 1 = .ok (.invokespecial 3, 3) := by decide +kernel
theorem dX3_init_4 : decode cX3_init 4 = .ok (.aload_n 0, 1) := by decide +kernel
theorem dX3_init_5 : decode cX3_init 5 = .ok (.bipush 8, 2) := by decide +kernel
theorem dX3_init_7 : decode cX3_init 7 = .ok (.newarray .int, 2) := by decide +kernel
theorem dX3_init_9 : decode cX3_init 9 = .ok (.putfield 9, 3) := by decide +kernel
theorem dX3_init_12 : decode cX3_init 12 = .ok (.aload_n 0, 1) := by decide +kernel
theorem dX3_init_13 : decode cX3_init 13 = .ok (.bipush 8, 2) := by decide +kernel
theorem dX3_init_15 : decode cX3_init 15 = .ok (.newarray .int, 2) := by decide +kernel
theorem dX3_init_17 : decode cX3_init 17 = .ok (.putfield 15, 3) := by decide +kernel
theorem dX3_init_20 : decode cX3_init 20 = .ok (.aload_n 0, 1) := by decide +kernel
theorem dX3_init_21 : decode cX3_init 21 = .ok (.bipush 8, 2) := by decide +kernel
theorem dX3_init_23 : decode cX3_init 23 = .ok (.newarray .int, 2) := by decide +kernel
theorem dX3_init_25 : decode cX3_init 25 = .ok (.putfield 18, 3) := by decide +kernel
theorem dX3_init_28 : decode cX3_init 28 = .ok (.aload_n 0, 1) := by decide +kernel
theorem dX3_init_29 : decode cX3_init 29 = .ok (.bipush 8, 2) := by decide +kernel
theorem dX3_init_31 : decode cX3_init 31 = .ok (.newarray .int, 2) := by decide +kernel
theorem dX3_init_33 : decode cX3_init 33 = .ok (.putfield 21, 3) := by decide +kernel
theorem dX3_init_36 : decode cX3_init 36 = .ok (.aload_n 0, 1) := by decide +kernel
theorem dX3_init_37 : decode cX3_init 37 = .ok (.iconst 5, 1) := by decide +kernel
theorem dX3_init_38 : decode cX3_init 38 = .ok (.newarray .int, 2) := by decide +kernel
theorem dX3_init_40 : decode cX3_init 40 = .ok (.putfield 24, 3) := by decide +kernel
theorem dX3_init_43 : decode cX3_init 43 = .ok (.aload_n 0, 1) := by decide +kernel
theorem dX3_init_44 : decode cX3_init 44 = .ok (.iconst 5, 1) := by decide +kernel
theorem dX3_init_45 : decode cX3_init 45 = .ok (.newarray .int, 2) := by decide +kernel
theorem dX3_init_47 : decode cX3_init 47 = .ok (.putfield 27, 3) := by decide +kernel
theorem dX3_init_50 : decode cX3_init 50 = .ok (.aload_n 0, 1) := by decide +kernel
theorem dX3_init_51 : decode cX3_init 51 = .ok (.iconst 5, 1) := by decide +kernel
theorem dX3_init_52 : decode cX3_init 52 = .ok (.newarray .int, 2) := by decide +kernel
theorem dX3_init_54 : decode cX3_init 54 = .ok (.putfield 30, 3) := by decide +kernel
theorem dX3_init_57 : decode cX3_init 57 = .ok (.return_, 1) := by decide +kernel
theorem dX3_empty_0 : decode cX3_empty 0 = .ok (.aload_n 0, 1) := by decide +kernel
theorem dX3_empty_1 : decode cX3_empty 1 = .ok (.iconst 0, 1) := by decide +kernel
theorem dX3_empty_2 : decode cX3_empty 2 = .ok (.putfield 33, 3) := by decide +kernel
theorem dX3_empty_5 : decode cX3_empty 5 = .ok (.aload_n 0, 1) := by decide +kernel
theorem dX3_empty_6 : decode cX3_empty 6 = .ok (.iconst 0, 1) := by decide +kernel
theorem dX3_empty_7 : decode cX3_empty 7 = .ok (.putfield 37, 3) := by decide +kernel
theorem dX3_empty_10 : decode cX3_empty 10 = .ok (.aload_n 0, 1) := by decide +kernel
theorem dX3_empty_11 : decode cX3_empty 11 = .ok (.iconst 0, 1) := by decide +kernel
theorem dX3_empty_12 : decode cX3_empty 12 = .ok (.putfield 40, 3) := by decide +kernel
theorem dX3_empty_15 : decode cX3_empty 15 = .ok (.aload_n 0, 1) := by decide +kernel
theorem dX3_empty_16 : decode cX3_empty 16 = .ok (.iconst 0, 1) := by decide +kernel
theorem dX3_empty_17 : decode cX3_empty 17 = .ok (.putfield 43, 3) := by decide +kernel
theorem dX3_empty_20 : decode cX3_empty 20 = .ok (.aload_n 0, 1) := by decide +kernel
theorem dX3_empty_21 : decode cX3_empty 21 = .ok (.iconst 0, 1) := by decide +kernel
theorem dX3_empty_22 : decode cX3_empty 22 = .ok (.putfield 46, 3) := by decide +kernel
theorem dX3_empty_25 : decode cX3_empty 25 = .ok (.return_, 1) := by decide +kernel
theorem dX3_copy_0 : decode cX3_copy 0 = .ok (.aload_n 0, 1) := by decide +kernel
theorem dX3_copy_1 : decode cX3_copy 1 = .ok (.ifnull 7, 3) := by decide +kernel
theorem dX3_copy_4 : decode cX3_copy 4 = .ok (.aload_n 1, 1) := by decide +kernel
theorem dX3_copy_5 : decode cX3_copy 5 = .ok (.ifnonnull 4, 3) := by decide +kernel
theorem dX3_copy_8 : decode cX3_copy 8 = .ok (.return_, 1) := by decide +kernel
theorem dX3_copy_9 : decode cX3_copy 9 = .ok (.aload_n 0, 1) := by decide +kernel
theorem dX3_copy_10 : decode cX3_copy 10 = .ok (.getfield 9, 3) := by decide +kernel
theorem dX3_copy_13 : decode cX3_copy 13 = .ok (.iconst 0, 1) := by decide +kernel
theorem dX3_copy_14 : decode cX3_copy 14 = .ok (.aload_n 1, 1) := by decide +kernel
theorem dX3_copy_15 : decode cX3_copy 15 = .ok (.getfield 9, 3) := by decide +kernel
theorem dX3_copy_18 : decode cX3_copy 18 = .ok (.iconst 0, 1) := by decide +kernel
theorem dX3_copy_19 : decode cX3_copy 19 = .ok (.bipush 8, 2) := by decide +kernel
theorem dX3_copy_21 : decode cX3_copy 21 = .ok (.invokestatic 49, 3) := by decide +kernel
theorem dX3_copy_24 : decode cX3_copy 24 = .ok (.aload_n 0, 1) := by decide +kernel
theorem dX3_copy_25 : decode cX3_copy 25 = .ok (.getfield 15, 3) := by decide +kernel
theorem dX3_copy_28 : decode cX3_copy 28 = .ok (.iconst 0, 1) := by decide +kernel
theorem dX3_copy_29 : decode cX3_copy 29 = .ok (.aload_n 1, 1) := by decide +kernel
theorem dX3_copy_30 : decode cX3_copy 30 = .ok (.getfield 15, 3) := by decide +kernel
theorem dX3_copy_33 : decode cX3_copy 33 = .ok (.iconst 0, 1) := by decide +kernel
theorem dX3_copy_34 : decode cX3_copy 34 = .ok (.bipush 8, 2) := by decide +kernel
theorem dX3_copy_36 : decode cX3_copy 36 = .ok (.invokestatic 49, 3) := by decide +kernel
theorem dX3_copy_39 : decode cX3_copy 39 = .ok (.aload_n 0, 1) := by decide +kernel
theorem dX3_copy_40 : decode cX3_copy 40 = .ok (.getfield 18, 3) := by decide +kernel
theorem dX3_copy_43 : decode cX3_copy 43 = .ok (.iconst 0, 1) := by decide +kernel
theorem dX3_copy_44 : decode cX3_copy 44 = .ok (.aload_n 1, 1) := by decide +kernel
theorem dX3_copy_45 : decode cX3_copy 45 = .ok (.getfield 18, 3) := by decide +kernel
theorem dX3_copy_48 : decode cX3_copy 48 = .ok (.iconst 0, 1) := by decide +kernel
theorem dX3_copy_49 : decode cX3_copy 49 = .ok (.bipush 8, 2) := by decide +kernel
theorem dX3_copy_51 : decode cX3_copy 51 = .ok (.invokestatic 49, 3) := by decide +kernel
theorem dX3_copy_54 : decode cX3_copy 54 = .ok (.aload_n 0, 1) := by decide +kernel
theorem dX3_copy_55 : decode cX3_copy 55 = .ok (.getfield 21, 3) := by decide +kernel
theorem dX3_copy_58 : decode cX3_copy 58 = .ok (.iconst 0, 1) := by decide +kernel
theorem dX3_copy_59 : decode cX3_copy 59 = .ok (.aload_n 1, 1) := by decide +kernel
theorem dX3_copy_60 : decode cX3_copy 60 = .ok (.getfield 21, 3) := by decide +kernel
theorem dX3_copy_63 : decode cX3_copy 63 = .ok (.iconst 0, 1) := by decide +kernel
theorem dX3_copy_64 : decode cX3_copy 64 = .ok (.bipush 8, 2) := by decide +kernel
theorem dX3_copy_66 : decode cX3_copy 66 = .ok (.invokestatic 49, 3) := by decide +kernel
theorem dX3_copy_69 : decode cX3_copy 69 = .ok (.aload_n 1, 1) := by decide +kernel
theorem dX3_copy_70 : decode cX3_copy 70 = .ok (.aload_n 0, 1) := by decide +kernel
theorem dX3_copy_71 : decode cX3_copy 71 = .ok (.getfield 33, 3) := by decide +kernel
theorem dX3_copy_74 : decode cX3_copy 74 = .ok (.putfield 33, 3) := by decide +kernel
theorem dX3_copy_77 : decode cX3_copy 77 = .ok (.aload_n 1, 1) := by decide +kernel
theorem dX3_copy_78 : decode cX3_copy 78 = .ok (.aload_n 0, 1) := by decide +kernel
theorem dX3_copy_79 : decode cX3_copy 79 = .ok (.getfield 37, 3) := by decide +kernel
theorem dX3_copy_82 : decode cX3_copy 82 = .ok (.putfield 37, 3) := by decide +kernel
theorem dX3_copy_85 : decode cX3_copy 85 = .ok (.aload_n 0, 1) := by decide +kernel
theorem dX3_copy_86 : decode cX3_copy 86 = .ok (.getfield 24, 3) := by decide +kernel
theorem dX3_copy_89 : decode cX3_copy 89 = .ok (.iconst 0, 1) := by decide +kernel
theorem dX3_copy_90 : decode cX3_copy 90 = .ok (.aload_n 1, 1) := by decide +kernel
theorem dX3_copy_91 : decode cX3_copy 91 = .ok (.getfield 24, 3) := by decide +kernel
theorem dX3_copy_94 : decode cX3_copy 94 = .ok (.iconst 0, 1) := by decide +kernel
theorem dX3_copy_95 : decode cX3_copy 95 = .ok (.iconst 5, 1) := by decide +kernel
theorem dX3_copy_96 : decode cX3_copy 96 = .ok (.invokestatic 49, 3) := by decide +kernel
theorem dX3_copy_99 : decode cX3_copy 99 = .ok (.aload_n 0, 1) := by decide +kernel
theorem dX3_copy_100 : decode cX3_copy 100 = .ok (.getfield 27, 3) := by decide +kernel
theorem dX3_copy_103 : decode cX3_copy 103 = .ok (.iconst 0, 1) := by decide +kernel
theorem dX3_copy_104 : decode cX3_copy 104 = .ok (.aload_n 1, 1) := by decide +kernel
theorem dX3_copy_105 : decode cX3_copy 105 = .ok (.getfield 27, 3) := by decide +kernel
theorem dX3_copy_108 : decode cX3_copy 108 = .ok (.iconst 0, 1) := by decide +kernel
theorem dX3_copy_109 : decode cX3_copy 109 = .ok (.iconst 5, 1) := by decide +kernel
theorem dX3_copy_110 : decode cX3_copy 110 = .ok (.invokestatic 49, 3) := by decide +kernel
theorem dX3_copy_113 : decode cX3_copy 113 = .ok (.aload_n 0, 1) := by decide +kernel
theorem dX3_copy_114 : decode cX3_copy 114 = .ok (.getfield 30, 3) := by decide +kernel
theorem dX3_copy_117 : decode cX3_copy 117 = .ok (.iconst 0, 1) := by decide +kernel
theorem dX3_copy_118 : decode cX3_copy 118 = .ok (.aload_n 1, 1) := by decide +kernel
theorem dX3_copy_119 : decode cX3_copy 119 = .ok (.getfield 30, 3) := by decide +kernel
theorem dX3_copy_122 : decode cX3_copy 122 = .ok (.iconst 0, 1) := by decide +kernel
theorem dX3_copy_123 : decode cX3_copy 123 = .ok (.iconst 5, 1) := by decide +kernel
theorem dX3_copy_124 : decode cX3_copy 124 = .ok (.invokestatic 49, 3) := by decide +kernel
theorem dX3_copy_127 : decode cX3_copy 127 = .ok (.aload_n 1, 1) := by decide +kernel
theorem dX3_copy_128 : decode cX3_copy 128 = .ok (.aload_n 0, 1) := by decide +kernel
theorem dX3_copy_129 : decode cX3_copy 129 = .ok (.getfield 40, 3) := by decide +kernel
theorem dX3_copy_132 : decode cX3_copy 132 = .ok (.putfield 40, 3) := by decide +kernel
theorem dX3_copy_135 : decode cX3_copy 135 = .ok (.aload_n 1, 1) := by decide +kernel
theorem dX3_copy_136 : decode cX3_copy 136 = .ok (.aload_n 0, 1) := by decide +kernel
theorem dX3_copy_137 : decode cX3_copy 137 = .ok (.getfield 43, 3) := by decide +kernel
theorem dX3_copy_140 : decode cX3_copy 140 = .ok (.putfield 43, 3) := by decide +kernel
theorem dX3_copy_143 : decode cX3_copy 143 = .ok (.aload_n 1, 1) := by decide +kernel
theorem dX3_copy_144 : decode cX3_copy 144 = .ok (.aload_n 0, 1) := by decide +kernel
theorem dX3_copy_145 : decode cX3_copy 145 = .ok (.getfield 46, 3) := by decide +kernel
theorem dX3_copy_148 : decode cX3_copy 148 = .ok (.putfield 46, 3) := by decide +kernel
theorem dX3_copy_151 : decode cX3_copy 151 = .ok (.return_, 1) := by decide +kernel
theorem dX3_hasPileAt_0 : decode cX3_hasPileAt 0 = .ok (.iconst 0, 1) := by decide +kernel
theorem dX3_hasPileAt_1 : decode cX3_hasPileAt 1 = .ok (.istore_n 3, 1) := by decide +kernel
theorem dX3_hasPileAt_2 : decode cX3_hasPileAt 2 = .ok (.iload_n 3, 1) := by decide +kernel
theorem dX3_hasPileAt_3 : decode cX3_hasPileAt 3 = .ok (.aload_n 0, 1) := by decide +kernel
theorem dX3_hasPileAt_4 : decode cX3_hasPileAt 4 = .ok (.getfield 33, 3) := by decide +kernel
theorem dX3_hasPileAt_7 : decode cX3_hasPileAt 7 = .ok (.if_icmp .ge 31, 3) := by decide +kernel
theorem dX3_hasPileAt_10 : decode cX3_hasPileAt 10 = .ok (.aload_n 0, 1) := by decide +kernel
theorem dX3_hasPileAt_11 : decode cX3_hasPileAt 11 = .ok (.getfield 9, 3) := by decide +kernel
theorem dX3_hasPileAt_14 : decode cX3_hasPileAt 14 = .ok (.iload_n 3, 1) := by decide +kernel
theorem dX3_hasPileAt_15 : decode cX3_hasPileAt 15 = .ok (.iaload, 1) := by decide +kernel
theorem dX3_hasPileAt_16 : decode cX3_hasPileAt 16 = .ok (.iload_n 1, 1) := by decide +kernel
theorem dX3_hasPileAt_17 : decode cX3_hasPileAt 17 = .ok (.if_icmp .ne 15, 3) := by decide +kernel
theorem dX3_hasPileAt_20 : decode cX3_hasPileAt 20 = .ok (.aload_n 0, 1) := by decide +kernel
theorem dX3_hasPileAt_21 : decode cX3_hasPileAt 21 = .ok (.getfield 15, 3) := by decide +kernel
theorem dX3_hasPileAt_24 : decode cX3_hasPileAt 24 = .ok (.iload_n 3, 1) := by decide +kernel
theorem dX3_hasPileAt_25 : decode cX3_hasPileAt 25 = .ok (.iaload, 1) := by decide +kernel
theorem dX3_hasPileAt_26 : decode cX3_hasPileAt 26 = .ok (.iload_n 2, 1) := by decide +kernel
theorem dX3_hasPileAt_27 : decode cX3_hasPileAt 27 = .ok (.if_icmp .ne 5, 3) := by decide +kernel
theorem dX3_hasPileAt_30 : decode cX3_hasPileAt 30 = .ok (.iconst 1, 1) := by decide +kernel
theorem dX3_hasPileAt_31 : decode cX3_hasPileAt 31 = .ok (.ireturn, 1) := by decide +kernel
theorem dX3_hasPileAt_32 : decode cX3_hasPileAt 32 = .ok (.iinc 3 1, 3) := by decide +kernel
theorem dX3_hasPileAt_35 : decode cX3_hasPileAt 35 = .ok (.goto (-33), 3) := by decide +kernel
theorem dX3_hasPileAt_38 : decode cX3_hasPileAt 38 = .ok (.iconst 0, 1) := by decide +kernel
theorem dX3_hasPileAt_39 : decode cX3_hasPileAt 39 = .ok (.ireturn, 1) := by decide +kernel
theorem dX3_isIntact_0 : decode cX3_isIntact 0 = .ok (.aload_n 0, 1) := by decide +kernel
theorem dX3_isIntact_1 : decode cX3_isIntact 1 = .ok (.getfield 37, 3) := by decide +kernel
theorem dX3_isIntact_4 : decode cX3_isIntact 4 = .ok (.iload_n 1, 1) := by decide +kernel
theorem dX3_isIntact_5 : decode cX3_isIntact 5 = .ok (.ishr, 1) := by decide +kernel
theorem dX3_isIntact_6 : decode cX3_isIntact 6 = .ok (.iconst 1, 1) := by decide +kernel
theorem dX3_isIntact_7 : decode cX3_isIntact 7 = .ok (.iand, 1) := by decide +kernel
theorem dX3_isIntact_8 : decode cX3_isIntact 8 = .ok (.iconst 1, 1) := by decide +kernel
theorem dX3_isIntact_9 : decode cX3_isIntact 9 = .ok (.if_icmp .ne 7, 3) := by decide +kernel
theorem dX3_isIntact_12 : decode cX3_isIntact 12 = .ok (.iconst 1, 1) := by decide +kernel
theorem dX3_isIntact_13 : decode cX3_isIntact 13 = .ok (.goto 4, 3) := by decide +kernel
theorem dX3_isIntact_16 : decode cX3_isIntact 16 = .ok (.iconst 0, 1) := by decide +kernel
theorem dX3_isIntact_17 : decode cX3_isIntact 17 = .ok (.ireturn, 1) := by decide +kernel
theorem dX3_addPile_0 : decode cX3_addPile 0 = .ok (.aload_n 0, 1) := by decide +kernel
theorem dX3_addPile_1 : decode cX3_addPile 1 = .ok (.getfield 33, 3) := by decide +kernel
theorem dX3_addPile_4 : decode cX3_addPile 4 = .ok (.ifCond .lt 12, 3) := by decide +kernel
theorem dX3_addPile_7 : decode cX3_addPile 7 = .ok (.aload_n 0, 1) := by decide +kernel
theorem dX3_addPile_8 : decode cX3_addPile 8 = .ok (.getfield 33, 3) := by decide +kernel
theorem dX3_addPile_11 : decode cX3_addPile 11 = .ok (.bipush 8, 2) := by decide +kernel
theorem dX3_addPile_13 : decode cX3_addPile 13 = .ok (.if_icmp .lt 4, 3) := by decide +kernel
theorem dX3_addPile_16 : decode cX3_addPile 16 = .ok (.return_, 1) := by decide +kernel
theorem dX3_addPile_17 : decode cX3_addPile 17 = .ok (.aload_n 0, 1) := by decide +kernel
theorem dX3_addPile_18 : decode cX3_addPile 18 = .ok (.getfield 9, 3) := by decide +kernel
theorem dX3_addPile_21 : decode cX3_addPile 21 = .ok (.aload_n 0, 1) := by decide +kernel
theorem dX3_addPile_22 : decode cX3_addPile 22 = .ok (.getfield 33, 3) := by decide +kernel
theorem dX3_addPile_25 : decode cX3_addPile 25 = .ok (.iload_n 1, 1) := by decide +kernel
theorem dX3_addPile_26 : decode cX3_addPile 26 = .ok (.iastore, 1) := by decide +kernel
theorem dX3_addPile_27 : decode cX3_addPile 27 = .ok (.aload_n 0, 1) := by decide +kernel
theorem dX3_addPile_28 : decode cX3_addPile 28 = .ok (.getfield 15, 3) := by decide +kernel
theorem dX3_addPile_31 : decode cX3_addPile 31 = .ok (.aload_n 0, 1) := by decide +kernel
theorem dX3_addPile_32 : decode cX3_addPile 32 = .ok (.getfield 33, 3) := by decide +kernel
theorem dX3_addPile_35 : decode cX3_addPile 35 = .ok (.iload_n 2, 1) := by decide +kernel
theorem dX3_addPile_36 : decode cX3_addPile 36 = .ok (.iastore, 1) := by decide +kernel
theorem dX3_addPile_37 : decode cX3_addPile 37 = .ok (.aload_n 0, 1) := by decide +kernel
theorem dX3_addPile_38 : decode cX3_addPile 38 = .ok (.getfield 18, 3) := by decide +kernel
theorem dX3_addPile_41 : decode cX3_addPile 41 = .ok (.aload_n 0, 1) := by decide +kernel
theorem dX3_addPile_42 : decode cX3_addPile 42 = .ok (.getfield 33, 3) := by decide +kernel
theorem dX3_addPile_45 : decode cX3_addPile 45 = .ok (.iload_n 3, 1) := by decide +kernel
theorem dX3_addPile_46 : decode cX3_addPile 46 = .ok (.iastore, 1) := by decide +kernel
theorem dX3_addPile_47 : decode cX3_addPile 47 = .ok (.aload_n 0, 1) := by decide +kernel
theorem dX3_addPile_48 : decode cX3_addPile 48 = .ok (.getfield 21, 3) := by decide +kernel
theorem dX3_addPile_51 : decode cX3_addPile 51 = .ok (.aload_n 0, 1) := by decide +kernel
theorem dX3_addPile_52 : decode cX3_addPile 52 = .ok (.getfield 33, 3) := by decide +kernel
theorem dX3_addPile_55 : decode cX3_addPile 55 = .ok (.iload 4, 2) := by decide +kernel
theorem dX3_addPile_57 : decode cX3_addPile 57 = .ok (.iastore, 1) := by decide +kernel
theorem dX3_addPile_58 : decode cX3_addPile 58 = .ok (.aload_n 0, 1) := by decide +kernel
theorem dX3_addPile_59 : decode cX3_addPile 59 = .ok (.dup, 1) := by decide +kernel
theorem dX3_addPile_60 : decode cX3_addPile 60 = .ok (.getfield 37, 3) := by decide +kernel
theorem dX3_addPile_63 : decode cX3_addPile 63 = .ok (.iconst 1, 1) := by decide +kernel
theorem dX3_addPile_64 : decode cX3_addPile 64 = .ok (.aload_n 0, 1) := by decide +kernel
theorem dX3_addPile_65 : decode cX3_addPile 65 = .ok (.getfield 33, 3) := by decide +kernel
theorem dX3_addPile_68 : decode cX3_addPile 68 = .ok (.ishl, 1) := by decide +kernel
theorem dX3_addPile_69 : decode cX3_addPile 69 = .ok (.ior, 1) := by decide +kernel
theorem dX3_addPile_70 : decode cX3_addPile 70 = .ok (.putfield 37, 3) := by decide +kernel
theorem dX3_addPile_73 : decode cX3_addPile 73 = .ok (.aload_n 0, 1) := by decide +kernel
theorem dX3_addPile_74 : decode cX3_addPile 74 = .ok (.dup, 1) := by decide +kernel
theorem dX3_addPile_75 : decode cX3_addPile 75 = .ok (.getfield 33, 3) := by decide +kernel
theorem dX3_addPile_78 : decode cX3_addPile 78 = .ok (.iconst 1, 1) := by decide +kernel
theorem dX3_addPile_79 : decode cX3_addPile 79 = .ok (.iadd, 1) := by decide +kernel
theorem dX3_addPile_80 : decode cX3_addPile 80 = .ok (.putfield 33, 3) := by decide +kernel
theorem dX3_addPile_83 : decode cX3_addPile 83 = .ok (.return_, 1) := by decide +kernel
theorem dX3_addColumn_0 : decode cX3_addColumn 0 = .ok (.aload_n 0, 1) := by decide +kernel
theorem dX3_addColumn_1 : decode cX3_addColumn 1 = .ok (.getfield 40, 3) := by decide +kernel
theorem dX3_addColumn_4 : decode cX3_addColumn 4 = .ok (.ifCond .lt 11, 3) := by decide +kernel
theorem dX3_addColumn_7 : decode cX3_addColumn 7 = .ok (.aload_n 0, 1) := by decide +kernel
theorem dX3_addColumn_8 : decode cX3_addColumn 8 = .ok (.getfield 40, 3) := by decide +kernel
theorem dX3_addColumn_11 : decode cX3_addColumn 11 = .ok (.iconst 5, 1) := by decide +kernel
theorem dX3_addColumn_12 : decode cX3_addColumn 12 = .ok (.if_icmp .lt 4, 3) := by decide +kernel
theorem dX3_addColumn_15 : decode cX3_addColumn 15 = .ok (.return_, 1) := by decide +kernel
theorem dX3_addColumn_16 : decode cX3_addColumn 16 = .ok (.aload_n 0, 1) := by decide +kernel
theorem dX3_addColumn_17 : decode cX3_addColumn 17 = .ok (.getfield 24, 3) := by decide +kernel
theorem dX3_addColumn_20 : decode cX3_addColumn 20 = .ok (.aload_n 0, 1) := by decide +kernel
theorem dX3_addColumn_21 : decode cX3_addColumn 21 = .ok (.getfield 40, 3) := by decide +kernel
theorem dX3_addColumn_24 : decode cX3_addColumn 24 = .ok (.iload_n 1, 1) := by decide +kernel
theorem dX3_addColumn_25 : decode cX3_addColumn 25 = .ok (.iastore, 1) := by decide +kernel
theorem dX3_addColumn_26 : decode cX3_addColumn 26 = .ok (.aload_n 0, 1) := by decide +kernel
theorem dX3_addColumn_27 : decode cX3_addColumn 27 = .ok (.getfield 27, 3) := by decide +kernel
theorem dX3_addColumn_30 : decode cX3_addColumn 30 = .ok (.aload_n 0, 1) := by decide +kernel
theorem dX3_addColumn_31 : decode cX3_addColumn 31 = .ok (.getfield 40, 3) := by decide +kernel
theorem dX3_addColumn_34 : decode cX3_addColumn 34 = .ok (.iload_n 2, 1) := by decide +kernel
theorem dX3_addColumn_35 : decode cX3_addColumn 35 = .ok (.iastore, 1) := by decide +kernel
theorem dX3_addColumn_36 : decode cX3_addColumn 36 = .ok (.aload_n 0, 1) := by decide +kernel
theorem dX3_addColumn_37 : decode cX3_addColumn 37 = .ok (.getfield 30, 3) := by decide +kernel
theorem dX3_addColumn_40 : decode cX3_addColumn 40 = .ok (.aload_n 0, 1) := by decide +kernel
theorem dX3_addColumn_41 : decode cX3_addColumn 41 = .ok (.getfield 40, 3) := by decide +kernel
theorem dX3_addColumn_44 : decode cX3_addColumn 44 = .ok (.iload_n 3, 1) := by decide +kernel
theorem dX3_addColumn_45 : decode cX3_addColumn 45 = .ok (.iastore, 1) := by decide +kernel
theorem dX3_addColumn_46 : decode cX3_addColumn 46 = .ok (.aload_n 0, 1) := by decide +kernel
theorem dX3_addColumn_47 : decode cX3_addColumn 47 = .ok (.dup, 1) := by decide +kernel
theorem dX3_addColumn_48 : decode cX3_addColumn 48 = .ok (.getfield 40, 3) := by decide +kernel
theorem dX3_addColumn_51 : decode cX3_addColumn 51 = .ok (.iconst 1, 1) := by decide +kernel
theorem dX3_addColumn_52 : decode cX3_addColumn 52 = .ok (.iadd, 1) := by decide +kernel
theorem dX3_addColumn_53 : decode cX3_addColumn 53 = .ok (.putfield 40, 3) := by decide +kernel
theorem dX3_addColumn_56 : decode cX3_addColumn 56 = .ok (.return_, 1) := by decide +kernel
theorem dX3_weight_0 : decode cX3_weight 0 = .ok (.iconst 0, 1) := by decide +kernel
theorem dX3_weight_1 : decode cX3_weight 1 = .ok (.istore_n 1, 1) := by decide +kernel
theorem dX3_weight_2 : decode cX3_weight 2 = .ok (.iconst 0, 1) := by decide +kernel
theorem dX3_weight_3 : decode cX3_weight 3 = .ok (.istore_n 2, 1) := by decide +kernel
theorem dX3_weight_4 : decode cX3_weight 4 = .ok (.iload_n 2, 1) := by decide +kernel
theorem dX3_weight_5 : decode cX3_weight 5 = .ok (.aload_n 0, 1) := by decide +kernel
theorem dX3_weight_6 : decode cX3_weight 6 = .ok (.getfield 40, 3) := by decide +kernel
theorem dX3_weight_9 : decode cX3_weight 9 = .ok (.if_icmp .ge 18, 3) := by decide +kernel
theorem dX3_weight_12 : decode cX3_weight 12 = .ok (.iload_n 1, 1) := by decide +kernel
theorem dX3_weight_13 : decode cX3_weight 13 = .ok (.aload_n 0, 1) := by decide +kernel
theorem dX3_weight_14 : decode cX3_weight 14 = .ok (.getfield 30, 3) := by decide +kernel
theorem dX3_weight_17 : decode cX3_weight 17 = .ok (.iload_n 2, 1) := by decide +kernel
theorem dX3_weight_18 : decode cX3_weight 18 = .ok (.iaload, 1) := by decide +kernel
theorem dX3_weight_19 : decode cX3_weight 19 = .ok (.iadd, 1) := by decide +kernel
theorem dX3_weight_20 : decode cX3_weight 20 = .ok (.istore_n 1, 1) := by decide +kernel
theorem dX3_weight_21 : decode cX3_weight 21 = .ok (.iinc 2 1, 3) := by decide +kernel
theorem dX3_weight_24 : decode cX3_weight 24 = .ok (.goto (-20), 3) := by decide +kernel
theorem dX3_weight_27 : decode cX3_weight 27 = .ok (.iload_n 1, 1) := by decide +kernel
theorem dX3_weight_28 : decode cX3_weight 28 = .ok (.ireturn, 1) := by decide +kernel
theorem dX3_momentX_0 : decode cX3_momentX 0 = .ok (.aload_n 0, 1) := by decide +kernel
theorem dX3_momentX_1 : decode cX3_momentX 1 = .ok (.getfield 43, 3) := by decide +kernel
theorem dX3_momentX_4 : decode cX3_momentX 4 = .ok (.istore_n 1, 1) := by decide +kernel
theorem dX3_momentX_5 : decode cX3_momentX 5 = .ok (.iconst 0, 1) := by decide +kernel
theorem dX3_momentX_6 : decode cX3_momentX 6 = .ok (.istore_n 2, 1) := by decide +kernel
theorem dX3_momentX_7 : decode cX3_momentX 7 = .ok (.iload_n 2, 1) := by decide +kernel
theorem dX3_momentX_8 : decode cX3_momentX 8 = .ok (.aload_n 0, 1) := by decide +kernel
theorem dX3_momentX_9 : decode cX3_momentX 9 = .ok (.getfield 40, 3) := by decide +kernel
theorem dX3_momentX_12 : decode cX3_momentX 12 = .ok (.if_icmp .ge 25, 3) := by decide +kernel
theorem dX3_momentX_15 : decode cX3_momentX 15 = .ok (.iload_n 1, 1) := by decide +kernel
theorem dX3_momentX_16 : decode cX3_momentX 16 = .ok (.aload_n 0, 1) := by decide +kernel
theorem dX3_momentX_17 : decode cX3_momentX 17 = .ok (.getfield 30, 3) := by decide +kernel
theorem dX3_momentX_20 : decode cX3_momentX 20 = .ok (.iload_n 2, 1) := by decide +kernel
theorem dX3_momentX_21 : decode cX3_momentX 21 = .ok (.iaload, 1) := by decide +kernel
theorem dX3_momentX_22 : decode cX3_momentX 22 = .ok (.aload_n 0, 1) := by decide +kernel
theorem dX3_momentX_23 : decode cX3_momentX 23 = .ok (.getfield 24, 3) := by decide +kernel
theorem dX3_momentX_26 : decode cX3_momentX 26 = .ok (.iload_n 2, 1) := by decide +kernel
theorem dX3_momentX_27 : decode cX3_momentX 27 = .ok (.iaload, 1) := by decide +kernel
theorem dX3_momentX_28 : decode cX3_momentX 28 = .ok (.imul, 1) := by decide +kernel
theorem dX3_momentX_29 : decode cX3_momentX 29 = .ok (.iadd, 1) := by decide +kernel
theorem dX3_momentX_30 : decode cX3_momentX 30 = .ok (.istore_n 1, 1) := by decide +kernel
theorem dX3_momentX_31 : decode cX3_momentX 31 = .ok (.iinc 2 1, 3) := by decide +kernel
theorem dX3_momentX_34 : decode cX3_momentX 34 = .ok (.goto (-27), 3) := by decide +kernel
theorem dX3_momentX_37 : decode cX3_momentX 37 = .ok (.iload_n 1, 1) := by decide +kernel
theorem dX3_momentX_38 : decode cX3_momentX 38 = .ok (.ireturn, 1) := by decide +kernel
theorem dX3_momentY_0 : decode cX3_momentY 0 = .ok (.aload_n 0, 1) := by decide +kernel
theorem dX3_momentY_1 : decode cX3_momentY 1 = .ok (.getfield 46, 3) := by decide +kernel
theorem dX3_momentY_4 : decode cX3_momentY 4 = .ok (.istore_n 1, 1) := by decide +kernel
theorem dX3_momentY_5 : decode cX3_momentY 5 = .ok (.iconst 0, 1) := by decide +kernel
theorem dX3_momentY_6 : decode cX3_momentY 6 = .ok (.istore_n 2, 1) := by decide +kernel
theorem dX3_momentY_7 : decode cX3_momentY 7 = .ok (.iload_n 2, 1) := by decide +kernel
theorem dX3_momentY_8 : decode cX3_momentY 8 = .ok (.aload_n 0, 1) := by decide +kernel
theorem dX3_momentY_9 : decode cX3_momentY 9 = .ok (.getfield 40, 3) := by decide +kernel
theorem dX3_momentY_12 : decode cX3_momentY 12 = .ok (.if_icmp .ge 25, 3) := by decide +kernel
theorem dX3_momentY_15 : decode cX3_momentY 15 = .ok (.iload_n 1, 1) := by decide +kernel
theorem dX3_momentY_16 : decode cX3_momentY 16 = .ok (.aload_n 0, 1) := by decide +kernel
theorem dX3_momentY_17 : decode cX3_momentY 17 = .ok (.getfield 30, 3) := by decide +kernel
theorem dX3_momentY_20 : decode cX3_momentY 20 = .ok (.iload_n 2, 1) := by decide +kernel
theorem dX3_momentY_21 : decode cX3_momentY 21 = .ok (.iaload, 1) := by decide +kernel
theorem dX3_momentY_22 : decode cX3_momentY 22 = .ok (.aload_n 0, 1) := by decide +kernel
theorem dX3_momentY_23 : decode cX3_momentY 23 = .ok (.getfield 27, 3) := by decide +kernel
theorem dX3_momentY_26 : decode cX3_momentY 26 = .ok (.iload_n 2, 1) := by decide +kernel
theorem dX3_momentY_27 : decode cX3_momentY 27 = .ok (.iaload, 1) := by decide +kernel
theorem dX3_momentY_28 : decode cX3_momentY 28 = .ok (.imul, 1) := by decide +kernel
theorem dX3_momentY_29 : decode cX3_momentY 29 = .ok (.iadd, 1) := by decide +kernel
theorem dX3_momentY_30 : decode cX3_momentY 30 = .ok (.istore_n 1, 1) := by decide +kernel
theorem dX3_momentY_31 : decode cX3_momentY 31 = .ok (.iinc 2 1, 3) := by decide +kernel
theorem dX3_momentY_34 : decode cX3_momentY 34 = .ok (.goto (-27), 3) := by decide +kernel
theorem dX3_momentY_37 : decode cX3_momentY 37 = .ok (.iload_n 1, 1) := by decide +kernel
theorem dX3_momentY_38 : decode cX3_momentY 38 = .ok (.ireturn, 1) := by decide +kernel
theorem dJ6_bitCount_0f7a4_0 : decode cJ6_bitCount_0f7a4 0 = .ok (.iload_n 0, 1) := by decide +kernel
theorem dJ6_bitCount_0f7a4_1 : decode cJ6_bitCount_0f7a4 1 = .ok (.iload_n 0, 1) := by decide +kernel
theorem dJ6_bitCount_0f7a4_2 : decode cJ6_bitCount_0f7a4 2 = .ok (.iconst 1, 1) := by decide +kernel
theorem dJ6_bitCount_0f7a4_3 : decode cJ6_bitCount_0f7a4 3 = .ok (.iushr, 1) := by decide +kernel
theorem dJ6_bitCount_0f7a4_4 : decode cJ6_bitCount_0f7a4 4 = .ok (.ldc_w 265, 3) := by decide +kernel
theorem dJ6_bitCount_0f7a4_7 : decode cJ6_bitCount_0f7a4 7 = .ok (.iand, 1) := by decide +kernel
theorem dJ6_bitCount_0f7a4_8 : decode cJ6_bitCount_0f7a4 8 = .ok (.isub, 1) := by decide +kernel
theorem dJ6_bitCount_0f7a4_9 : decode cJ6_bitCount_0f7a4 9 = .ok (.istore_n 0, 1) := by decide +kernel
theorem dJ6_bitCount_0f7a4_10 : decode cJ6_bitCount_0f7a4 10 = .ok (.iload_n 0, 1) := by decide +kernel
theorem dJ6_bitCount_0f7a4_11 : decode cJ6_bitCount_0f7a4 11 = .ok (.ldc_w 266, 3) := by decide +kernel
theorem dJ6_bitCount_0f7a4_14 : decode cJ6_bitCount_0f7a4 14 = .ok (.iand, 1) := by decide +kernel
theorem dJ6_bitCount_0f7a4_15 : decode cJ6_bitCount_0f7a4 15 = .ok (.iload_n 0, 1) := by decide +kernel
theorem dJ6_bitCount_0f7a4_16 : decode cJ6_bitCount_0f7a4 16 = .ok (.iconst 2, 1) := by decide +kernel
theorem dJ6_bitCount_0f7a4_17 : decode cJ6_bitCount_0f7a4 17 = .ok (.iushr, 1) := by decide +kernel
theorem dJ6_bitCount_0f7a4_18 : decode cJ6_bitCount_0f7a4 18 = .ok (.ldc_w 266, 3) := by decide +kernel
theorem dJ6_bitCount_0f7a4_21 : decode cJ6_bitCount_0f7a4 21 = .ok (.iand, 1) := by decide +kernel
theorem dJ6_bitCount_0f7a4_22 : decode cJ6_bitCount_0f7a4 22 = .ok (.iadd, 1) := by decide +kernel
theorem dJ6_bitCount_0f7a4_23 : decode cJ6_bitCount_0f7a4 23 = .ok (.istore_n 0, 1) := by decide +kernel
theorem dJ6_bitCount_0f7a4_24 : decode cJ6_bitCount_0f7a4 24 = .ok (.iload_n 0, 1) := by decide +kernel
theorem dJ6_bitCount_0f7a4_25 : decode cJ6_bitCount_0f7a4 25 = .ok (.iload_n 0, 1) := by decide +kernel
theorem dJ6_bitCount_0f7a4_26 : decode cJ6_bitCount_0f7a4 26 = .ok (.iconst 4, 1) := by decide +kernel
theorem dJ6_bitCount_0f7a4_27 : decode cJ6_bitCount_0f7a4 27 = .ok (.iushr, 1) := by decide +kernel
theorem dJ6_bitCount_0f7a4_28 : decode cJ6_bitCount_0f7a4 28 = .ok (.iadd, 1) := by decide +kernel
theorem dJ6_bitCount_0f7a4_29 : decode cJ6_bitCount_0f7a4 29 = .ok (.ldc_w 267, 3) := by decide +kernel
theorem dJ6_bitCount_0f7a4_32 : decode cJ6_bitCount_0f7a4 32 = .ok (.iand, 1) := by decide +kernel
theorem dJ6_bitCount_0f7a4_33 : decode cJ6_bitCount_0f7a4 33 = .ok (.istore_n 0, 1) := by decide +kernel
theorem dJ6_bitCount_0f7a4_34 : decode cJ6_bitCount_0f7a4 34 = .ok (.iload_n 0, 1) := by decide +kernel
theorem dJ6_bitCount_0f7a4_35 : decode cJ6_bitCount_0f7a4 35 = .ok (.iload_n 0, 1) := by decide +kernel
theorem dJ6_bitCount_0f7a4_36 : decode cJ6_bitCount_0f7a4 36 = .ok (.bipush 8, 2) := by decide +kernel
theorem dJ6_bitCount_0f7a4_38 : decode cJ6_bitCount_0f7a4 38 = .ok (.iushr, 1) := by decide +kernel
theorem dJ6_bitCount_0f7a4_39 : decode cJ6_bitCount_0f7a4 39 = .ok (.iadd, 1) := by decide +kernel
theorem dJ6_bitCount_0f7a4_40 : decode cJ6_bitCount_0f7a4 40 = .ok (.istore_n 0, 1) := by decide +kernel
theorem dJ6_bitCount_0f7a4_41 : decode cJ6_bitCount_0f7a4 41 = .ok (.iload_n 0, 1) := by decide +kernel
theorem dJ6_bitCount_0f7a4_42 : decode cJ6_bitCount_0f7a4 42 = .ok (.iload_n 0, 1) := by decide +kernel
theorem dJ6_bitCount_0f7a4_43 : decode cJ6_bitCount_0f7a4 43 = .ok (.bipush 16, 2) := by decide +kernel
theorem dJ6_bitCount_0f7a4_45 : decode cJ6_bitCount_0f7a4 45 = .ok (.iushr, 1) := by decide +kernel
theorem dJ6_bitCount_0f7a4_46 : decode cJ6_bitCount_0f7a4 46 = .ok (.iadd, 1) := by decide +kernel
theorem dJ6_bitCount_0f7a4_47 : decode cJ6_bitCount_0f7a4 47 = .ok (.istore_n 0, 1) := by decide +kernel
theorem dJ6_bitCount_0f7a4_48 : decode cJ6_bitCount_0f7a4 48 = .ok (.iload_n 0, 1) := by decide +kernel
theorem dJ6_bitCount_0f7a4_49 : decode cJ6_bitCount_0f7a4 49 = .ok (.bipush 63, 2) := by decide +kernel
theorem dJ6_bitCount_0f7a4_51 : decode cJ6_bitCount_0f7a4 51 = .ok (.iand, 1) := by decide +kernel
theorem dJ6_bitCount_0f7a4_52 : decode cJ6_bitCount_0f7a4 52 = .ok (.ireturn, 1) := by decide +kernel
theorem dJ13_compare_74951_0 : decode cJ13_compare_74951 0 = .ok (.lload_n 0, 1) := by decide +kernel
theorem dJ13_compare_74951_1 : decode cJ13_compare_74951 1 = .ok (.lload_n 2, 1) := by decide +kernel
theorem dJ13_compare_74951_2 : decode cJ13_compare_74951 2 = .ok (.lcmp, 1) := by decide +kernel
theorem dJ13_compare_74951_3 : decode cJ13_compare_74951 3 = .ok (.ifCond .ge 7, 3) := by decide +kernel
theorem dJ13_compare_74951_6 : decode cJ13_compare_74951 6 = .ok (.iconst (-1), 1) := by decide +kernel
theorem dJ13_compare_74951_7 : decode cJ13_compare_74951 7 = .ok (.goto 14, 3) := by decide +kernel
theorem dJ13_compare_74951_10 : decode cJ13_compare_74951 10 = .ok (.lload_n 0, 1) := by decide +kernel
theorem dJ13_compare_74951_11 : decode cJ13_compare_74951 11 = .ok (.lload_n 2, 1) := by decide +kernel
theorem dJ13_compare_74951_12 : decode cJ13_compare_74951 12 = .ok (.lcmp, 1) := by decide +kernel
theorem dJ13_compare_74951_13 : decode cJ13_compare_74951 13 = .ok (.ifCond .ne 7, 3) := by decide +kernel
theorem dJ13_compare_74951_16 : decode cJ13_compare_74951 16 = .ok (.iconst 0, 1) := by decide +kernel
theorem dJ13_compare_74951_17 : decode cJ13_compare_74951 17 = .ok (.goto 4, 3) := by decide +kernel
theorem dJ13_compare_74951_20 : decode cJ13_compare_74951 20 = .ok (.iconst 1, 1) := by decide +kernel
theorem dJ13_compare_74951_21 : decode cJ13_compare_74951 21 = .ok (.ireturn, 1) := by decide +kernel
theorem dJ9_floorDiv_f86c9_0 : decode cJ9_floorDiv_f86c9 0 = .ok (.lload_n 0, 1) := by decide +kernel
theorem dJ9_floorDiv_f86c9_1 : decode cJ9_floorDiv_f86c9 1 = .ok (.lload_n 2, 1) := by decide +kernel
theorem dJ9_floorDiv_f86c9_2 : decode cJ9_floorDiv_f86c9 2 = .ok (.ldiv, 1) := by decide +kernel
theorem dJ9_floorDiv_f86c9_3 : decode cJ9_floorDiv_f86c9 3 = .ok (.lstore 4, 2) := by decide +kernel
theorem dJ9_floorDiv_f86c9_5 : decode cJ9_floorDiv_f86c9 5 = .ok (.lload_n 0, 1) := by decide +kernel
theorem dJ9_floorDiv_f86c9_6 : decode cJ9_floorDiv_f86c9 6 = .ok (.lload_n 2, 1) := by decide +kernel
theorem dJ9_floorDiv_f86c9_7 : decode cJ9_floorDiv_f86c9 7 = .ok (.lxor, 1) := by decide +kernel
theorem dJ9_floorDiv_f86c9_8 : decode cJ9_floorDiv_f86c9 8 = .ok (.lconst 0, 1) := by decide +kernel
theorem dJ9_floorDiv_f86c9_9 : decode cJ9_floorDiv_f86c9 9 = .ok (.lcmp, 1) := by decide +kernel
theorem dJ9_floorDiv_f86c9_10 : decode cJ9_floorDiv_f86c9 10 = .ok (.ifCond .ge 17, 3) := by decide +kernel
theorem dJ9_floorDiv_f86c9_13 : decode cJ9_floorDiv_f86c9 13 = .ok (.lload 4, 2) := by decide +kernel
theorem dJ9_floorDiv_f86c9_15 : decode cJ9_floorDiv_f86c9 15 = .ok (.lload_n 2, 1) := by decide +kernel
theorem dJ9_floorDiv_f86c9_16 : decode cJ9_floorDiv_f86c9 16 = .ok (.lmul, 1) := by decide +kernel
theorem dJ9_floorDiv_f86c9_17 : decode cJ9_floorDiv_f86c9 17 = .ok (.lload_n 0, 1) := by decide +kernel
theorem dJ9_floorDiv_f86c9_18 : decode cJ9_floorDiv_f86c9 18 = .ok (.lcmp, 1) := by decide +kernel
theorem dJ9_floorDiv_f86c9_19 : decode cJ9_floorDiv_f86c9 19 = .ok (.ifCond .eq 8, 3) := by decide +kernel
theorem dJ9_floorDiv_f86c9_22 : decode cJ9_floorDiv_f86c9 22 = .ok (.lload 4, 2) := by decide +kernel
theorem dJ9_floorDiv_f86c9_24 : decode cJ9_floorDiv_f86c9 24 = .ok (.lconst 1, 1) := by decide +kernel
theorem dJ9_floorDiv_f86c9_25 : decode cJ9_floorDiv_f86c9 25 = .ok (.lsub, 1) := by decide +kernel
theorem dJ9_floorDiv_f86c9_26 : decode cJ9_floorDiv_f86c9 26 = .ok (.lreturn, 1) := by decide +kernel
theorem dJ9_floorDiv_f86c9_27 : decode cJ9_floorDiv_f86c9 27 = .ok (.lload 4, 2) := by decide +kernel
theorem dJ9_floorDiv_f86c9_29 : decode cJ9_floorDiv_f86c9 29 = .ok (.lreturn, 1) := by decide +kernel
theorem dJ9_abs_067f4_0 : decode cJ9_abs_067f4 0 = .ok (.lload_n 0, 1) := by decide +kernel
theorem dJ9_abs_067f4_1 : decode cJ9_abs_067f4 1 = .ok (.lconst 0, 1) := by decide +kernel
theorem dJ9_abs_067f4_2 : decode cJ9_abs_067f4 2 = .ok (.lcmp, 1) := by decide +kernel
theorem dJ9_abs_067f4_3 : decode cJ9_abs_067f4 3 = .ok (.ifCond .ge 8, 3) := by decide +kernel
theorem dJ9_abs_067f4_6 : decode cJ9_abs_067f4 6 = .ok (.lload_n 0, 1) := by decide +kernel
theorem dJ9_abs_067f4_7 : decode cJ9_abs_067f4 7 = .ok (.lneg, 1) := by decide +kernel
theorem dJ9_abs_067f4_8 : decode cJ9_abs_067f4 8 = .ok (.goto 4, 3) := by decide +kernel
theorem dJ9_abs_067f4_11 : decode cJ9_abs_067f4 11 = .ok (.lload_n 0, 1) := by decide +kernel
theorem dJ9_abs_067f4_12 : decode cJ9_abs_067f4 12 = .ok (.lreturn, 1) := by decide +kernel
theorem dJ9_max_7cf53_0 : decode cJ9_max_7cf53 0 = .ok (.iload_n 0, 1) := by decide +kernel
theorem dJ9_max_7cf53_1 : decode cJ9_max_7cf53 1 = .ok (.iload_n 1, 1) := by decide +kernel
theorem dJ9_max_7cf53_2 : decode cJ9_max_7cf53 2 = .ok (.if_icmp .lt 7, 3) := by decide +kernel
theorem dJ9_max_7cf53_5 : decode cJ9_max_7cf53 5 = .ok (.iload_n 0, 1) := by decide +kernel
theorem dJ9_max_7cf53_6 : decode cJ9_max_7cf53 6 = .ok (.goto 4, 3) := by decide +kernel
theorem dJ9_max_7cf53_9 : decode cJ9_max_7cf53 9 = .ok (.iload_n 1, 1) := by decide +kernel
theorem dJ9_max_7cf53_10 : decode cJ9_max_7cf53 10 = .ok (.ireturn, 1) := by decide +kernel
theorem dJ9_min_7cf53_0 : decode cJ9_min_7cf53 0 = .ok (.iload_n 0, 1) := by decide +kernel
theorem dJ9_min_7cf53_1 : decode cJ9_min_7cf53 1 = .ok (.iload_n 1, 1) := by decide +kernel
theorem dJ9_min_7cf53_2 : decode cJ9_min_7cf53 2 = .ok (.if_icmp .gt 7, 3) := by decide +kernel
theorem dJ9_min_7cf53_5 : decode cJ9_min_7cf53 5 = .ok (.iload_n 0, 1) := by decide +kernel
theorem dJ9_min_7cf53_6 : decode cJ9_min_7cf53 6 = .ok (.goto 4, 3) := by decide +kernel
theorem dJ9_min_7cf53_9 : decode cJ9_min_7cf53 9 = .ok (.iload_n 1, 1) := by decide +kernel
theorem dJ9_min_7cf53_10 : decode cJ9_min_7cf53 10 = .ok (.ireturn, 1) := by decide +kernel
theorem dJ7_fill_53178_0 : decode cJ7_fill_53178 0 = .ok (.iconst 0, 1) := by decide +kernel
theorem dJ7_fill_53178_1 : decode cJ7_fill_53178 1 = .ok (.istore_n 2, 1) := by decide +kernel
theorem dJ7_fill_53178_2 : decode cJ7_fill_53178 2 = .ok (.aload_n 0, 1) := by decide +kernel
theorem dJ7_fill_53178_3 : decode cJ7_fill_53178 3 = .ok (.arraylength, 1) := by decide +kernel
theorem dJ7_fill_53178_4 : decode cJ7_fill_53178 4 = .ok (.istore_n 3, 1) := by decide +kernel
theorem dJ7_fill_53178_5 : decode cJ7_fill_53178 5 = .ok (.iload_n 2, 1) := by decide +kernel
theorem dJ7_fill_53178_6 : decode cJ7_fill_53178 6 = .ok (.iload_n 3, 1) := by decide +kernel
theorem dJ7_fill_53178_7 : decode cJ7_fill_53178 7 = .ok (.if_icmp .ge 13, 3) := by decide +kernel
theorem dJ7_fill_53178_10 : decode cJ7_fill_53178 10 = .ok (.aload_n 0, 1) := by decide +kernel
theorem dJ7_fill_53178_11 : decode cJ7_fill_53178 11 = .ok (.iload_n 2, 1) := by decide +kernel
theorem dJ7_fill_53178_12 : decode cJ7_fill_53178 12 = .ok (.iload_n 1, 1) := by decide +kernel
theorem dJ7_fill_53178_13 : decode cJ7_fill_53178 13 = .ok (.iastore, 1) := by decide +kernel
theorem dJ7_fill_53178_14 : decode cJ7_fill_53178 14 = .ok (.iinc 2 1, 3) := by decide +kernel
theorem dJ7_fill_53178_17 : decode cJ7_fill_53178 17 = .ok (.goto (-12), 3) := by decide +kernel
theorem dJ7_fill_53178_20 : decode cJ7_fill_53178 20 = .ok (.return_, 1) := by decide +kernel
end
section
theorem dX4_init_0 : decode cX4_init 0 = .ok (.aload_n 0, 1) := by decide +kernel
theorem dX4_init_1 : decode cX4_init 1 = .ok (.invokespecial 3, 3) := by decide +kernel
theorem dX4_init_4 : decode cX4_init 4 = .ok (.aload_n 0, 1) := by decide +kernel
theorem dX4_init_5 : decode cX4_init 5 = .ok (.new 9, 3) := by decide +kernel
theorem dX4_init_8 : decode cX4_init 8 = .ok (.dup, 1) := by decide +kernel
theorem dX4_init_9 : decode cX4_init 9 = .ok (.invokespecial 11, 3) := by decide +kernel
theorem dX4_init_12 : decode cX4_init 12 = .ok (.putfield 12, 3) := by decide +kernel
theorem dX4_init_15 : decode cX4_init 15 = .ok (.aload_n 0, 1) := by decide +kernel
theorem dX4_init_16 : decode cX4_init 16 = .ok (.new 9, 3) := by decide +kernel
theorem dX4_init_19 : decode cX4_init 19 = .ok (.dup, 1) := by decide +kernel
theorem dX4_init_20 : decode cX4_init 20 = .ok (.invokespecial 11, 3) := by decide +kernel
theorem dX4_init_23 : decode cX4_init 23 = .ok (.putfield 16, 3) := by decide +kernel
theorem dX4_init_26 : decode cX4_init 26 = .ok (.aload_n 0, 1) := by decide +kernel
theorem dX4_init_27 : decode cX4_init 27 = .ok (.new 19, 3) := by decide +kernel
theorem dX4_init_30 : decode cX4_init 30 = .ok (.dup, 1) := by decide +kernel
theorem dX4_init_31 : decode cX4_init 31 = .ok (.invokespecial 21, 3) := by decide +kernel
theorem dX4_init_34 : decode cX4_init 34 = .ok (.putfield 22, 3) := by decide +kernel
theorem dX4_init_37 : decode cX4_init 37 = .ok (.aload_n 0, 1) := by decide +kernel
theorem dX4_init_38 : decode cX4_init 38 = .ok (.bipush 6, 2) := by decide +kernel
theorem dX4_init_40 : decode cX4_init 40 = .ok (.anewarray 9, 3) := by decide +kernel
theorem dX4_init_43 : decode cX4_init 43 = .ok (.putfield 26, 3) := by decide +kernel
theorem dX4_init_46 : decode cX4_init 46 = .ok (.aload_n 0, 1) := by decide +kernel
theorem dX4_init_47 : decode cX4_init 47 = .ok (.iconst 2, 1) := by decide +kernel
theorem dX4_init_48 : decode cX4_init 48 = .ok (.anewarray 9, 3) := by decide +kernel
theorem dX4_init_51 : decode cX4_init 51 = .ok (.putfield 30, 3) := by decide +kernel
theorem dX4_init_54 : decode cX4_init 54 = .ok (.aload_n 0, 1) := by decide +kernel
theorem dX4_init_55 : decode cX4_init 55 = .ok (.iconst 2, 1) := by decide +kernel
theorem dX4_init_56 : decode cX4_init 56 = .ok (.newarray .boolean, 2) := by decide +kernel
theorem dX4_init_58 : decode cX4_init 58 = .ok (.putfield 33, 3) := by decide +kernel
theorem dX4_init_61 : decode cX4_init 61 = .ok (.aload_n 0, 1) := by decide +kernel
theorem dX4_init_62 : decode cX4_init 62 = .ok (.bipush 10, 2) := by decide +kernel
theorem dX4_init_64 : decode cX4_init 64 = .ok (.putfield 37, 3) := by decide +kernel
theorem dX4_init_67 : decode cX4_init 67 = .ok (.aload_n 0, 1) := by decide +kernel
theorem dX4_init_68 : decode cX4_init 68 = .ok (.bipush 6, 2) := by decide +kernel
theorem dX4_init_70 : decode cX4_init 70 = .ok (.newarray .int, 2) := by decide +kernel
theorem dX4_init_72 : decode cX4_init 72 = .ok (.putfield 41, 3) := by decide +kernel
theorem dX4_init_75 : decode cX4_init 75 = .ok (.aload_n 0, 1) := by decide +kernel
theorem dX4_init_76 : decode cX4_init 76 = .ok (.bipush 6, 2) := by decide +kernel
theorem dX4_init_78 : decode cX4_init 78 = .ok (.newarray .int, 2) := by decide +kernel
theorem dX4_init_80 : decode cX4_init 80 = .ok (.putfield 45, 3) := by decide +kernel
theorem dX4_init_83 : decode cX4_init 83 = .ok (.aload_n 0, 1) := by decide +kernel
theorem dX4_init_84 : decode cX4_init 84 = .ok (.sipush 800, 3) := by decide +kernel
theorem dX4_init_87 : decode cX4_init 87 = .ok (.newarray .int, 2) := by decide +kernel
theorem dX4_init_89 : decode cX4_init 89 = .ok (.putfield 48, 3) := by decide +kernel
theorem dX4_init_92 : decode cX4_init 92 = .ok (.aload_n 0, 1) := by decide +kernel
theorem dX4_init_93 : decode cX4_init 93 = .ok (.new 51, 3) := by decide +kernel
theorem dX4_init_96 : decode cX4_init 96 = .ok (.dup, 1) := by decide +kernel
theorem dX4_init_97 : decode cX4_init 97 = .ok (.invokespecial 53, 3) := by decide +kernel
theorem dX4_init_100 : decode cX4_init 100 = .ok (.putfield 54, 3) := by decide +kernel
theorem dX4_init_103 : decode cX4_init 103 = .ok (.iconst 0, 1) := by decide +kernel
theorem dX4_init_104 : decode cX4_init 104 = .ok (.istore_n 1, 1) := by decide +kernel
theorem dX4_init_105 : decode cX4_init 105 = .ok (.iload_n 1, 1) := by decide +kernel
theorem dX4_init_106 : decode cX4_init 106 = .ok (.bipush 6, 2) := by decide +kernel
theorem dX4_init_108 : decode cX4_init 108 = .ok (.if_icmp .ge 22, 3) := by decide +kernel
theorem dX4_init_111 : decode cX4_init 111 = .ok (.aload_n 0, 1) := by decide +kernel
theorem dX4_init_112 : decode cX4_init 112 = .ok (.getfield 26, 3) := by decide +kernel
theorem dX4_init_115 : decode cX4_init 115 = .ok (.iload_n 1, 1) := by decide +kernel
theorem dX4_init_116 : decode cX4_init 116 = .ok (.new 9, 3) := by decide +kernel
theorem dX4_init_119 : decode cX4_init 119 = .ok (.dup, 1) := by decide +kernel
theorem dX4_init_120 : decode cX4_init 120 = .ok (.invokespecial 11, 3) := by decide +kernel
theorem dX4_init_123 : decode cX4_init 123 = .ok (.aastore, 1) := by decide +kernel
theorem dX4_init_124 : decode cX4_init 124 = .ok (.iinc 1 1, 3) := by decide +kernel
theorem dX4_init_127 : decode cX4_init 127 = .ok (.goto (-22), 3) := by decide +kernel
theorem dX4_init_130 : decode cX4_init 130 = .ok (.iconst 0, 1) := by decide +kernel
theorem dX4_init_131 : decode cX4_init 131 = .ok (.istore_n 1, 1) := by decide +kernel
theorem dX4_init_132 : decode cX4_init 132 = .ok (.iload_n 1, 1) := by decide +kernel
theorem dX4_init_133 : decode cX4_init 133 = .ok (.iconst 2, 1) := by decide +kernel
theorem dX4_init_134 : decode cX4_init 134 = .ok (.if_icmp .ge 22, 3) := by decide +kernel
theorem dX4_init_137 : decode cX4_init 137 = .ok (.aload_n 0, 1) := by decide +kernel
theorem dX4_init_138 : decode cX4_init 138 = .ok (.getfield 30, 3) := by decide +kernel
theorem dX4_init_141 : decode cX4_init 141 = .ok (.iload_n 1, 1) := by decide +kernel
theorem dX4_init_142 : decode cX4_init 142 = .ok (.new 9, 3) := by decide +kernel
theorem dX4_init_145 : decode cX4_init 145 = .ok (.dup, 1) := by decide +kernel
theorem dX4_init_146 : decode cX4_init 146 = .ok (.invokespecial 11, 3) := by decide +kernel
theorem dX4_init_149 : decode cX4_init 149 = .ok (.aastore, 1) := by decide +kernel
theorem dX4_init_150 : decode cX4_init 150 = .ok (.iinc 1 1, 3) := by decide +kernel
theorem dX4_init_153 : decode cX4_init 153 = .ok (.goto (-21), 3) := by decide +kernel
theorem dX4_init_156 : decode cX4_init 156 = .ok (.return_, 1) := by decide +kernel
theorem dX4_type_0 : decode cX4_type 0 = .ok (.iload_n 1, 1) := by decide +kernel
theorem dX4_type_1 : decode cX4_type 1 = .ok (.ifCond .lt 10, 3) := by decide +kernel
theorem dX4_type_4 : decode cX4_type 4 = .ok (.iload_n 1, 1) := by decide +kernel
theorem dX4_type_5 : decode cX4_type 5 = .ok (.sipush 255, 3) := by decide +kernel
theorem dX4_type_8 : decode cX4_type 8 = .ok (.if_icmp .le 5, 3) := by decide +kernel
theorem dX4_type_11 : decode cX4_type 11 = .ok (.iconst (-1), 1) := by decide +kernel
theorem dX4_type_12 : decode cX4_type 12 = .ok (.ireturn, 1) := by decide +kernel
theorem dX4_type_13 : decode cX4_type 13 = .ok (.aload_n 0, 1) := by decide +kernel
theorem dX4_type_14 : decode cX4_type 14 = .ok (.getfield 22, 3) := by decide +kernel
theorem dX4_type_17 : decode cX4_type 17 = .ok (.iload_n 1, 1) := by decide +kernel
theorem dX4_type_18 : decode cX4_type 18 = .ok (.invokevirtual 58, 3) := by decide +kernel
theorem dX4_type_21 : decode cX4_type 21 = .ok (.ifCond .eq 13, 3) := by decide +kernel
theorem dX4_type_24 : decode cX4_type 24 = .ok (.aload_n 0, 1) := by decide +kernel
theorem dX4_type_25 : decode cX4_type 25 = .ok (.getfield 22, 3) := by decide +kernel
theorem dX4_type_28 : decode cX4_type 28 = .ok (.getfield 62, 3) := by decide +kernel
theorem dX4_type_31 : decode cX4_type 31 = .ok (.goto 5, 3) := by decide +kernel
theorem dX4_type_34 : decode cX4_type 34 = .ok (.bipush (-3), 2) := by decide +kernel
theorem dX4_type_36 : decode cX4_type 36 = .ok (.ireturn, 1) := by decide +kernel
theorem dX4_clear_0 : decode cX4_clear 0 = .ok (.aload_n 0, 1) := by decide +kernel
theorem dX4_clear_1 : decode cX4_clear 1 = .ok (.getfield 22, 3) := by decide +kernel
theorem dX4_clear_4 : decode cX4_clear 4 = .ok (.getfield 62, 3) := by decide +kernel
theorem dX4_clear_7 : decode cX4_clear 7 = .ok (.istore_n 1, 1) := by decide +kernel
theorem dX4_clear_8 : decode cX4_clear 8 = .ok (.aload_n 0, 1) := by decide +kernel
theorem dX4_clear_9 : decode cX4_clear 9 = .ok (.getfield 22, 3) := by decide +kernel
theorem dX4_clear_12 : decode cX4_clear 12 = .ok (.iconst 0, 1) := by decide +kernel
theorem dX4_clear_13 : decode cX4_clear 13 = .ok (.putfield 62, 3) := by decide +kernel
theorem dX4_clear_16 : decode cX4_clear 16 = .ok (.iload_n 1, 1) := by decide +kernel
theorem dX4_clear_17 : decode cX4_clear 17 = .ok (.ireturn, 1) := by decide +kernel
theorem dX4_tells_0 : decode cX4_tells 0 = .ok (.aload_n 0, 1) := by decide +kernel
theorem dX4_tells_1 : decode cX4_tells 1 = .ok (.getfield 22, 3) := by decide +kernel
theorem dX4_tells_4 : decode cX4_tells 4 = .ok (.aload_n 0, 1) := by decide +kernel
theorem dX4_tells_5 : decode cX4_tells 5 = .ok (.getfield 16, 3) := by decide +kernel
theorem dX4_tells_8 : decode cX4_tells 8 = .ok (.invokevirtual 65, 3) := by decide +kernel
theorem dX4_tells_11 : decode cX4_tells 11 = .ok (.istore_n 1, 1) := by decide +kernel
theorem dX4_tells_12 : decode cX4_tells 12 = .ok (.iload_n 1, 1) := by decide +kernel
theorem dX4_tells_13 : decode cX4_tells 13 = .ok (.ifCond .ge 5, 3) := by decide +kernel
theorem dX4_tells_16 : decode cX4_tells 16 = .ok (.iload_n 1, 1) := by decide +kernel
theorem dX4_tells_17 : decode cX4_tells 17 = .ok (.ireturn, 1) := by decide +kernel
theorem dX4_tells_18 : decode cX4_tells 18 = .ok (.aload_n 0, 1) := by decide +kernel
theorem dX4_tells_19 : decode cX4_tells 19 = .ok (.getfield 16, 3) := by decide +kernel
theorem dX4_tells_22 : decode cX4_tells 22 = .ok (.aload_n 0, 1) := by decide +kernel
theorem dX4_tells_23 : decode cX4_tells 23 = .ok (.getfield 12, 3) := by decide +kernel
theorem dX4_tells_26 : decode cX4_tells 26 = .ok (.invokestatic 69, 3) := by decide +kernel
theorem dX4_tells_29 : decode cX4_tells 29 = .ok (.aload_n 0, 1) := by decide +kernel
theorem dX4_tells_30 : decode cX4_tells 30 = .ok (.getfield 22, 3) := by decide +kernel
theorem dX4_tells_33 : decode cX4_tells 33 = .ok (.iconst 0, 1) := by decide +kernel
theorem dX4_tells_34 : decode cX4_tells 34 = .ok (.putfield 62, 3) := by decide +kernel
theorem dX4_tells_37 : decode cX4_tells 37 = .ok (.aload_n 0, 1) := by decide +kernel
theorem dX4_tells_38 : decode cX4_tells 38 = .ok (.iconst 0, 1) := by decide +kernel
theorem dX4_tells_39 : decode cX4_tells 39 = .ok (.putfield 73, 3) := by decide +kernel
theorem dX4_tells_42 : decode cX4_tells 42 = .ok (.aload_n 0, 1) := by decide +kernel
theorem dX4_tells_43 : decode cX4_tells 43 = .ok (.bipush 10, 2) := by decide +kernel
theorem dX4_tells_45 : decode cX4_tells 45 = .ok (.putfield 37, 3) := by decide +kernel
theorem dX4_tells_48 : decode cX4_tells 48 = .ok (.aload_n 0, 1) := by decide +kernel
theorem dX4_tells_49 : decode cX4_tells 49 = .ok (.iconst 0, 1) := by decide +kernel
theorem dX4_tells_50 : decode cX4_tells 50 = .ok (.putfield 76, 3) := by decide +kernel
theorem dX4_tells_53 : decode cX4_tells 53 = .ok (.iconst 0, 1) := by decide +kernel
theorem dX4_tells_54 : decode cX4_tells 54 = .ok (.istore_n 2, 1) := by decide +kernel
theorem dX4_tells_55 : decode cX4_tells 55 = .ok (.iload_n 2, 1) := by decide +kernel
theorem dX4_tells_56 : decode cX4_tells 56 = .ok (.iconst 2, 1) := by decide +kernel
theorem dX4_tells_57 : decode cX4_tells 57 = .ok (.if_icmp .ge 16, 3) := by decide +kernel
theorem dX4_tells_60 : decode cX4_tells 60 = .ok (.aload_n 0, 1) := by decide +kernel
theorem dX4_tells_61 : decode cX4_tells 61 = .ok (.getfield 33, 3) := by decide +kernel
theorem dX4_tells_64 : decode cX4_tells 64 = .ok (.iload_n 2, 1) := by decide +kernel
theorem dX4_tells_65 : decode cX4_tells 65 = .ok (.iconst 0, 1) := by decide +kernel
theorem dX4_tells_66 : decode cX4_tells 66 = .ok (.bastore, 1) := by decide +kernel
theorem dX4_tells_67 : decode cX4_tells 67 = .ok (.iinc 2 1, 3) := by decide +kernel
theorem dX4_tells_70 : decode cX4_tells 70 = .ok (.goto (-15), 3) := by decide +kernel
theorem dX4_tells_73 : decode cX4_tells 73 = .ok (.iload_n 1, 1) := by decide +kernel
theorem dX4_tells_74 : decode cX4_tells 74 = .ok (.ireturn, 1) := by decide +kernel
theorem dX4_drives_0 : decode cX4_drives 0 = .ok (.iload_n 1, 1) := by decide +kernel
theorem dX4_drives_1 : decode cX4_drives 1 = .ok (.iload_n 2, 1) := by decide +kernel
theorem dX4_drives_2 : decode cX4_drives 2 = .ok (.invokestatic 79, 3) := by decide +kernel
theorem dX4_drives_5 : decode cX4_drives 5 = .ok (.ifCond .eq 12, 3) := by decide +kernel
theorem dX4_drives_8 : decode cX4_drives 8 = .ok (.iload_n 3, 1) := by decide +kernel
theorem dX4_drives_9 : decode cX4_drives 9 = .ok (.iload 4, 2) := by decide +kernel
theorem dX4_drives_11 : decode cX4_drives 11 = .ok (.invokestatic 83, 3) := by decide +kernel
theorem dX4_drives_14 : decode cX4_drives 14 = .ok (.ifCond .ne 5, 3) := by decide +kernel
theorem dX4_drives_17 : decode cX4_drives 17 = .ok (.iconst (-1), 1) := by decide +kernel
theorem dX4_drives_18 : decode cX4_drives 18 = .ok (.ireturn, 1) := by decide +kernel
theorem dX4_drives_19 : decode cX4_drives 19 = .ok (.aload_n 0, 1) := by decide +kernel
theorem dX4_drives_20 : decode cX4_drives 20 = .ok (.getfield 12, 3) := by decide +kernel
theorem dX4_drives_23 : decode cX4_drives 23 = .ok (.iload_n 1, 1) := by decide +kernel
theorem dX4_drives_24 : decode cX4_drives 24 = .ok (.iload_n 2, 1) := by decide +kernel
theorem dX4_drives_25 : decode cX4_drives 25 = .ok (.invokevirtual 86, 3) := by decide +kernel
theorem dX4_drives_28 : decode cX4_drives 28 = .ok (.ifCond .eq 6, 3) := by decide +kernel
theorem dX4_drives_31 : decode cX4_drives 31 = .ok (.bipush (-2), 2) := by decide +kernel
theorem dX4_drives_33 : decode cX4_drives 33 = .ok (.ireturn, 1) := by decide +kernel
theorem dX4_drives_34 : decode cX4_drives 34 = .ok (.aload_n 0, 1) := by decide +kernel
theorem dX4_drives_35 : decode cX4_drives 35 = .ok (.getfield 12, 3) := by decide +kernel
theorem dX4_drives_38 : decode cX4_drives 38 = .ok (.getfield 89, 3) := by decide +kernel
theorem dX4_drives_41 : decode cX4_drives 41 = .ok (.bipush 8, 2) := by decide +kernel
theorem dX4_drives_43 : decode cX4_drives 43 = .ok (.if_icmp .lt 6, 3) := by decide +kernel
theorem dX4_drives_46 : decode cX4_drives 46 = .ok (.bipush (-3), 2) := by decide +kernel
theorem dX4_drives_48 : decode cX4_drives 48 = .ok (.ireturn, 1) := by decide +kernel
theorem dX4_drives_49 : decode cX4_drives 49 = .ok (.aload_n 0, 1) := by decide +kernel
theorem dX4_drives_50 : decode cX4_drives 50 = .ok (.invokevirtual 92, 3) := by decide +kernel
theorem dX4_drives_53 : decode cX4_drives 53 = .ok (.aload_n 0, 1) := by decide +kernel
theorem dX4_drives_54 : decode cX4_drives 54 = .ok (.getfield 12, 3) := by decide +kernel
theorem dX4_drives_57 : decode cX4_drives 57 = .ok (.iload_n 1, 1) := by decide +kernel
theorem dX4_drives_58 : decode cX4_drives 58 = .ok (.iload_n 2, 1) := by decide +kernel
theorem dX4_drives_59 : decode cX4_drives 59 = .ok (.iload_n 3, 1) := by decide +kernel
theorem dX4_drives_60 : decode cX4_drives 60 = .ok (.iload 4, 2) := by decide +kernel
theorem dX4_drives_62 : decode cX4_drives 62 = .ok (.invokevirtual 95, 3) := by decide +kernel
theorem dX4_drives_65 : decode cX4_drives 65 = .ok (.aload_n 0, 1) := by decide +kernel
theorem dX4_drives_66 : decode cX4_drives 66 = .ok (.getfield 12, 3) := by decide +kernel
theorem dX4_drives_69 : decode cX4_drives 69 = .ok (.getfield 89, 3) := by decide +kernel
theorem dX4_drives_72 : decode cX4_drives 72 = .ok (.iconst 1, 1) := by decide +kernel
theorem dX4_drives_73 : decode cX4_drives 73 = .ok (.isub, 1) := by decide +kernel
theorem dX4_drives_74 : decode cX4_drives 74 = .ok (.ireturn, 1) := by decide +kernel
theorem dX4_loses_0 : decode cX4_loses 0 = .ok (.aload_n 0, 1) := by decide +kernel
theorem dX4_loses_1 : decode cX4_loses 1 = .ok (.iload_n 1, 1) := by decide +kernel
theorem dX4_loses_2 : decode cX4_loses 2 = .ok (.invokevirtual 99, 3) := by decide +kernel
theorem dX4_loses_5 : decode cX4_loses 5 = .ok (.ifCond .ne 5, 3) := by decide +kernel
theorem dX4_loses_8 : decode cX4_loses 8 = .ok (.iconst (-1), 1) := by decide +kernel
theorem dX4_loses_9 : decode cX4_loses 9 = .ok (.ireturn, 1) := by decide +kernel
theorem dX4_loses_10 : decode cX4_loses 10 = .ok (.aload_n 0, 1) := by decide +kernel
theorem dX4_loses_11 : decode cX4_loses 11 = .ok (.getfield 12, 3) := by decide +kernel
theorem dX4_loses_14 : decode cX4_loses 14 = .ok (.iload_n 1, 1) := by decide +kernel
theorem dX4_loses_15 : decode cX4_loses 15 = .ok (.invokevirtual 102, 3) := by decide +kernel
theorem dX4_loses_18 : decode cX4_loses 18 = .ok (.ifCond .ne 6, 3) := by decide +kernel
theorem dX4_loses_21 : decode cX4_loses 21 = .ok (.bipush (-2), 2) := by decide +kernel
theorem dX4_loses_23 : decode cX4_loses 23 = .ok (.ireturn, 1) := by decide +kernel
theorem dX4_loses_24 : decode cX4_loses 24 = .ok (.aload_n 0, 1) := by decide +kernel
theorem dX4_loses_25 : decode cX4_loses 25 = .ok (.invokevirtual 92, 3) := by decide +kernel
theorem dX4_loses_28 : decode cX4_loses 28 = .ok (.aload_n 0, 1) := by decide +kernel
theorem dX4_loses_29 : decode cX4_loses 29 = .ok (.getfield 12, 3) := by decide +kernel
theorem dX4_loses_32 : decode cX4_loses 32 = .ok (.dup, 1) := by decide +kernel
theorem dX4_loses_33 : decode cX4_loses 33 = .ok (.getfield 105, 3) := by decide +kernel
theorem dX4_loses_36 : decode cX4_loses 36 = .ok (.iconst 1, 1) := by decide +kernel
theorem dX4_loses_37 : decode cX4_loses 37 = .ok (.iload_n 1, 1) := by decide +kernel
theorem dX4_loses_38 : decode cX4_loses 38 = .ok (.ishl, 1) := by decide +kernel
theorem dX4_loses_39 : decode cX4_loses 39 = .ok (.iconst (-1), 1) := by decide +kernel
theorem dX4_loses_40 : decode cX4_loses 40 = .ok (.ixor, 1) := by decide +kernel
theorem dX4_loses_41 : decode cX4_loses 41 = .ok (.iand, 1) := by decide +kernel
theorem dX4_loses_42 : decode cX4_loses 42 = .ok (.putfield 105, 3) := by decide +kernel
theorem dX4_loses_45 : decode cX4_loses 45 = .ok (.aload_n 0, 1) := by decide +kernel
theorem dX4_loses_46 : decode cX4_loses 46 = .ok (.getfield 12, 3) := by decide +kernel
theorem dX4_loses_49 : decode cX4_loses 49 = .ok (.getfield 105, 3) := by decide +kernel
theorem dX4_loses_52 : decode cX4_loses 52 = .ok (.invokestatic 108, 3) := by decide +kernel
theorem dX4_loses_55 : decode cX4_loses 55 = .ok (.ireturn, 1) := by decide +kernel
theorem dX4_mends_0 : decode cX4_mends 0 = .ok (.aload_n 0, 1) := by decide +kernel
theorem dX4_mends_1 : decode cX4_mends 1 = .ok (.iload_n 1, 1) := by decide +kernel
theorem dX4_mends_2 : decode cX4_mends 2 = .ok (.invokevirtual 99, 3) := by decide +kernel
theorem dX4_mends_5 : decode cX4_mends 5 = .ok (.ifCond .ne 5, 3) := by decide +kernel
theorem dX4_mends_8 : decode cX4_mends 8 = .ok (.iconst (-1), 1) := by decide +kernel
theorem dX4_mends_9 : decode cX4_mends 9 = .ok (.ireturn, 1) := by decide +kernel
theorem dX4_mends_10 : decode cX4_mends 10 = .ok (.aload_n 0, 1) := by decide +kernel
theorem dX4_mends_11 : decode cX4_mends 11 = .ok (.getfield 12, 3) := by decide +kernel
theorem dX4_mends_14 : decode cX4_mends 14 = .ok (.iload_n 1, 1) := by decide +kernel
theorem dX4_mends_15 : decode cX4_mends 15 = .ok (.invokevirtual 102, 3) := by decide +kernel
theorem dX4_mends_18 : decode cX4_mends 18 = .ok (.ifCond .eq 6, 3) := by decide +kernel
theorem dX4_mends_21 : decode cX4_mends 21 = .ok (.bipush (-2), 2) := by decide +kernel
theorem dX4_mends_23 : decode cX4_mends 23 = .ok (.ireturn, 1) := by decide +kernel
theorem dX4_mends_24 : decode cX4_mends 24 = .ok (.aload_n 0, 1) := by decide +kernel
theorem dX4_mends_25 : decode cX4_mends 25 = .ok (.invokevirtual 92, 3) := by decide +kernel
theorem dX4_mends_28 : decode cX4_mends 28 = .ok (.aload_n 0, 1) := by decide +kernel
theorem dX4_mends_29 : decode cX4_mends 29 = .ok (.getfield 12, 3) := by decide +kernel
theorem dX4_mends_32 : decode cX4_mends 32 = .ok (.dup, 1) := by decide +kernel
theorem dX4_mends_33 : decode cX4_mends 33 = .ok (.getfield 105, 3) := by decide +kernel
theorem dX4_mends_36 : decode cX4_mends 36 = .ok (.iconst 1, 1) := by decide +kernel
theorem dX4_mends_37 : decode cX4_mends 37 = .ok (.iload_n 1, 1) := by decide +kernel
theorem dX4_mends_38 : decode cX4_mends 38 = .ok (.ishl, 1) := by decide +kernel
theorem dX4_mends_39 : decode cX4_mends 39 = .ok (.ior, 1) := by decide +kernel
theorem dX4_mends_40 : decode cX4_mends 40 = .ok (.putfield 105, 3) := by decide +kernel
theorem dX4_mends_43 : decode cX4_mends 43 = .ok (.aload_n 0, 1) := by decide +kernel
theorem dX4_mends_44 : decode cX4_mends 44 = .ok (.getfield 12, 3) := by decide +kernel
theorem dX4_mends_47 : decode cX4_mends 47 = .ok (.getfield 105, 3) := by decide +kernel
theorem dX4_mends_50 : decode cX4_mends 50 = .ok (.invokestatic 108, 3) := by decide +kernel
theorem dX4_mends_53 : decode cX4_mends 53 = .ok (.ireturn, 1) := by decide +kernel
theorem dX4_loads_0 : decode cX4_loads 0 = .ok (.aload_n 0, 1) := by decide +kernel
theorem dX4_loads_1 : decode cX4_loads 1 = .ok (.iload_n 1, 1) := by decide +kernel
theorem dX4_loads_2 : decode cX4_loads 2 = .ok (.invokevirtual 114, 3) := by decide +kernel
theorem dX4_loads_5 : decode cX4_loads 5 = .ok (.ifCond .eq 13, 3) := by decide +kernel
theorem dX4_loads_8 : decode cX4_loads 8 = .ok (.iload_n 2, 1) := by decide +kernel
theorem dX4_loads_9 : decode cX4_loads 9 = .ok (.ifCond .lt 9, 3) := by decide +kernel
theorem dX4_loads_12 : decode cX4_loads 12 = .ok (.iload_n 2, 1) := by decide +kernel
theorem dX4_loads_13 : decode cX4_loads 13 = .ok (.bipush 99, 2) := by decide +kernel
theorem dX4_loads_15 : decode cX4_loads 15 = .ok (.if_icmp .le 5, 3) := by decide +kernel
theorem dX4_loads_18 : decode cX4_loads 18 = .ok (.iconst (-1), 1) := by decide +kernel
theorem dX4_loads_19 : decode cX4_loads 19 = .ok (.ireturn, 1) := by decide +kernel
theorem dX4_loads_20 : decode cX4_loads 20 = .ok (.aload_n 0, 1) := by decide +kernel
theorem dX4_loads_21 : decode cX4_loads 21 = .ok (.getfield 12, 3) := by decide +kernel
theorem dX4_loads_24 : decode cX4_loads 24 = .ok (.getfield 117, 3) := by decide +kernel
theorem dX4_loads_27 : decode cX4_loads 27 = .ok (.iload_n 1, 1) := by decide +kernel
theorem dX4_loads_28 : decode cX4_loads 28 = .ok (.iaload, 1) := by decide +kernel
theorem dX4_loads_29 : decode cX4_loads 29 = .ok (.istore_n 3, 1) := by decide +kernel
theorem dX4_loads_30 : decode cX4_loads 30 = .ok (.iload_n 3, 1) := by decide +kernel
theorem dX4_loads_31 : decode cX4_loads 31 = .ok (.iload_n 2, 1) := by decide +kernel
theorem dX4_loads_32 : decode cX4_loads 32 = .ok (.if_icmp .ne 6, 3) := by decide +kernel
theorem dX4_loads_35 : decode cX4_loads 35 = .ok (.bipush (-2), 2) := by decide +kernel
theorem dX4_loads_37 : decode cX4_loads 37 = .ok (.ireturn, 1) := by decide +kernel
theorem dX4_loads_38 : decode cX4_loads 38 = .ok (.aload_n 0, 1) := by decide +kernel
theorem dX4_loads_39 : decode cX4_loads 39 = .ok (.invokevirtual 92, 3) := by decide +kernel
theorem dX4_loads_42 : decode cX4_loads 42 = .ok (.aload_n 0, 1) := by decide +kernel
theorem dX4_loads_43 : decode cX4_loads 43 = .ok (.getfield 12, 3) := by decide +kernel
theorem dX4_loads_46 : decode cX4_loads 46 = .ok (.getfield 117, 3) := by decide +kernel
theorem dX4_loads_49 : decode cX4_loads 49 = .ok (.iload_n 1, 1) := by decide +kernel
theorem dX4_loads_50 : decode cX4_loads 50 = .ok (.iload_n 2, 1) := by decide +kernel
theorem dX4_loads_51 : decode cX4_loads 51 = .ok (.iastore, 1) := by decide +kernel
theorem dX4_loads_52 : decode cX4_loads 52 = .ok (.iload_n 3, 1) := by decide +kernel
theorem dX4_loads_53 : decode cX4_loads 53 = .ok (.ireturn, 1) := by decide +kernel
theorem dX4_moves_0 : decode cX4_moves 0 = .ok (.aload_n 0, 1) := by decide +kernel
theorem dX4_moves_1 : decode cX4_moves 1 = .ok (.iload_n 1, 1) := by decide +kernel
theorem dX4_moves_2 : decode cX4_moves 2 = .ok (.invokevirtual 114, 3) := by decide +kernel
theorem dX4_moves_5 : decode cX4_moves 5 = .ok (.ifCond .eq 11, 3) := by decide +kernel
theorem dX4_moves_8 : decode cX4_moves 8 = .ok (.iload_n 2, 1) := by decide +kernel
theorem dX4_moves_9 : decode cX4_moves 9 = .ok (.iload_n 3, 1) := by decide +kernel
theorem dX4_moves_10 : decode cX4_moves 10 = .ok (.invokestatic 79, 3) := by decide +kernel
theorem dX4_moves_13 : decode cX4_moves 13 = .ok (.ifCond .ne 5, 3) := by decide +kernel
theorem dX4_moves_16 : decode cX4_moves 16 = .ok (.iconst (-1), 1) := by decide +kernel
theorem dX4_moves_17 : decode cX4_moves 17 = .ok (.ireturn, 1) := by decide +kernel
theorem dX4_moves_18 : decode cX4_moves 18 = .ok (.aload_n 0, 1) := by decide +kernel
theorem dX4_moves_19 : decode cX4_moves 19 = .ok (.getfield 12, 3) := by decide +kernel
theorem dX4_moves_22 : decode cX4_moves 22 = .ok (.getfield 120, 3) := by decide +kernel
theorem dX4_moves_25 : decode cX4_moves 25 = .ok (.iload_n 1, 1) := by decide +kernel
theorem dX4_moves_26 : decode cX4_moves 26 = .ok (.iaload, 1) := by decide +kernel
theorem dX4_moves_27 : decode cX4_moves 27 = .ok (.iload_n 2, 1) := by decide +kernel
theorem dX4_moves_28 : decode cX4_moves 28 = .ok (.if_icmp .ne 19, 3) := by decide +kernel
theorem dX4_moves_31 : decode cX4_moves 31 = .ok (.aload_n 0, 1) := by decide +kernel
theorem dX4_moves_32 : decode cX4_moves 32 = .ok (.getfield 12, 3) := by decide +kernel
theorem dX4_moves_35 : decode cX4_moves 35 = .ok (.getfield 123, 3) := by decide +kernel
theorem dX4_moves_38 : decode cX4_moves 38 = .ok (.iload_n 1, 1) := by decide +kernel
theorem dX4_moves_39 : decode cX4_moves 39 = .ok (.iaload, 1) := by decide +kernel
theorem dX4_moves_40 : decode cX4_moves 40 = .ok (.iload_n 3, 1) := by decide +kernel
theorem dX4_moves_41 : decode cX4_moves 41 = .ok (.if_icmp .ne 6, 3) := by decide +kernel
theorem dX4_moves_44 : decode cX4_moves 44 = .ok (.bipush (-2), 2) := by decide +kernel
theorem dX4_moves_46 : decode cX4_moves 46 = .ok (.ireturn, 1) := by decide +kernel
theorem dX4_moves_47 : decode cX4_moves 47 = .ok (.aload_n 0, 1) := by decide +kernel
theorem dX4_moves_48 : decode cX4_moves 48 = .ok (.invokevirtual 92, 3) := by decide +kernel
theorem dX4_moves_51 : decode cX4_moves 51 = .ok (.aload_n 0, 1) := by decide +kernel
theorem dX4_moves_52 : decode cX4_moves 52 = .ok (.getfield 12, 3) := by decide +kernel
theorem dX4_moves_55 : decode cX4_moves 55 = .ok (.getfield 120, 3) := by decide +kernel
theorem dX4_moves_58 : decode cX4_moves 58 = .ok (.iload_n 1, 1) := by decide +kernel
theorem dX4_moves_59 : decode cX4_moves 59 = .ok (.iload_n 2, 1) := by decide +kernel
theorem dX4_moves_60 : decode cX4_moves 60 = .ok (.iastore, 1) := by decide +kernel
theorem dX4_moves_61 : decode cX4_moves 61 = .ok (.aload_n 0, 1) := by decide +kernel
theorem dX4_moves_62 : decode cX4_moves 62 = .ok (.getfield 12, 3) := by decide +kernel
theorem dX4_moves_65 : decode cX4_moves 65 = .ok (.getfield 123, 3) := by decide +kernel
theorem dX4_moves_68 : decode cX4_moves 68 = .ok (.iload_n 1, 1) := by decide +kernel
theorem dX4_moves_69 : decode cX4_moves 69 = .ok (.iload_n 3, 1) := by decide +kernel
theorem dX4_moves_70 : decode cX4_moves 70 = .ok (.iastore, 1) := by decide +kernel
theorem dX4_moves_71 : decode cX4_moves 71 = .ok (.iconst 1, 1) := by decide +kernel
theorem dX4_moves_72 : decode cX4_moves 72 = .ok (.ireturn, 1) := by decide +kernel
theorem dX4_winds_0 : decode cX4_winds 0 = .ok (.iload_n 1, 1) := by decide +kernel
theorem dX4_winds_1 : decode cX4_winds 1 = .ok (.bipush (-99), 2) := by decide +kernel
theorem dX4_winds_3 : decode cX4_winds 3 = .ok (.if_icmp .lt 21, 3) := by decide +kernel
theorem dX4_winds_6 : decode cX4_winds 6 = .ok (.iload_n 1, 1) := by decide +kernel
theorem dX4_winds_7 : decode cX4_winds 7 = .ok (.bipush 99, 2) := by decide +kernel
theorem dX4_winds_9 : decode cX4_winds 9 = .ok (.if_icmp .gt 15, 3) := by decide +kernel
theorem dX4_winds_12 : decode cX4_winds 12 = .ok (.iload_n 2, 1) := by decide +kernel
theorem dX4_winds_13 : decode cX4_winds 13 = .ok (.bipush (-99), 2) := by decide +kernel
theorem dX4_winds_15 : decode cX4_winds 15 = .ok (.if_icmp .lt 9, 3) := by decide +kernel
theorem dX4_winds_18 : decode cX4_winds 18 = .ok (.iload_n 2, 1) := by decide +kernel
theorem dX4_winds_19 : decode cX4_winds 19 = .ok (.bipush 99, 2) := by decide +kernel
theorem dX4_winds_21 : decode cX4_winds 21 = .ok (.if_icmp .le 5, 3) := by decide +kernel
theorem dX4_winds_24 : decode cX4_winds 24 = .ok (.iconst (-1), 1) := by decide +kernel
theorem dX4_winds_25 : decode cX4_winds 25 = .ok (.ireturn, 1) := by decide +kernel
theorem dX4_winds_26 : decode cX4_winds 26 = .ok (.aload_n 0, 1) := by decide +kernel
theorem dX4_winds_27 : decode cX4_winds 27 = .ok (.getfield 12, 3) := by decide +kernel
theorem dX4_winds_30 : decode cX4_winds 30 = .ok (.getfield 126, 3) := by decide +kernel
theorem dX4_winds_33 : decode cX4_winds 33 = .ok (.iload_n 1, 1) := by decide +kernel
theorem dX4_winds_34 : decode cX4_winds 34 = .ok (.if_icmp .ne 17, 3) := by decide +kernel
theorem dX4_winds_37 : decode cX4_winds 37 = .ok (.aload_n 0, 1) := by decide +kernel
theorem dX4_winds_38 : decode cX4_winds 38 = .ok (.getfield 12, 3) := by decide +kernel
theorem dX4_winds_41 : decode cX4_winds 41 = .ok (.getfield 129, 3) := by decide +kernel
theorem dX4_winds_44 : decode cX4_winds 44 = .ok (.iload_n 2, 1) := by decide +kernel
theorem dX4_winds_45 : decode cX4_winds 45 = .ok (.if_icmp .ne 6, 3) := by decide +kernel
theorem dX4_winds_48 : decode cX4_winds 48 = .ok (.bipush (-2), 2) := by decide +kernel
theorem dX4_winds_50 : decode cX4_winds 50 = .ok (.ireturn, 1) := by decide +kernel
theorem dX4_winds_51 : decode cX4_winds 51 = .ok (.aload_n 0, 1) := by decide +kernel
theorem dX4_winds_52 : decode cX4_winds 52 = .ok (.invokevirtual 92, 3) := by decide +kernel
theorem dX4_winds_55 : decode cX4_winds 55 = .ok (.aload_n 0, 1) := by decide +kernel
theorem dX4_winds_56 : decode cX4_winds 56 = .ok (.getfield 12, 3) := by decide +kernel
theorem dX4_winds_59 : decode cX4_winds 59 = .ok (.iload_n 1, 1) := by decide +kernel
theorem dX4_winds_60 : decode cX4_winds 60 = .ok (.putfield 126, 3) := by decide +kernel
theorem dX4_winds_63 : decode cX4_winds 63 = .ok (.aload_n 0, 1) := by decide +kernel
theorem dX4_winds_64 : decode cX4_winds 64 = .ok (.getfield 12, 3) := by decide +kernel
theorem dX4_winds_67 : decode cX4_winds 67 = .ok (.iload_n 2, 1) := by decide +kernel
theorem dX4_winds_68 : decode cX4_winds 68 = .ok (.putfield 129, 3) := by decide +kernel
theorem dX4_winds_71 : decode cX4_winds 71 = .ok (.iconst 1, 1) := by decide +kernel
theorem dX4_winds_72 : decode cX4_winds 72 = .ok (.ireturn, 1) := by decide +kernel
theorem dX4_undo_0 : decode cX4_undo 0 = .ok (.aload_n 0, 1) := by decide +kernel
theorem dX4_undo_1 : decode cX4_undo 1 = .ok (.getfield 73, 3) := by decide +kernel
theorem dX4_undo_4 : decode cX4_undo 4 = .ok (.iconst 1, 1) := by decide +kernel
theorem dX4_undo_5 : decode cX4_undo 5 = .ok (.if_icmp .lt 12, 3) := by decide +kernel
theorem dX4_undo_8 : decode cX4_undo 8 = .ok (.aload_n 0, 1) := by decide +kernel
theorem dX4_undo_9 : decode cX4_undo 9 = .ok (.getfield 73, 3) := by decide +kernel
theorem dX4_undo_12 : decode cX4_undo 12 = .ok (.bipush 6, 2) := by decide +kernel
theorem dX4_undo_14 : decode cX4_undo 14 = .ok (.if_icmp .le 6, 3) := by decide +kernel
theorem dX4_undo_17 : decode cX4_undo 17 = .ok (.bipush (-2), 2) := by decide +kernel
theorem dX4_undo_19 : decode cX4_undo 19 = .ok (.ireturn, 1) := by decide +kernel
theorem dX4_undo_20 : decode cX4_undo 20 = .ok (.aload_n 0, 1) := by decide +kernel
theorem dX4_undo_21 : decode cX4_undo 21 = .ok (.dup, 1) := by decide +kernel
theorem dX4_undo_22 : decode cX4_undo 22 = .ok (.getfield 73, 3) := by decide +kernel
theorem dX4_undo_25 : decode cX4_undo 25 = .ok (.iconst 1, 1) := by decide +kernel
theorem dX4_undo_26 : decode cX4_undo 26 = .ok (.isub, 1) := by decide +kernel
theorem dX4_undo_27 : decode cX4_undo 27 = .ok (.putfield 73, 3) := by decide +kernel
theorem dX4_undo_30 : decode cX4_undo 30 = .ok (.aload_n 0, 1) := by decide +kernel
theorem dX4_undo_31 : decode cX4_undo 31 = .ok (.getfield 26, 3) := by decide +kernel
theorem dX4_undo_34 : decode cX4_undo 34 = .ok (.aload_n 0, 1) := by decide +kernel
theorem dX4_undo_35 : decode cX4_undo 35 = .ok (.getfield 73, 3) := by decide +kernel
theorem dX4_undo_38 : decode cX4_undo 38 = .ok (.aaload, 1) := by decide +kernel
theorem dX4_undo_39 : decode cX4_undo 39 = .ok (.aload_n 0, 1) := by decide +kernel
theorem dX4_undo_40 : decode cX4_undo 40 = .ok (.getfield 12, 3) := by decide +kernel
theorem dX4_undo_43 : decode cX4_undo 43 = .ok (.invokestatic 69, 3) := by decide +kernel
theorem dX4_undo_46 : decode cX4_undo 46 = .ok (.aload_n 0, 1) := by decide +kernel
theorem dX4_undo_47 : decode cX4_undo 47 = .ok (.getfield 73, 3) := by decide +kernel
theorem dX4_undo_50 : decode cX4_undo 50 = .ok (.ireturn, 1) := by decide +kernel
theorem dX4_pile_0 : decode cX4_pile 0 = .ok (.aload_n 0, 1) := by decide +kernel
theorem dX4_pile_1 : decode cX4_pile 1 = .ok (.iload_n 1, 1) := by decide +kernel
theorem dX4_pile_2 : decode cX4_pile 2 = .ok (.invokevirtual 99, 3) := by decide +kernel
theorem dX4_pile_5 : decode cX4_pile 5 = .ok (.ifCond .eq 12, 3) := by decide +kernel
theorem dX4_pile_8 : decode cX4_pile 8 = .ok (.iload_n 2, 1) := by decide +kernel
theorem dX4_pile_9 : decode cX4_pile 9 = .ok (.ifCond .lt 8, 3) := by decide +kernel
theorem dX4_pile_12 : decode cX4_pile 12 = .ok (.iload_n 2, 1) := by decide +kernel
theorem dX4_pile_13 : decode cX4_pile 13 = .ok (.iconst 5, 1) := by decide +kernel
theorem dX4_pile_14 : decode cX4_pile 14 = .ok (.if_icmp .le 7, 3) := by decide +kernel
theorem dX4_pile_17 : decode cX4_pile 17 = .ok (.ldc2_w 132, 3) := by decide +kernel
theorem dX4_pile_20 : decode cX4_pile 20 = .ok (.lreturn, 1) := by decide +kernel
theorem dX4_pile_21 : decode cX4_pile 21 = .ok (.iload_n 2, 1) := by decide +kernel
theorem dX4_pile_22 : decode cX4_pile 22 = .ok (.tableswitch 95 0 4 #[34, 45, 56, 67, 78], 34) := by decide +kernel
theorem dX4_pile_56 : decode cX4_pile 56 = .ok (.aload_n 0, 1) := by decide +kernel
theorem dX4_pile_57 : decode cX4_pile 57 = .ok (.getfield 12, 3) := by decide +kernel
theorem dX4_pile_60 : decode cX4_pile 60 = .ok (.getfield 134, 3) := by decide +kernel
theorem dX4_pile_63 : decode cX4_pile 63 = .ok (.iload_n 1, 1) := by decide +kernel
theorem dX4_pile_64 : decode cX4_pile 64 = .ok (.iaload, 1) := by decide +kernel
theorem dX4_pile_65 : decode cX4_pile 65 = .ok (.i2l, 1) := by decide +kernel
theorem dX4_pile_66 : decode cX4_pile 66 = .ok (.lreturn, 1) := by decide +kernel
theorem dX4_pile_67 : decode cX4_pile 67 = .ok (.aload_n 0, 1) := by decide +kernel
theorem dX4_pile_68 : decode cX4_pile 68 = .ok (.getfield 12, 3) := by decide +kernel
theorem dX4_pile_71 : decode cX4_pile 71 = .ok (.getfield 137, 3) := by decide +kernel
theorem dX4_pile_74 : decode cX4_pile 74 = .ok (.iload_n 1, 1) := by decide +kernel
theorem dX4_pile_75 : decode cX4_pile 75 = .ok (.iaload, 1) := by decide +kernel
theorem dX4_pile_76 : decode cX4_pile 76 = .ok (.i2l, 1) := by decide +kernel
theorem dX4_pile_77 : decode cX4_pile 77 = .ok (.lreturn, 1) := by decide +kernel
theorem dX4_pile_78 : decode cX4_pile 78 = .ok (.aload_n 0, 1) := by decide +kernel
theorem dX4_pile_79 : decode cX4_pile 79 = .ok (.getfield 12, 3) := by decide +kernel
theorem dX4_pile_82 : decode cX4_pile 82 = .ok (.getfield 140, 3) := by decide +kernel
theorem dX4_pile_85 : decode cX4_pile 85 = .ok (.iload_n 1, 1) := by decide +kernel
theorem dX4_pile_86 : decode cX4_pile 86 = .ok (.iaload, 1) := by decide +kernel
theorem dX4_pile_87 : decode cX4_pile 87 = .ok (.i2l, 1) := by decide +kernel
theorem dX4_pile_88 : decode cX4_pile 88 = .ok (.lreturn, 1) := by decide +kernel
theorem dX4_pile_89 : decode cX4_pile 89 = .ok (.aload_n 0, 1) := by decide +kernel
theorem dX4_pile_90 : decode cX4_pile 90 = .ok (.getfield 12, 3) := by decide +kernel
theorem dX4_pile_93 : decode cX4_pile 93 = .ok (.getfield 143, 3) := by decide +kernel
theorem dX4_pile_96 : decode cX4_pile 96 = .ok (.iload_n 1, 1) := by decide +kernel
theorem dX4_pile_97 : decode cX4_pile 97 = .ok (.iaload, 1) := by decide +kernel
theorem dX4_pile_98 : decode cX4_pile 98 = .ok (.i2l, 1) := by decide +kernel
theorem dX4_pile_99 : decode cX4_pile 99 = .ok (.lreturn, 1) := by decide +kernel
theorem dX4_pile_100 : decode cX4_pile 100 = .ok (.aload_n 0, 1) := by decide +kernel
theorem dX4_pile_101 : decode cX4_pile 101 = .ok (.getfield 12, 3) := by decide +kernel
theorem dX4_pile_104 : decode cX4_pile 104 = .ok (.iload_n 1, 1) := by decide +kernel
theorem dX4_pile_105 : decode cX4_pile 105 = .ok (.invokevirtual 102, 3) := by decide +kernel
theorem dX4_pile_108 : decode cX4_pile 108 = .ok (.ifCond .eq 7, 3) := by decide +kernel
theorem dX4_pile_111 : decode cX4_pile 111 = .ok (.lconst 1, 1) := by decide +kernel
theorem dX4_pile_112 : decode cX4_pile 112 = .ok (.goto 4, 3) := by decide +kernel
theorem dX4_pile_115 : decode cX4_pile 115 = .ok (.lconst 0, 1) := by decide +kernel
theorem dX4_pile_116 : decode cX4_pile 116 = .ok (.lreturn, 1) := by decide +kernel
theorem dX4_pile_117 : decode cX4_pile 117 = .ok (.aload_n 0, 1) := by decide +kernel
theorem dX4_pile_118 : decode cX4_pile 118 = .ok (.invokevirtual 146, 3) := by decide +kernel
theorem dX4_pile_121 : decode cX4_pile 121 = .ok (.aload_n 0, 1) := by decide +kernel
theorem dX4_pile_122 : decode cX4_pile 122 = .ok (.getfield 54, 3) := by decide +kernel
theorem dX4_pile_125 : decode cX4_pile 125 = .ok (.getfield 149, 3) := by decide +kernel
theorem dX4_pile_128 : decode cX4_pile 128 = .ok (.ifCond .eq 23, 3) := by decide +kernel
theorem dX4_pile_131 : decode cX4_pile 131 = .ok (.aload_n 0, 1) := by decide +kernel
theorem dX4_pile_132 : decode cX4_pile 132 = .ok (.getfield 54, 3) := by decide +kernel
theorem dX4_pile_135 : decode cX4_pile 135 = .ok (.iload_n 1, 1) := by decide +kernel
theorem dX4_pile_136 : decode cX4_pile 136 = .ok (.invokevirtual 153, 3) := by decide +kernel
theorem dX4_pile_139 : decode cX4_pile 139 = .ok (.ifCond .eq 7, 3) := by decide +kernel
theorem dX4_pile_142 : decode cX4_pile 142 = .ok (.iconst 1, 1) := by decide +kernel
theorem dX4_pile_143 : decode cX4_pile 143 = .ok (.goto 4, 3) := by decide +kernel
theorem dX4_pile_146 : decode cX4_pile 146 = .ok (.iconst 0, 1) := by decide +kernel
theorem dX4_pile_147 : decode cX4_pile 147 = .ok (.i2l, 1) := by decide +kernel
theorem dX4_pile_148 : decode cX4_pile 148 = .ok (.goto 6, 3) := by decide +kernel
theorem dX4_pile_151 : decode cX4_pile 151 = .ok (.ldc2_w 156, 3) := by decide +kernel
theorem dX4_pile_154 : decode cX4_pile 154 = .ok (.lreturn, 1) := by decide +kernel
theorem dX4_column_0 : decode cX4_column 0 = .ok (.aload_n 0, 1) := by decide +kernel
theorem dX4_column_1 : decode cX4_column 1 = .ok (.iload_n 1, 1) := by decide +kernel
theorem dX4_column_2 : decode cX4_column 2 = .ok (.invokevirtual 114, 3) := by decide +kernel
theorem dX4_column_5 : decode cX4_column 5 = .ok (.ifCond .eq 12, 3) := by decide +kernel
theorem dX4_column_8 : decode cX4_column 8 = .ok (.iload_n 2, 1) := by decide +kernel
theorem dX4_column_9 : decode cX4_column 9 = .ok (.ifCond .lt 8, 3) := by decide +kernel
theorem dX4_column_12 : decode cX4_column 12 = .ok (.iload_n 2, 1) := by decide +kernel
theorem dX4_column_13 : decode cX4_column 13 = .ok (.iconst 2, 1) := by decide +kernel
theorem dX4_column_14 : decode cX4_column 14 = .ok (.if_icmp .le 7, 3) := by decide +kernel
theorem dX4_column_17 : decode cX4_column 17 = .ok (.ldc2_w 132, 3) := by decide +kernel
theorem dX4_column_20 : decode cX4_column 20 = .ok (.lreturn, 1) := by decide +kernel
theorem dX4_column_21 : decode cX4_column 21 = .ok (.iload_n 2, 1) := by decide +kernel
theorem dX4_column_22 : decode cX4_column 22 = .ok (.lookupswitch 48 #[(0, 26), (1, 37)], 26) := by decide +kernel
theorem dX4_column_48 : decode cX4_column 48 = .ok (.aload_n 0, 1) := by decide +kernel
theorem dX4_column_49 : decode cX4_column 49 = .ok (.getfield 12, 3) := by decide +kernel
theorem dX4_column_52 : decode cX4_column 52 = .ok (.getfield 120, 3) := by decide +kernel
theorem dX4_column_55 : decode cX4_column 55 = .ok (.iload_n 1, 1) := by decide +kernel
theorem dX4_column_56 : decode cX4_column 56 = .ok (.iaload, 1) := by decide +kernel
theorem dX4_column_57 : decode cX4_column 57 = .ok (.i2l, 1) := by decide +kernel
theorem dX4_column_58 : decode cX4_column 58 = .ok (.lreturn, 1) := by decide +kernel
theorem dX4_column_59 : decode cX4_column 59 = .ok (.aload_n 0, 1) := by decide +kernel
theorem dX4_column_60 : decode cX4_column 60 = .ok (.getfield 12, 3) := by decide +kernel
theorem dX4_column_63 : decode cX4_column 63 = .ok (.getfield 123, 3) := by decide +kernel
theorem dX4_column_66 : decode cX4_column 66 = .ok (.iload_n 1, 1) := by decide +kernel
theorem dX4_column_67 : decode cX4_column 67 = .ok (.iaload, 1) := by decide +kernel
theorem dX4_column_68 : decode cX4_column 68 = .ok (.i2l, 1) := by decide +kernel
theorem dX4_column_69 : decode cX4_column 69 = .ok (.lreturn, 1) := by decide +kernel
theorem dX4_column_70 : decode cX4_column 70 = .ok (.aload_n 0, 1) := by decide +kernel
theorem dX4_column_71 : decode cX4_column 71 = .ok (.getfield 12, 3) := by decide +kernel
theorem dX4_column_74 : decode cX4_column 74 = .ok (.getfield 117, 3) := by decide +kernel
theorem dX4_column_77 : decode cX4_column 77 = .ok (.iload_n 1, 1) := by decide +kernel
theorem dX4_column_78 : decode cX4_column 78 = .ok (.iaload, 1) := by decide +kernel
theorem dX4_column_79 : decode cX4_column 79 = .ok (.i2l, 1) := by decide +kernel
theorem dX4_column_80 : decode cX4_column 80 = .ok (.lreturn, 1) := by decide +kernel
theorem dX4_sum_0 : decode cX4_sum 0 = .ok (.iload_n 1, 1) := by decide +kernel
theorem dX4_sum_1 : decode cX4_sum 1 = .ok (.tableswitch 80 0 4 #[35, 44, 53, 62, 71], 35) := by decide +kernel
theorem dX4_sum_36 : decode cX4_sum 36 = .ok (.aload_n 0, 1) := by decide +kernel
theorem dX4_sum_37 : decode cX4_sum 37 = .ok (.getfield 12, 3) := by decide +kernel
theorem dX4_sum_40 : decode cX4_sum 40 = .ok (.invokevirtual 158, 3) := by decide +kernel
theorem dX4_sum_43 : decode cX4_sum 43 = .ok (.i2l, 1) := by decide +kernel
theorem dX4_sum_44 : decode cX4_sum 44 = .ok (.lreturn, 1) := by decide +kernel
theorem dX4_sum_45 : decode cX4_sum 45 = .ok (.aload_n 0, 1) := by decide +kernel
theorem dX4_sum_46 : decode cX4_sum 46 = .ok (.getfield 12, 3) := by decide +kernel
theorem dX4_sum_49 : decode cX4_sum 49 = .ok (.invokevirtual 162, 3) := by decide +kernel
theorem dX4_sum_52 : decode cX4_sum 52 = .ok (.i2l, 1) := by decide +kernel
theorem dX4_sum_53 : decode cX4_sum 53 = .ok (.lreturn, 1) := by decide +kernel
theorem dX4_sum_54 : decode cX4_sum 54 = .ok (.aload_n 0, 1) := by decide +kernel
theorem dX4_sum_55 : decode cX4_sum 55 = .ok (.getfield 12, 3) := by decide +kernel
theorem dX4_sum_58 : decode cX4_sum 58 = .ok (.invokevirtual 165, 3) := by decide +kernel
theorem dX4_sum_61 : decode cX4_sum 61 = .ok (.i2l, 1) := by decide +kernel
theorem dX4_sum_62 : decode cX4_sum 62 = .ok (.lreturn, 1) := by decide +kernel
theorem dX4_sum_63 : decode cX4_sum 63 = .ok (.aload_n 0, 1) := by decide +kernel
theorem dX4_sum_64 : decode cX4_sum 64 = .ok (.getfield 12, 3) := by decide +kernel
theorem dX4_sum_67 : decode cX4_sum 67 = .ok (.getfield 126, 3) := by decide +kernel
theorem dX4_sum_70 : decode cX4_sum 70 = .ok (.i2l, 1) := by decide +kernel
theorem dX4_sum_71 : decode cX4_sum 71 = .ok (.lreturn, 1) := by decide +kernel
theorem dX4_sum_72 : decode cX4_sum 72 = .ok (.aload_n 0, 1) := by decide +kernel
theorem dX4_sum_73 : decode cX4_sum 73 = .ok (.getfield 12, 3) := by decide +kernel
theorem dX4_sum_76 : decode cX4_sum 76 = .ok (.getfield 129, 3) := by decide +kernel
theorem dX4_sum_79 : decode cX4_sum 79 = .ok (.i2l, 1) := by decide +kernel
theorem dX4_sum_80 : decode cX4_sum 80 = .ok (.lreturn, 1) := by decide +kernel
theorem dX4_sum_81 : decode cX4_sum 81 = .ok (.ldc2_w 132, 3) := by decide +kernel
theorem dX4_sum_84 : decode cX4_sum 84 = .ok (.lreturn, 1) := by decide +kernel
theorem dX4_sharing_0 : decode cX4_sharing 0 = .ok (.iload_n 1, 1) := by decide +kernel
theorem dX4_sharing_1 : decode cX4_sharing 1 = .ok (.ifCond .lt 8, 3) := by decide +kernel
theorem dX4_sharing_4 : decode cX4_sharing 4 = .ok (.iload_n 1, 1) := by decide +kernel
theorem dX4_sharing_5 : decode cX4_sharing 5 = .ok (.iconst 2, 1) := by decide +kernel
theorem dX4_sharing_6 : decode cX4_sharing 6 = .ok (.if_icmp .le 5, 3) := by decide +kernel
theorem dX4_sharing_9 : decode cX4_sharing 9 = .ok (.iconst (-1), 1) := by decide +kernel
theorem dX4_sharing_10 : decode cX4_sharing 10 = .ok (.ireturn, 1) := by decide +kernel
theorem dX4_sharing_11 : decode cX4_sharing 11 = .ok (.aload_n 0, 1) := by decide +kernel
theorem dX4_sharing_12 : decode cX4_sharing 12 = .ok (.invokevirtual 146, 3) := by decide +kernel
theorem dX4_sharing_15 : decode cX4_sharing 15 = .ok (.iload_n 1, 1) := by decide +kernel
theorem dX4_sharing_16 : decode cX4_sharing 16 = .ok (.lookupswitch 52 #[(0, 28), (1, 36)], 28) := by decide +kernel
theorem dX4_sharing_44 : decode cX4_sharing 44 = .ok (.aload_n 0, 1) := by decide +kernel
theorem dX4_sharing_45 : decode cX4_sharing 45 = .ok (.getfield 54, 3) := by decide +kernel
theorem dX4_sharing_48 : decode cX4_sharing 48 = .ok (.getfield 168, 3) := by decide +kernel
theorem dX4_sharing_51 : decode cX4_sharing 51 = .ok (.ireturn, 1) := by decide +kernel
theorem dX4_sharing_52 : decode cX4_sharing 52 = .ok (.aload_n 0, 1) := by decide +kernel
theorem dX4_sharing_53 : decode cX4_sharing 53 = .ok (.getfield 54, 3) := by decide +kernel
theorem dX4_sharing_56 : decode cX4_sharing 56 = .ok (.getfield 149, 3) := by decide +kernel
theorem dX4_sharing_59 : decode cX4_sharing 59 = .ok (.ifCond .eq 7, 3) := by decide +kernel
theorem dX4_sharing_62 : decode cX4_sharing 62 = .ok (.iconst 1, 1) := by decide +kernel
theorem dX4_sharing_63 : decode cX4_sharing 63 = .ok (.goto 4, 3) := by decide +kernel
theorem dX4_sharing_66 : decode cX4_sharing 66 = .ok (.iconst 0, 1) := by decide +kernel
theorem dX4_sharing_67 : decode cX4_sharing 67 = .ok (.ireturn, 1) := by decide +kernel
theorem dX4_sharing_68 : decode cX4_sharing 68 = .ok (.aload_n 0, 1) := by decide +kernel
theorem dX4_sharing_69 : decode cX4_sharing 69 = .ok (.getfield 54, 3) := by decide +kernel
theorem dX4_sharing_72 : decode cX4_sharing 72 = .ok (.getfield 149, 3) := by decide +kernel
theorem dX4_sharing_75 : decode cX4_sharing 75 = .ok (.ifCond .eq 23, 3) := by decide +kernel
theorem dX4_sharing_78 : decode cX4_sharing 78 = .ok (.aload_n 0, 1) := by decide +kernel
theorem dX4_sharing_79 : decode cX4_sharing 79 = .ok (.getfield 54, 3) := by decide +kernel
theorem dX4_sharing_82 : decode cX4_sharing 82 = .ok (.getfield 171, 3) := by decide +kernel
theorem dX4_sharing_85 : decode cX4_sharing 85 = .ok (.aload_n 0, 1) := by decide +kernel
theorem dX4_sharing_86 : decode cX4_sharing 86 = .ok (.getfield 54, 3) := by decide +kernel
theorem dX4_sharing_89 : decode cX4_sharing 89 = .ok (.getfield 174, 3) := by decide +kernel
theorem dX4_sharing_92 : decode cX4_sharing 92 = .ok (.iconst (-1), 1) := by decide +kernel
theorem dX4_sharing_93 : decode cX4_sharing 93 = .ok (.ixor, 1) := by decide +kernel
theorem dX4_sharing_94 : decode cX4_sharing 94 = .ok (.iand, 1) := by decide +kernel
theorem dX4_sharing_95 : decode cX4_sharing 95 = .ok (.goto 5, 3) := by decide +kernel
theorem dX4_sharing_98 : decode cX4_sharing 98 = .ok (.bipush (-9), 2) := by decide +kernel
theorem dX4_sharing_100 : decode cX4_sharing 100 = .ok (.ireturn, 1) := by decide +kernel
theorem dX4_share_0 : decode cX4_share 0 = .ok (.aload_n 0, 1) := by decide +kernel
theorem dX4_share_1 : decode cX4_share 1 = .ok (.iload_n 1, 1) := by decide +kernel
theorem dX4_share_2 : decode cX4_share 2 = .ok (.invokevirtual 99, 3) := by decide +kernel
theorem dX4_share_5 : decode cX4_share 5 = .ok (.ifCond .eq 12, 3) := by decide +kernel
theorem dX4_share_8 : decode cX4_share 8 = .ok (.iload_n 2, 1) := by decide +kernel
theorem dX4_share_9 : decode cX4_share 9 = .ok (.ifCond .lt 8, 3) := by decide +kernel
theorem dX4_share_12 : decode cX4_share 12 = .ok (.iload_n 2, 1) := by decide +kernel
theorem dX4_share_13 : decode cX4_share 13 = .ok (.iconst 2, 1) := by decide +kernel
theorem dX4_share_14 : decode cX4_share 14 = .ok (.if_icmp .le 7, 3) := by decide +kernel
theorem dX4_share_17 : decode cX4_share 17 = .ok (.ldc2_w 132, 3) := by decide +kernel
theorem dX4_share_20 : decode cX4_share 20 = .ok (.lreturn, 1) := by decide +kernel
theorem dX4_share_21 : decode cX4_share 21 = .ok (.aload_n 0, 1) := by decide +kernel
theorem dX4_share_22 : decode cX4_share 22 = .ok (.invokevirtual 146, 3) := by decide +kernel
theorem dX4_share_25 : decode cX4_share 25 = .ok (.aload_n 0, 1) := by decide +kernel
theorem dX4_share_26 : decode cX4_share 26 = .ok (.getfield 54, 3) := by decide +kernel
theorem dX4_share_29 : decode cX4_share 29 = .ok (.getfield 149, 3) := by decide +kernel
theorem dX4_share_32 : decode cX4_share 32 = .ok (.ifCond .ne 7, 3) := by decide +kernel
theorem dX4_share_35 : decode cX4_share 35 = .ok (.ldc2_w 177, 3) := by decide +kernel
theorem dX4_share_38 : decode cX4_share 38 = .ok (.lreturn, 1) := by decide +kernel
theorem dX4_share_39 : decode cX4_share 39 = .ok (.iload_n 2, 1) := by decide +kernel
theorem dX4_share_40 : decode cX4_share 40 = .ok (.iconst 2, 1) := by decide +kernel
theorem dX4_share_41 : decode cX4_share 41 = .ok (.if_icmp .ne 12, 3) := by decide +kernel
theorem dX4_share_44 : decode cX4_share 44 = .ok (.aload_n 0, 1) := by decide +kernel
theorem dX4_share_45 : decode cX4_share 45 = .ok (.getfield 54, 3) := by decide +kernel
theorem dX4_share_48 : decode cX4_share 48 = .ok (.iload_n 1, 1) := by decide +kernel
theorem dX4_share_49 : decode cX4_share 49 = .ok (.invokevirtual 179, 3) := by decide +kernel
theorem dX4_share_52 : decode cX4_share 52 = .ok (.lreturn, 1) := by decide +kernel
theorem dX4_share_53 : decode cX4_share 53 = .ok (.aload_n 0, 1) := by decide +kernel
theorem dX4_share_54 : decode cX4_share 54 = .ok (.getfield 54, 3) := by decide +kernel
theorem dX4_share_57 : decode cX4_share 57 = .ok (.iload_n 1, 1) := by decide +kernel
theorem dX4_share_58 : decode cX4_share 58 = .ok (.invokevirtual 183, 3) := by decide +kernel
theorem dX4_share_61 : decode cX4_share 61 = .ok (.aload_n 0, 1) := by decide +kernel
theorem dX4_share_62 : decode cX4_share 62 = .ok (.getfield 54, 3) := by decide +kernel
theorem dX4_share_65 : decode cX4_share 65 = .ok (.invokevirtual 186, 3) := by decide +kernel
theorem dX4_share_68 : decode cX4_share 68 = .ok (.iload_n 2, 1) := by decide +kernel
theorem dX4_share_69 : decode cX4_share 69 = .ok (.invokestatic 190, 3) := by decide +kernel
theorem dX4_share_72 : decode cX4_share 72 = .ok (.lreturn, 1) := by decide +kernel
theorem dX4_press_0 : decode cX4_press 0 = .ok (.iload_n 1, 1) := by decide +kernel
theorem dX4_press_1 : decode cX4_press 1 = .ok (.iload_n 2, 1) := by decide +kernel
theorem dX4_press_2 : decode cX4_press 2 = .ok (.invokestatic 79, 3) := by decide +kernel
theorem dX4_press_5 : decode cX4_press 5 = .ok (.ifCond .eq 12, 3) := by decide +kernel
theorem dX4_press_8 : decode cX4_press 8 = .ok (.iload_n 3, 1) := by decide +kernel
theorem dX4_press_9 : decode cX4_press 9 = .ok (.ifCond .lt 8, 3) := by decide +kernel
theorem dX4_press_12 : decode cX4_press 12 = .ok (.iload_n 3, 1) := by decide +kernel
theorem dX4_press_13 : decode cX4_press 13 = .ok (.iconst 1, 1) := by decide +kernel
theorem dX4_press_14 : decode cX4_press 14 = .ok (.if_icmp .le 7, 3) := by decide +kernel
theorem dX4_press_17 : decode cX4_press 17 = .ok (.ldc2_w 132, 3) := by decide +kernel
theorem dX4_press_20 : decode cX4_press 20 = .ok (.lreturn, 1) := by decide +kernel
theorem dX4_press_21 : decode cX4_press 21 = .ok (.aload_n 0, 1) := by decide +kernel
theorem dX4_press_22 : decode cX4_press 22 = .ok (.invokevirtual 146, 3) := by decide +kernel
theorem dX4_press_25 : decode cX4_press 25 = .ok (.aload_n 0, 1) := by decide +kernel
theorem dX4_press_26 : decode cX4_press 26 = .ok (.getfield 54, 3) := by decide +kernel
theorem dX4_press_29 : decode cX4_press 29 = .ok (.getfield 149, 3) := by decide +kernel
theorem dX4_press_32 : decode cX4_press 32 = .ok (.ifCond .ne 7, 3) := by decide +kernel
theorem dX4_press_35 : decode cX4_press 35 = .ok (.ldc2_w 177, 3) := by decide +kernel
theorem dX4_press_38 : decode cX4_press 38 = .ok (.lreturn, 1) := by decide +kernel
theorem dX4_press_39 : decode cX4_press 39 = .ok (.aload_n 0, 1) := by decide +kernel
theorem dX4_press_40 : decode cX4_press 40 = .ok (.getfield 54, 3) := by decide +kernel
theorem dX4_press_43 : decode cX4_press 43 = .ok (.getfield 194, 3) := by decide +kernel
theorem dX4_press_46 : decode cX4_press 46 = .ok (.iload_n 1, 1) := by decide +kernel
theorem dX4_press_47 : decode cX4_press 47 = .ok (.iload_n 2, 1) := by decide +kernel
theorem dX4_press_48 : decode cX4_press 48 = .ok (.invokevirtual 198, 3) := by decide +kernel
theorem dX4_press_51 : decode cX4_press 51 = .ok (.aload_n 0, 1) := by decide +kernel
theorem dX4_press_52 : decode cX4_press 52 = .ok (.getfield 54, 3) := by decide +kernel
theorem dX4_press_55 : decode cX4_press 55 = .ok (.invokevirtual 186, 3) := by decide +kernel
theorem dX4_press_58 : decode cX4_press 58 = .ok (.iload_n 3, 1) := by decide +kernel
theorem dX4_press_59 : decode cX4_press 59 = .ok (.invokestatic 190, 3) := by decide +kernel
theorem dX4_press_62 : decode cX4_press 62 = .ok (.lreturn, 1) := by decide +kernel
theorem dX4_most_0 : decode cX4_most 0 = .ok (.iload_n 1, 1) := by decide +kernel
theorem dX4_most_1 : decode cX4_most 1 = .ok (.ifCond .lt 8, 3) := by decide +kernel
theorem dX4_most_4 : decode cX4_most 4 = .ok (.iload_n 1, 1) := by decide +kernel
theorem dX4_most_5 : decode cX4_most 5 = .ok (.iconst 2, 1) := by decide +kernel
theorem dX4_most_6 : decode cX4_most 6 = .ok (.if_icmp .le 7, 3) := by decide +kernel
theorem dX4_most_9 : decode cX4_most 9 = .ok (.ldc2_w 204, 3) := by decide +kernel
theorem dX4_most_12 : decode cX4_most 12 = .ok (.lreturn, 1) := by decide +kernel
theorem dX4_most_13 : decode cX4_most 13 = .ok (.aload_n 0, 1) := by decide +kernel
theorem dX4_most_14 : decode cX4_most 14 = .ok (.invokevirtual 146, 3) := by decide +kernel
theorem dX4_most_17 : decode cX4_most 17 = .ok (.aload_n 0, 1) := by decide +kernel
theorem dX4_most_18 : decode cX4_most 18 = .ok (.iload_n 1, 1) := by decide +kernel
theorem dX4_most_19 : decode cX4_most 19 = .ok (.invokevirtual 206, 3) := by decide +kernel
theorem dX4_most_22 : decode cX4_most 22 = .ok (.lreturn, 1) := by decide +kernel
theorem dX4_factor_0 : decode cX4_factor 0 = .ok (.iload_n 1, 1) := by decide +kernel
theorem dX4_factor_1 : decode cX4_factor 1 = .ok (.ifCond .lt 8, 3) := by decide +kernel
theorem dX4_factor_4 : decode cX4_factor 4 = .ok (.iload_n 1, 1) := by decide +kernel
theorem dX4_factor_5 : decode cX4_factor 5 = .ok (.iconst 1, 1) := by decide +kernel
theorem dX4_factor_6 : decode cX4_factor 6 = .ok (.if_icmp .le 7, 3) := by decide +kernel
theorem dX4_factor_9 : decode cX4_factor 9 = .ok (.ldc2_w 204, 3) := by decide +kernel
theorem dX4_factor_12 : decode cX4_factor 12 = .ok (.lreturn, 1) := by decide +kernel
theorem dX4_factor_13 : decode cX4_factor 13 = .ok (.aload_n 0, 1) := by decide +kernel
theorem dX4_factor_14 : decode cX4_factor 14 = .ok (.invokevirtual 146, 3) := by decide +kernel
theorem dX4_factor_17 : decode cX4_factor 17 = .ok (.aload_n 0, 1) := by decide +kernel
theorem dX4_factor_18 : decode cX4_factor 18 = .ok (.getfield 54, 3) := by decide +kernel
theorem dX4_factor_21 : decode cX4_factor 21 = .ok (.getfield 149, 3) := by decide +kernel
theorem dX4_factor_24 : decode cX4_factor 24 = .ok (.ifCond .eq 15, 3) := by decide +kernel
theorem dX4_factor_27 : decode cX4_factor 27 = .ok (.aload_n 0, 1) := by decide +kernel
theorem dX4_factor_28 : decode cX4_factor 28 = .ok (.getfield 54, 3) := by decide +kernel
theorem dX4_factor_31 : decode cX4_factor 31 = .ok (.invokevirtual 209, 3) := by decide +kernel
theorem dX4_factor_34 : decode cX4_factor 34 = .ok (.lconst 0, 1) := by decide +kernel
theorem dX4_factor_35 : decode cX4_factor 35 = .ok (.lcmp, 1) := by decide +kernel
theorem dX4_factor_36 : decode cX4_factor 36 = .ok (.ifCond .ne 7, 3) := by decide +kernel
theorem dX4_factor_39 : decode cX4_factor 39 = .ok (.ldc2_w 156, 3) := by decide +kernel
theorem dX4_factor_42 : decode cX4_factor 42 = .ok (.lreturn, 1) := by decide +kernel
theorem dX4_factor_43 : decode cX4_factor 43 = .ok (.aload_n 0, 1) := by decide +kernel
theorem dX4_factor_44 : decode cX4_factor 44 = .ok (.getfield 54, 3) := by decide +kernel
theorem dX4_factor_47 : decode cX4_factor 47 = .ok (.invokevirtual 212, 3) := by decide +kernel
theorem dX4_factor_50 : decode cX4_factor 50 = .ok (.aload_n 0, 1) := by decide +kernel
theorem dX4_factor_51 : decode cX4_factor 51 = .ok (.getfield 54, 3) := by decide +kernel
theorem dX4_factor_54 : decode cX4_factor 54 = .ok (.invokevirtual 209, 3) := by decide +kernel
theorem dX4_factor_57 : decode cX4_factor 57 = .ok (.iload_n 1, 1) := by decide +kernel
theorem dX4_factor_58 : decode cX4_factor 58 = .ok (.invokestatic 190, 3) := by decide +kernel
theorem dX4_factor_61 : decode cX4_factor 61 = .ok (.lreturn, 1) := by decide +kernel
theorem dX4_kern_0 : decode cX4_kern 0 = .ok (.iload_n 1, 1) := by decide +kernel
theorem dX4_kern_1 : decode cX4_kern 1 = .ok (.iload_n 2, 1) := by decide +kernel
theorem dX4_kern_2 : decode cX4_kern 2 = .ok (.invokestatic 79, 3) := by decide +kernel
theorem dX4_kern_5 : decode cX4_kern 5 = .ok (.ifCond .ne 5, 3) := by decide +kernel
theorem dX4_kern_8 : decode cX4_kern 8 = .ok (.iconst (-1), 1) := by decide +kernel
theorem dX4_kern_9 : decode cX4_kern 9 = .ok (.ireturn, 1) := by decide +kernel
theorem dX4_kern_10 : decode cX4_kern 10 = .ok (.aload_n 0, 1) := by decide +kernel
theorem dX4_kern_11 : decode cX4_kern 11 = .ok (.invokevirtual 215, 3) := by decide +kernel
theorem dX4_kern_14 : decode cX4_kern 14 = .ok (.ifCond .ne 6, 3) := by decide +kernel
theorem dX4_kern_17 : decode cX4_kern 17 = .ok (.bipush (-9), 2) := by decide +kernel
theorem dX4_kern_19 : decode cX4_kern 19 = .ok (.ireturn, 1) := by decide +kernel
theorem dX4_kern_20 : decode cX4_kern 20 = .ok (.aload_n 0, 1) := by decide +kernel
theorem dX4_kern_21 : decode cX4_kern 21 = .ok (.getfield 54, 3) := by decide +kernel
theorem dX4_kern_24 : decode cX4_kern 24 = .ok (.iload_n 1, 1) := by decide +kernel
theorem dX4_kern_25 : decode cX4_kern 25 = .ok (.iload_n 2, 1) := by decide +kernel
theorem dX4_kern_26 : decode cX4_kern 26 = .ok (.invokevirtual 219, 3) := by decide +kernel
theorem dX4_kern_29 : decode cX4_kern 29 = .ok (.ifCond .eq 7, 3) := by decide +kernel
theorem dX4_kern_32 : decode cX4_kern 32 = .ok (.iconst 1, 1) := by decide +kernel
theorem dX4_kern_33 : decode cX4_kern 33 = .ok (.goto 4, 3) := by decide +kernel
theorem dX4_kern_36 : decode cX4_kern 36 = .ok (.iconst 0, 1) := by decide +kernel
theorem dX4_kern_37 : decode cX4_kern 37 = .ok (.ireturn, 1) := by decide +kernel
theorem dX4_kerns_0 : decode cX4_kerns 0 = .ok (.iload_n 1, 1) := by decide +kernel
theorem dX4_kerns_1 : decode cX4_kerns 1 = .ok (.ifCond .lt 8, 3) := by decide +kernel
theorem dX4_kerns_4 : decode cX4_kerns 4 = .ok (.iload_n 1, 1) := by decide +kernel
theorem dX4_kerns_5 : decode cX4_kerns 5 = .ok (.iconst 1, 1) := by decide +kernel
theorem dX4_kerns_6 : decode cX4_kerns 6 = .ok (.if_icmp .le 5, 3) := by decide +kernel
theorem dX4_kerns_9 : decode cX4_kerns 9 = .ok (.iconst (-1), 1) := by decide +kernel
theorem dX4_kerns_10 : decode cX4_kerns 10 = .ok (.ireturn, 1) := by decide +kernel
theorem dX4_kerns_11 : decode cX4_kerns 11 = .ok (.aload_n 0, 1) := by decide +kernel
theorem dX4_kerns_12 : decode cX4_kerns 12 = .ok (.invokevirtual 215, 3) := by decide +kernel
theorem dX4_kerns_15 : decode cX4_kerns 15 = .ok (.ifCond .ne 6, 3) := by decide +kernel
theorem dX4_kerns_18 : decode cX4_kerns 18 = .ok (.bipush (-9), 2) := by decide +kernel
theorem dX4_kerns_20 : decode cX4_kerns 20 = .ok (.ireturn, 1) := by decide +kernel
theorem dX4_kerns_21 : decode cX4_kerns 21 = .ok (.iconst 0, 1) := by decide +kernel
theorem dX4_kerns_22 : decode cX4_kerns 22 = .ok (.istore_n 2, 1) := by decide +kernel
theorem dX4_kerns_23 : decode cX4_kerns 23 = .ok (.bipush (-9), 2) := by decide +kernel
theorem dX4_kerns_25 : decode cX4_kerns 25 = .ok (.istore_n 3, 1) := by decide +kernel
theorem dX4_kerns_26 : decode cX4_kerns 26 = .ok (.iconst 0, 1) := by decide +kernel
theorem dX4_kerns_27 : decode cX4_kerns 27 = .ok (.istore 4, 2) := by decide +kernel
theorem dX4_kerns_29 : decode cX4_kerns 29 = .ok (.iload 4, 2) := by decide +kernel
theorem dX4_kerns_31 : decode cX4_kerns 31 = .ok (.sipush 361, 3) := by decide +kernel
theorem dX4_kerns_34 : decode cX4_kerns 34 = .ok (.if_icmp .ge 41, 3) := by decide +kernel
theorem dX4_kerns_37 : decode cX4_kerns 37 = .ok (.aload_n 0, 1) := by decide +kernel
theorem dX4_kerns_38 : decode cX4_kerns 38 = .ok (.getfield 54, 3) := by decide +kernel
theorem dX4_kerns_41 : decode cX4_kerns 41 = .ok (.iload 4, 2) := by decide +kernel
theorem dX4_kerns_43 : decode cX4_kerns 43 = .ok (.invokestatic 222, 3) := by decide +kernel
theorem dX4_kerns_46 : decode cX4_kerns 46 = .ok (.iload 4, 2) := by decide +kernel
theorem dX4_kerns_48 : decode cX4_kerns 48 = .ok (.invokestatic 225, 3) := by decide +kernel
theorem dX4_kerns_51 : decode cX4_kerns 51 = .ok (.invokevirtual 219, 3) := by decide +kernel
theorem dX4_kerns_54 : decode cX4_kerns 54 = .ok (.ifCond .eq 15, 3) := by decide +kernel
theorem dX4_kerns_57 : decode cX4_kerns 57 = .ok (.iinc 2 1, 3) := by decide +kernel
theorem dX4_kerns_60 : decode cX4_kerns 60 = .ok (.iload_n 3, 1) := by decide +kernel
theorem dX4_kerns_61 : decode cX4_kerns 61 = .ok (.bipush (-9), 2) := by decide +kernel
theorem dX4_kerns_63 : decode cX4_kerns 63 = .ok (.if_icmp .ne 6, 3) := by decide +kernel
theorem dX4_kerns_66 : decode cX4_kerns 66 = .ok (.iload 4, 2) := by decide +kernel
theorem dX4_kerns_68 : decode cX4_kerns 68 = .ok (.istore_n 3, 1) := by decide +kernel
theorem dX4_kerns_69 : decode cX4_kerns 69 = .ok (.iinc 4 1, 3) := by decide +kernel
theorem dX4_kerns_72 : decode cX4_kerns 72 = .ok (.goto (-43), 3) := by decide +kernel
theorem dX4_kerns_75 : decode cX4_kerns 75 = .ok (.iload_n 1, 1) := by decide +kernel
theorem dX4_kerns_76 : decode cX4_kerns 76 = .ok (.ifCond .ne 7, 3) := by decide +kernel
theorem dX4_kerns_79 : decode cX4_kerns 79 = .ok (.iload_n 2, 1) := by decide +kernel
theorem dX4_kerns_80 : decode cX4_kerns 80 = .ok (.goto 4, 3) := by decide +kernel
theorem dX4_kerns_83 : decode cX4_kerns 83 = .ok (.iload_n 3, 1) := by decide +kernel
theorem dX4_kerns_84 : decode cX4_kerns 84 = .ok (.ireturn, 1) := by decide +kernel
theorem dX4_without_0 : decode cX4_without 0 = .ok (.aload_n 0, 1) := by decide +kernel
theorem dX4_without_1 : decode cX4_without 1 = .ok (.iload_n 1, 1) := by decide +kernel
theorem dX4_without_2 : decode cX4_without 2 = .ok (.invokevirtual 99, 3) := by decide +kernel
theorem dX4_without_5 : decode cX4_without 5 = .ok (.ifCond .eq 12, 3) := by decide +kernel
theorem dX4_without_8 : decode cX4_without 8 = .ok (.iload_n 2, 1) := by decide +kernel
theorem dX4_without_9 : decode cX4_without 9 = .ok (.ifCond .lt 8, 3) := by decide +kernel
theorem dX4_without_12 : decode cX4_without 12 = .ok (.iload_n 2, 1) := by decide +kernel
theorem dX4_without_13 : decode cX4_without 13 = .ok (.iconst 2, 1) := by decide +kernel
theorem dX4_without_14 : decode cX4_without 14 = .ok (.if_icmp .le 7, 3) := by decide +kernel
theorem dX4_without_17 : decode cX4_without 17 = .ok (.ldc2_w 204, 3) := by decide +kernel
theorem dX4_without_20 : decode cX4_without 20 = .ok (.lreturn, 1) := by decide +kernel
theorem dX4_without_21 : decode cX4_without 21 = .ok (.aload_n 0, 1) := by decide +kernel
theorem dX4_without_22 : decode cX4_without 22 = .ok (.getfield 12, 3) := by decide +kernel
theorem dX4_without_25 : decode cX4_without 25 = .ok (.iload_n 1, 1) := by decide +kernel
theorem dX4_without_26 : decode cX4_without 26 = .ok (.invokevirtual 102, 3) := by decide +kernel
theorem dX4_without_29 : decode cX4_without 29 = .ok (.ifCond .ne 7, 3) := by decide +kernel
theorem dX4_without_32 : decode cX4_without 32 = .ok (.ldc2_w 228, 3) := by decide +kernel
theorem dX4_without_35 : decode cX4_without 35 = .ok (.lreturn, 1) := by decide +kernel
theorem dX4_without_36 : decode cX4_without 36 = .ok (.aload_n 0, 1) := by decide +kernel
theorem dX4_without_37 : decode cX4_without 37 = .ok (.invokevirtual 230, 3) := by decide +kernel
theorem dX4_without_40 : decode cX4_without 40 = .ok (.aload_n 0, 1) := by decide +kernel
theorem dX4_without_41 : decode cX4_without 41 = .ok (.getfield 54, 3) := by decide +kernel
theorem dX4_without_44 : decode cX4_without 44 = .ok (.aload_n 0, 1) := by decide +kernel
theorem dX4_without_45 : decode cX4_without 45 = .ok (.getfield 12, 3) := by decide +kernel
theorem dX4_without_48 : decode cX4_without 48 = .ok (.getfield 105, 3) := by decide +kernel
theorem dX4_without_51 : decode cX4_without 51 = .ok (.iconst 1, 1) := by decide +kernel
theorem dX4_without_52 : decode cX4_without 52 = .ok (.iload_n 1, 1) := by decide +kernel
theorem dX4_without_53 : decode cX4_without 53 = .ok (.ishl, 1) := by decide +kernel
theorem dX4_without_54 : decode cX4_without 54 = .ok (.iconst (-1), 1) := by decide +kernel
theorem dX4_without_55 : decode cX4_without 55 = .ok (.ixor, 1) := by decide +kernel
theorem dX4_without_56 : decode cX4_without 56 = .ok (.iand, 1) := by decide +kernel
theorem dX4_without_57 : decode cX4_without 57 = .ok (.invokevirtual 233, 3) := by decide +kernel
theorem dX4_without_60 : decode cX4_without 60 = .ok (.aload_n 0, 1) := by decide +kernel
theorem dX4_without_61 : decode cX4_without 61 = .ok (.iload_n 2, 1) := by decide +kernel
theorem dX4_without_62 : decode cX4_without 62 = .ok (.invokevirtual 206, 3) := by decide +kernel
theorem dX4_without_65 : decode cX4_without 65 = .ok (.lreturn, 1) := by decide +kernel
theorem dX4_key_0 : decode cX4_key 0 = .ok (.aload_n 0, 1) := by decide +kernel
theorem dX4_key_1 : decode cX4_key 1 = .ok (.invokevirtual 230, 3) := by decide +kernel
theorem dX4_key_4 : decode cX4_key 4 = .ok (.bipush (-9), 2) := by decide +kernel
theorem dX4_key_6 : decode cX4_key 6 = .ok (.istore_n 1, 1) := by decide +kernel
theorem dX4_key_7 : decode cX4_key 7 = .ok (.lconst 0, 1) := by decide +kernel
theorem dX4_key_8 : decode cX4_key 8 = .ok (.lstore_n 2, 1) := by decide +kernel
theorem dX4_key_9 : decode cX4_key 9 = .ok (.lconst 1, 1) := by decide +kernel
theorem dX4_key_10 : decode cX4_key 10 = .ok (.lstore 4, 2) := by decide +kernel
theorem dX4_key_12 : decode cX4_key 12 = .ok (.iconst 0, 1) := by decide +kernel
theorem dX4_key_13 : decode cX4_key 13 = .ok (.istore 6, 2) := by decide +kernel
theorem dX4_key_15 : decode cX4_key 15 = .ok (.iload 6, 2) := by decide +kernel
theorem dX4_key_17 : decode cX4_key 17 = .ok (.aload_n 0, 1) := by decide +kernel
theorem dX4_key_18 : decode cX4_key 18 = .ok (.getfield 12, 3) := by decide +kernel
theorem dX4_key_21 : decode cX4_key 21 = .ok (.getfield 89, 3) := by decide +kernel
theorem dX4_key_24 : decode cX4_key 24 = .ok (.if_icmp .ge 107, 3) := by decide +kernel
theorem dX4_key_27 : decode cX4_key 27 = .ok (.aload_n 0, 1) := by decide +kernel
theorem dX4_key_28 : decode cX4_key 28 = .ok (.getfield 12, 3) := by decide +kernel
theorem dX4_key_31 : decode cX4_key 31 = .ok (.iload 6, 2) := by decide +kernel
theorem dX4_key_33 : decode cX4_key 33 = .ok (.invokevirtual 102, 3) := by decide +kernel
theorem dX4_key_36 : decode cX4_key 36 = .ok (.ifCond .ne 6, 3) := by decide +kernel
theorem dX4_key_39 : decode cX4_key 39 = .ok (.goto 86, 3) := by decide +kernel
theorem dX4_key_42 : decode cX4_key 42 = .ok (.aload_n 0, 1) := by decide +kernel
theorem dX4_key_43 : decode cX4_key 43 = .ok (.getfield 54, 3) := by decide +kernel
theorem dX4_key_46 : decode cX4_key 46 = .ok (.aload_n 0, 1) := by decide +kernel
theorem dX4_key_47 : decode cX4_key 47 = .ok (.getfield 12, 3) := by decide +kernel
theorem dX4_key_50 : decode cX4_key 50 = .ok (.getfield 105, 3) := by decide +kernel
theorem dX4_key_53 : decode cX4_key 53 = .ok (.iconst 1, 1) := by decide +kernel
theorem dX4_key_54 : decode cX4_key 54 = .ok (.iload 6, 2) := by decide +kernel
theorem dX4_key_56 : decode cX4_key 56 = .ok (.ishl, 1) := by decide +kernel
theorem dX4_key_57 : decode cX4_key 57 = .ok (.iconst (-1), 1) := by decide +kernel
theorem dX4_key_58 : decode cX4_key 58 = .ok (.ixor, 1) := by decide +kernel
theorem dX4_key_59 : decode cX4_key 59 = .ok (.iand, 1) := by decide +kernel
theorem dX4_key_60 : decode cX4_key 60 = .ok (.invokevirtual 233, 3) := by decide +kernel
theorem dX4_key_63 : decode cX4_key 63 = .ok (.aload_n 0, 1) := by decide +kernel
theorem dX4_key_64 : decode cX4_key 64 = .ok (.getfield 54, 3) := by decide +kernel
theorem dX4_key_67 : decode cX4_key 67 = .ok (.getfield 149, 3) := by decide +kernel
theorem dX4_key_70 : decode cX4_key 70 = .ok (.ifCond .ne 6, 3) := by decide +kernel
theorem dX4_key_73 : decode cX4_key 73 = .ok (.iload 6, 2) := by decide +kernel
theorem dX4_key_75 : decode cX4_key 75 = .ok (.ireturn, 1) := by decide +kernel
theorem dX4_key_76 : decode cX4_key 76 = .ok (.iload_n 1, 1) := by decide +kernel
theorem dX4_key_77 : decode cX4_key 77 = .ok (.bipush (-9), 2) := by decide +kernel
theorem dX4_key_79 : decode cX4_key 79 = .ok (.if_icmp .eq 26, 3) := by decide +kernel
theorem dX4_key_82 : decode cX4_key 82 = .ok (.aload_n 0, 1) := by decide +kernel
theorem dX4_key_83 : decode cX4_key 83 = .ok (.getfield 54, 3) := by decide +kernel
theorem dX4_key_86 : decode cX4_key 86 = .ok (.invokevirtual 209, 3) := by decide +kernel
theorem dX4_key_89 : decode cX4_key 89 = .ok (.aload_n 0, 1) := by decide +kernel
theorem dX4_key_90 : decode cX4_key 90 = .ok (.getfield 54, 3) := by decide +kernel
theorem dX4_key_93 : decode cX4_key 93 = .ok (.invokevirtual 212, 3) := by decide +kernel
theorem dX4_key_96 : decode cX4_key 96 = .ok (.lload_n 2, 1) := by decide +kernel
theorem dX4_key_97 : decode cX4_key 97 = .ok (.lload 4, 2) := by decide +kernel
theorem dX4_key_99 : decode cX4_key 99 = .ok (.invokestatic 237, 3) := by decide +kernel
theorem dX4_key_102 : decode cX4_key 102 = .ok (.ifCond .le 23, 3) := by decide +kernel
theorem dX4_key_105 : decode cX4_key 105 = .ok (.iload 6, 2) := by decide +kernel
theorem dX4_key_107 : decode cX4_key 107 = .ok (.istore_n 1, 1) := by decide +kernel
theorem dX4_key_108 : decode cX4_key 108 = .ok (.aload_n 0, 1) := by decide +kernel
theorem dX4_key_109 : decode cX4_key 109 = .ok (.getfield 54, 3) := by decide +kernel
theorem dX4_key_112 : decode cX4_key 112 = .ok (.invokevirtual 209, 3) := by decide +kernel
theorem dX4_key_115 : decode cX4_key 115 = .ok (.lstore_n 2, 1) := by decide +kernel
theorem dX4_key_116 : decode cX4_key 116 = .ok (.aload_n 0, 1) := by decide +kernel
theorem dX4_key_117 : decode cX4_key 117 = .ok (.getfield 54, 3) := by decide +kernel
theorem dX4_key_120 : decode cX4_key 120 = .ok (.invokevirtual 212, 3) := by decide +kernel
theorem dX4_key_123 : decode cX4_key 123 = .ok (.lstore 4, 2) := by decide +kernel
theorem dX4_key_125 : decode cX4_key 125 = .ok (.iinc 6 1, 3) := by decide +kernel
theorem dX4_key_128 : decode cX4_key 128 = .ok (.goto (-113), 3) := by decide +kernel
theorem dX4_key_131 : decode cX4_key 131 = .ok (.iload_n 1, 1) := by decide +kernel
theorem dX4_key_132 : decode cX4_key 132 = .ok (.ireturn, 1) := by decide +kernel
theorem dX4_extra_0 : decode cX4_extra 0 = .ok (.iload_n 1, 1) := by decide +kernel
theorem dX4_extra_1 : decode cX4_extra 1 = .ok (.iload_n 2, 1) := by decide +kernel
theorem dX4_extra_2 : decode cX4_extra 2 = .ok (.invokestatic 83, 3) := by decide +kernel
theorem dX4_extra_5 : decode cX4_extra 5 = .ok (.ifCond .ne 5, 3) := by decide +kernel
theorem dX4_extra_8 : decode cX4_extra 8 = .ok (.iconst (-1), 1) := by decide +kernel
theorem dX4_extra_9 : decode cX4_extra 9 = .ok (.ireturn, 1) := by decide +kernel
theorem dX4_extra_10 : decode cX4_extra 10 = .ok (.aload_n 0, 1) := by decide +kernel
theorem dX4_extra_11 : decode cX4_extra 11 = .ok (.invokevirtual 230, 3) := by decide +kernel
theorem dX4_extra_14 : decode cX4_extra 14 = .ok (.aload_n 0, 1) := by decide +kernel
theorem dX4_extra_15 : decode cX4_extra 15 = .ok (.getfield 54, 3) := by decide +kernel
theorem dX4_extra_18 : decode cX4_extra 18 = .ok (.aload_n 0, 1) := by decide +kernel
theorem dX4_extra_19 : decode cX4_extra 19 = .ok (.getfield 12, 3) := by decide +kernel
theorem dX4_extra_22 : decode cX4_extra 22 = .ok (.getfield 105, 3) := by decide +kernel
theorem dX4_extra_25 : decode cX4_extra 25 = .ok (.invokevirtual 241, 3) := by decide +kernel
theorem dX4_extra_28 : decode cX4_extra 28 = .ok (.bipush (-9), 2) := by decide +kernel
theorem dX4_extra_30 : decode cX4_extra 30 = .ok (.istore_n 3, 1) := by decide +kernel
theorem dX4_extra_31 : decode cX4_extra 31 = .ok (.lconst 0, 1) := by decide +kernel
theorem dX4_extra_32 : decode cX4_extra 32 = .ok (.lstore 4, 2) := by decide +kernel
theorem dX4_extra_34 : decode cX4_extra 34 = .ok (.lconst 1, 1) := by decide +kernel
theorem dX4_extra_35 : decode cX4_extra 35 = .ok (.lstore 6, 2) := by decide +kernel
theorem dX4_extra_37 : decode cX4_extra 37 = .ok (.iconst 0, 1) := by decide +kernel
theorem dX4_extra_38 : decode cX4_extra 38 = .ok (.istore 8, 2) := by decide +kernel
theorem dX4_extra_40 : decode cX4_extra 40 = .ok (.iload 8, 2) := by decide +kernel
theorem dX4_extra_42 : decode cX4_extra 42 = .ok (.sipush 361, 3) := by decide +kernel
theorem dX4_extra_45 : decode cX4_extra 45 = .ok (.if_icmp .ge 131, 3) := by decide +kernel
theorem dX4_extra_48 : decode cX4_extra 48 = .ok (.iload 8, 2) := by decide +kernel
theorem dX4_extra_50 : decode cX4_extra 50 = .ok (.invokestatic 222, 3) := by decide +kernel
theorem dX4_extra_53 : decode cX4_extra 53 = .ok (.istore 9, 2) := by decide +kernel
theorem dX4_extra_55 : decode cX4_extra 55 = .ok (.iload 8, 2) := by decide +kernel
theorem dX4_extra_57 : decode cX4_extra 57 = .ok (.invokestatic 225, 3) := by decide +kernel
theorem dX4_extra_60 : decode cX4_extra 60 = .ok (.istore 10, 2) := by decide +kernel
theorem dX4_extra_62 : decode cX4_extra 62 = .ok (.aload_n 0, 1) := by decide +kernel
theorem dX4_extra_63 : decode cX4_extra 63 = .ok (.getfield 12, 3) := by decide +kernel
theorem dX4_extra_66 : decode cX4_extra 66 = .ok (.iload 9, 2) := by decide +kernel
theorem dX4_extra_68 : decode cX4_extra 68 = .ok (.iload 10, 2) := by decide +kernel
theorem dX4_extra_70 : decode cX4_extra 70 = .ok (.invokevirtual 86, 3) := by decide +kernel
theorem dX4_extra_73 : decode cX4_extra 73 = .ok (.ifCond .eq 6, 3) := by decide +kernel
theorem dX4_extra_76 : decode cX4_extra 76 = .ok (.goto 94, 3) := by decide +kernel
theorem dX4_extra_79 : decode cX4_extra 79 = .ok (.aload_n 0, 1) := by decide +kernel
theorem dX4_extra_80 : decode cX4_extra 80 = .ok (.getfield 54, 3) := by decide +kernel
theorem dX4_extra_83 : decode cX4_extra 83 = .ok (.iload 9, 2) := by decide +kernel
theorem dX4_extra_85 : decode cX4_extra 85 = .ok (.iload 10, 2) := by decide +kernel
theorem dX4_extra_87 : decode cX4_extra 87 = .ok (.iload_n 1, 1) := by decide +kernel
theorem dX4_extra_88 : decode cX4_extra 88 = .ok (.iload_n 2, 1) := by decide +kernel
theorem dX4_extra_89 : decode cX4_extra 89 = .ok (.invokevirtual 244, 3) := by decide +kernel
theorem dX4_extra_92 : decode cX4_extra 92 = .ok (.aload_n 0, 1) := by decide +kernel
theorem dX4_extra_93 : decode cX4_extra 93 = .ok (.getfield 54, 3) := by decide +kernel
theorem dX4_extra_96 : decode cX4_extra 96 = .ok (.invokevirtual 247, 3) := by decide +kernel
theorem dX4_extra_99 : decode cX4_extra 99 = .ok (.aload_n 0, 1) := by decide +kernel
theorem dX4_extra_100 : decode cX4_extra 100 = .ok (.getfield 54, 3) := by decide +kernel
theorem dX4_extra_103 : decode cX4_extra 103 = .ok (.invokevirtual 250, 3) := by decide +kernel
theorem dX4_extra_106 : decode cX4_extra 106 = .ok (.aload_n 0, 1) := by decide +kernel
theorem dX4_extra_107 : decode cX4_extra 107 = .ok (.getfield 54, 3) := by decide +kernel
theorem dX4_extra_110 : decode cX4_extra 110 = .ok (.getfield 149, 3) := by decide +kernel
theorem dX4_extra_113 : decode cX4_extra 113 = .ok (.ifCond .ne 6, 3) := by decide +kernel
theorem dX4_extra_116 : decode cX4_extra 116 = .ok (.goto 54, 3) := by decide +kernel
theorem dX4_extra_119 : decode cX4_extra 119 = .ok (.iload_n 3, 1) := by decide +kernel
theorem dX4_extra_120 : decode cX4_extra 120 = .ok (.bipush (-9), 2) := by decide +kernel
theorem dX4_extra_122 : decode cX4_extra 122 = .ok (.if_icmp .eq 27, 3) := by decide +kernel
theorem dX4_extra_125 : decode cX4_extra 125 = .ok (.aload_n 0, 1) := by decide +kernel
theorem dX4_extra_126 : decode cX4_extra 126 = .ok (.getfield 54, 3) := by decide +kernel
theorem dX4_extra_129 : decode cX4_extra 129 = .ok (.invokevirtual 209, 3) := by decide +kernel
theorem dX4_extra_132 : decode cX4_extra 132 = .ok (.aload_n 0, 1) := by decide +kernel
theorem dX4_extra_133 : decode cX4_extra 133 = .ok (.getfield 54, 3) := by decide +kernel
theorem dX4_extra_136 : decode cX4_extra 136 = .ok (.invokevirtual 212, 3) := by decide +kernel
theorem dX4_extra_139 : decode cX4_extra 139 = .ok (.lload 4, 2) := by decide +kernel
theorem dX4_extra_141 : decode cX4_extra 141 = .ok (.lload 6, 2) := by decide +kernel
theorem dX4_extra_143 : decode cX4_extra 143 = .ok (.invokestatic 237, 3) := by decide +kernel
theorem dX4_extra_146 : decode cX4_extra 146 = .ok (.ifCond .ge 24, 3) := by decide +kernel
theorem dX4_extra_149 : decode cX4_extra 149 = .ok (.iload 8, 2) := by decide +kernel
theorem dX4_extra_151 : decode cX4_extra 151 = .ok (.istore_n 3, 1) := by decide +kernel
theorem dX4_extra_152 : decode cX4_extra 152 = .ok (.aload_n 0, 1) := by decide +kernel
theorem dX4_extra_153 : decode cX4_extra 153 = .ok (.getfield 54, 3) := by decide +kernel
theorem dX4_extra_156 : decode cX4_extra 156 = .ok (.invokevirtual 209, 3) := by decide +kernel
theorem dX4_extra_159 : decode cX4_extra 159 = .ok (.lstore 4, 2) := by decide +kernel
theorem dX4_extra_161 : decode cX4_extra 161 = .ok (.aload_n 0, 1) := by decide +kernel
theorem dX4_extra_162 : decode cX4_extra 162 = .ok (.getfield 54, 3) := by decide +kernel
theorem dX4_extra_165 : decode cX4_extra 165 = .ok (.invokevirtual 212, 3) := by decide +kernel
theorem dX4_extra_168 : decode cX4_extra 168 = .ok (.lstore 6, 2) := by decide +kernel
theorem dX4_extra_170 : decode cX4_extra 170 = .ok (.iinc 8 1, 3) := by decide +kernel
theorem dX4_extra_173 : decode cX4_extra 173 = .ok (.goto (-133), 3) := by decide +kernel
theorem dX4_extra_176 : decode cX4_extra 176 = .ok (.iload_n 3, 1) := by decide +kernel
theorem dX4_extra_177 : decode cX4_extra 177 = .ok (.ireturn, 1) := by decide +kernel
theorem dX4_odds_0 : decode cX4_odds 0 = .ok (.iload_n 1, 1) := by decide +kernel
theorem dX4_odds_1 : decode cX4_odds 1 = .ok (.ifCond .lt 18, 3) := by decide +kernel
theorem dX4_odds_4 : decode cX4_odds 4 = .ok (.iload_n 1, 1) := by decide +kernel
theorem dX4_odds_5 : decode cX4_odds 5 = .ok (.bipush 10, 2) := by decide +kernel
theorem dX4_odds_7 : decode cX4_odds 7 = .ok (.if_icmp .gt 12, 3) := by decide +kernel
theorem dX4_odds_10 : decode cX4_odds 10 = .ok (.iload_n 2, 1) := by decide +kernel
theorem dX4_odds_11 : decode cX4_odds 11 = .ok (.ifCond .lt 8, 3) := by decide +kernel
theorem dX4_odds_14 : decode cX4_odds 14 = .ok (.iload_n 2, 1) := by decide +kernel
theorem dX4_odds_15 : decode cX4_odds 15 = .ok (.iconst 1, 1) := by decide +kernel
theorem dX4_odds_16 : decode cX4_odds 16 = .ok (.if_icmp .le 5, 3) := by decide +kernel
theorem dX4_odds_19 : decode cX4_odds 19 = .ok (.iconst (-1), 1) := by decide +kernel
theorem dX4_odds_20 : decode cX4_odds 20 = .ok (.ireturn, 1) := by decide +kernel
theorem dX4_odds_21 : decode cX4_odds 21 = .ok (.aload_n 0, 1) := by decide +kernel
theorem dX4_odds_22 : decode cX4_odds 22 = .ok (.invokevirtual 230, 3) := by decide +kernel
theorem dX4_odds_25 : decode cX4_odds 25 = .ok (.aload_n 0, 1) := by decide +kernel
theorem dX4_odds_26 : decode cX4_odds 26 = .ok (.getfield 12, 3) := by decide +kernel
theorem dX4_odds_29 : decode cX4_odds 29 = .ok (.getfield 105, 3) := by decide +kernel
theorem dX4_odds_32 : decode cX4_odds 32 = .ok (.invokestatic 108, 3) := by decide +kernel
theorem dX4_odds_35 : decode cX4_odds 35 = .ok (.istore_n 3, 1) := by decide +kernel
theorem dX4_odds_36 : decode cX4_odds 36 = .ok (.iconst 0, 1) := by decide +kernel
theorem dX4_odds_37 : decode cX4_odds 37 = .ok (.istore 4, 2) := by decide +kernel
theorem dX4_odds_39 : decode cX4_odds 39 = .ok (.iconst 0, 1) := by decide +kernel
theorem dX4_odds_40 : decode cX4_odds 40 = .ok (.istore 5, 2) := by decide +kernel
theorem dX4_odds_42 : decode cX4_odds 42 = .ok (.iload 5, 2) := by decide +kernel
theorem dX4_odds_44 : decode cX4_odds 44 = .ok (.sipush 256, 3) := by decide +kernel
theorem dX4_odds_47 : decode cX4_odds 47 = .ok (.if_icmp .ge 75, 3) := by decide +kernel
theorem dX4_odds_50 : decode cX4_odds 50 = .ok (.iload 5, 2) := by decide +kernel
theorem dX4_odds_52 : decode cX4_odds 52 = .ok (.aload_n 0, 1) := by decide +kernel
theorem dX4_odds_53 : decode cX4_odds 53 = .ok (.getfield 12, 3) := by decide +kernel
theorem dX4_odds_56 : decode cX4_odds 56 = .ok (.getfield 105, 3) := by decide +kernel
theorem dX4_odds_59 : decode cX4_odds 59 = .ok (.iconst (-1), 1) := by decide +kernel
theorem dX4_odds_60 : decode cX4_odds 60 = .ok (.ixor, 1) := by decide +kernel
theorem dX4_odds_61 : decode cX4_odds 61 = .ok (.iand, 1) := by decide +kernel
theorem dX4_odds_62 : decode cX4_odds 62 = .ok (.ifCond .eq 6, 3) := by decide +kernel
theorem dX4_odds_65 : decode cX4_odds 65 = .ok (.goto 51, 3) := by decide +kernel
theorem dX4_odds_68 : decode cX4_odds 68 = .ok (.iload 5, 2) := by decide +kernel
theorem dX4_odds_70 : decode cX4_odds 70 = .ok (.invokestatic 108, 3) := by decide +kernel
theorem dX4_odds_73 : decode cX4_odds 73 = .ok (.istore 6, 2) := by decide +kernel
theorem dX4_odds_75 : decode cX4_odds 75 = .ok (.bipush 10, 2) := by decide +kernel
theorem dX4_odds_77 : decode cX4_odds 77 = .ok (.iload_n 1, 1) := by decide +kernel
theorem dX4_odds_78 : decode cX4_odds 78 = .ok (.isub, 1) := by decide +kernel
theorem dX4_odds_79 : decode cX4_odds 79 = .ok (.iload 6, 2) := by decide +kernel
theorem dX4_odds_81 : decode cX4_odds 81 = .ok (.invokestatic 253, 3) := by decide +kernel
theorem dX4_odds_84 : decode cX4_odds 84 = .ok (.iload_n 1, 1) := by decide +kernel
theorem dX4_odds_85 : decode cX4_odds 85 = .ok (.iload_n 3, 1) := by decide +kernel
theorem dX4_odds_86 : decode cX4_odds 86 = .ok (.iload 6, 2) := by decide +kernel
theorem dX4_odds_88 : decode cX4_odds 88 = .ok (.isub, 1) := by decide +kernel
theorem dX4_odds_89 : decode cX4_odds 89 = .ok (.invokestatic 253, 3) := by decide +kernel
theorem dX4_odds_92 : decode cX4_odds 92 = .ok (.imul, 1) := by decide +kernel
theorem dX4_odds_93 : decode cX4_odds 93 = .ok (.istore 7, 2) := by decide +kernel
theorem dX4_odds_95 : decode cX4_odds 95 = .ok (.iload 7, 2) := by decide +kernel
theorem dX4_odds_97 : decode cX4_odds 97 = .ok (.ifCond .le 19, 3) := by decide +kernel
theorem dX4_odds_100 : decode cX4_odds 100 = .ok (.aload_n 0, 1) := by decide +kernel
theorem dX4_odds_101 : decode cX4_odds 101 = .ok (.iload 5, 2) := by decide +kernel
theorem dX4_odds_103 : decode cX4_odds 103 = .ok (.invokevirtual 257, 3) := by decide +kernel
theorem dX4_odds_106 : decode cX4_odds 106 = .ok (.ifCond .eq 10, 3) := by decide +kernel
theorem dX4_odds_109 : decode cX4_odds 109 = .ok (.iload 4, 2) := by decide +kernel
theorem dX4_odds_111 : decode cX4_odds 111 = .ok (.iload 7, 2) := by decide +kernel
theorem dX4_odds_113 : decode cX4_odds 113 = .ok (.iadd, 1) := by decide +kernel
theorem dX4_odds_114 : decode cX4_odds 114 = .ok (.istore 4, 2) := by decide +kernel
theorem dX4_odds_116 : decode cX4_odds 116 = .ok (.iinc 5 1, 3) := by decide +kernel
theorem dX4_odds_119 : decode cX4_odds 119 = .ok (.goto (-77), 3) := by decide +kernel
theorem dX4_odds_122 : decode cX4_odds 122 = .ok (.iload 4, 2) := by decide +kernel
theorem dX4_odds_124 : decode cX4_odds 124 = .ok (.i2l, 1) := by decide +kernel
theorem dX4_odds_125 : decode cX4_odds 125 = .ok (.bipush 10, 2) := by decide +kernel
theorem dX4_odds_127 : decode cX4_odds 127 = .ok (.iload_n 3, 1) := by decide +kernel
theorem dX4_odds_128 : decode cX4_odds 128 = .ok (.invokestatic 253, 3) := by decide +kernel
theorem dX4_odds_131 : decode cX4_odds 131 = .ok (.i2l, 1) := by decide +kernel
theorem dX4_odds_132 : decode cX4_odds 132 = .ok (.iload_n 2, 1) := by decide +kernel
theorem dX4_odds_133 : decode cX4_odds 133 = .ok (.invokestatic 190, 3) := by decide +kernel
theorem dX4_odds_136 : decode cX4_odds 136 = .ok (.l2i, 1) := by decide +kernel
theorem dX4_odds_137 : decode cX4_odds 137 = .ok (.ireturn, 1) := by decide +kernel
theorem dX4_hunts_0 : decode cX4_hunts 0 = .ok (.iload_n 1, 1) := by decide +kernel
theorem dX4_hunts_1 : decode cX4_hunts 1 = .ok (.iconst 1, 1) := by decide +kernel
theorem dX4_hunts_2 : decode cX4_hunts 2 = .ok (.if_icmp .lt 9, 3) := by decide +kernel
theorem dX4_hunts_5 : decode cX4_hunts 5 = .ok (.iload_n 1, 1) := by decide +kernel
theorem dX4_hunts_6 : decode cX4_hunts 6 = .ok (.bipush 99, 2) := by decide +kernel
theorem dX4_hunts_8 : decode cX4_hunts 8 = .ok (.if_icmp .le 5, 3) := by decide +kernel
theorem dX4_hunts_11 : decode cX4_hunts 11 = .ok (.iconst (-1), 1) := by decide +kernel
theorem dX4_hunts_12 : decode cX4_hunts 12 = .ok (.ireturn, 1) := by decide +kernel
theorem dX4_hunts_13 : decode cX4_hunts 13 = .ok (.aload_n 0, 1) := by decide +kernel
theorem dX4_hunts_14 : decode cX4_hunts 14 = .ok (.iload_n 1, 1) := by decide +kernel
theorem dX4_hunts_15 : decode cX4_hunts 15 = .ok (.putfield 37, 3) := by decide +kernel
theorem dX4_hunts_18 : decode cX4_hunts 18 = .ok (.aload_n 0, 1) := by decide +kernel
theorem dX4_hunts_19 : decode cX4_hunts 19 = .ok (.invokevirtual 260, 3) := by decide +kernel
theorem dX4_hunts_22 : decode cX4_hunts 22 = .ok (.ireturn, 1) := by decide +kernel
theorem dX4_sees_0 : decode cX4_sees 0 = .ok (.aload_n 0, 1) := by decide +kernel
theorem dX4_sees_1 : decode cX4_sees 1 = .ok (.iload_n 1, 1) := by decide +kernel
theorem dX4_sees_2 : decode cX4_sees 2 = .ok (.invokevirtual 99, 3) := by decide +kernel
theorem dX4_sees_5 : decode cX4_sees 5 = .ok (.ifCond .eq 14, 3) := by decide +kernel
theorem dX4_sees_8 : decode cX4_sees 8 = .ok (.iload_n 2, 1) := by decide +kernel
theorem dX4_sees_9 : decode cX4_sees 9 = .ok (.ifCond .lt 10, 3) := by decide +kernel
theorem dX4_sees_12 : decode cX4_sees 12 = .ok (.iload_n 2, 1) := by decide +kernel
theorem dX4_sees_13 : decode cX4_sees 13 = .ok (.sipush 999, 3) := by decide +kernel
theorem dX4_sees_16 : decode cX4_sees 16 = .ok (.if_icmp .le 5, 3) := by decide +kernel
theorem dX4_sees_19 : decode cX4_sees 19 = .ok (.iconst (-1), 1) := by decide +kernel
theorem dX4_sees_20 : decode cX4_sees 20 = .ok (.ireturn, 1) := by decide +kernel
theorem dX4_sees_21 : decode cX4_sees 21 = .ok (.aload_n 0, 1) := by decide +kernel
theorem dX4_sees_22 : decode cX4_sees 22 = .ok (.getfield 76, 3) := by decide +kernel
theorem dX4_sees_25 : decode cX4_sees 25 = .ok (.ifCond .lt 12, 3) := by decide +kernel
theorem dX4_sees_28 : decode cX4_sees 28 = .ok (.aload_n 0, 1) := by decide +kernel
theorem dX4_sees_29 : decode cX4_sees 29 = .ok (.getfield 76, 3) := by decide +kernel
theorem dX4_sees_32 : decode cX4_sees 32 = .ok (.bipush 6, 2) := by decide +kernel
theorem dX4_sees_34 : decode cX4_sees 34 = .ok (.if_icmp .lt 6, 3) := by decide +kernel
theorem dX4_sees_37 : decode cX4_sees 37 = .ok (.bipush (-3), 2) := by decide +kernel
theorem dX4_sees_39 : decode cX4_sees 39 = .ok (.ireturn, 1) := by decide +kernel
theorem dX4_sees_40 : decode cX4_sees 40 = .ok (.aload_n 0, 1) := by decide +kernel
theorem dX4_sees_41 : decode cX4_sees 41 = .ok (.getfield 41, 3) := by decide +kernel
theorem dX4_sees_44 : decode cX4_sees 44 = .ok (.aload_n 0, 1) := by decide +kernel
theorem dX4_sees_45 : decode cX4_sees 45 = .ok (.getfield 76, 3) := by decide +kernel
theorem dX4_sees_48 : decode cX4_sees 48 = .ok (.iload_n 1, 1) := by decide +kernel
theorem dX4_sees_49 : decode cX4_sees 49 = .ok (.iastore, 1) := by decide +kernel
theorem dX4_sees_50 : decode cX4_sees 50 = .ok (.aload_n 0, 1) := by decide +kernel
theorem dX4_sees_51 : decode cX4_sees 51 = .ok (.getfield 45, 3) := by decide +kernel
theorem dX4_sees_54 : decode cX4_sees 54 = .ok (.aload_n 0, 1) := by decide +kernel
theorem dX4_sees_55 : decode cX4_sees 55 = .ok (.getfield 76, 3) := by decide +kernel
theorem dX4_sees_58 : decode cX4_sees 58 = .ok (.iload_n 2, 1) := by decide +kernel
theorem dX4_sees_59 : decode cX4_sees 59 = .ok (.iastore, 1) := by decide +kernel
theorem dX4_sees_60 : decode cX4_sees 60 = .ok (.aload_n 0, 1) := by decide +kernel
theorem dX4_sees_61 : decode cX4_sees 61 = .ok (.dup, 1) := by decide +kernel
theorem dX4_sees_62 : decode cX4_sees 62 = .ok (.getfield 76, 3) := by decide +kernel
theorem dX4_sees_65 : decode cX4_sees 65 = .ok (.iconst 1, 1) := by decide +kernel
theorem dX4_sees_66 : decode cX4_sees 66 = .ok (.iadd, 1) := by decide +kernel
theorem dX4_sees_67 : decode cX4_sees 67 = .ok (.putfield 76, 3) := by decide +kernel
theorem dX4_sees_70 : decode cX4_sees 70 = .ok (.aload_n 0, 1) := by decide +kernel
theorem dX4_sees_71 : decode cX4_sees 71 = .ok (.getfield 76, 3) := by decide +kernel
theorem dX4_sees_74 : decode cX4_sees 74 = .ok (.ireturn, 1) := by decide +kernel
theorem dX4_forget_0 : decode cX4_forget 0 = .ok (.aload_n 0, 1) := by decide +kernel
theorem dX4_forget_1 : decode cX4_forget 1 = .ok (.invokevirtual 260, 3) := by decide +kernel
theorem dX4_forget_4 : decode cX4_forget 4 = .ok (.ireturn, 1) := by decide +kernel
theorem dX4_spots_0 : decode cX4_spots 0 = .ok (.iload_n 1, 1) := by decide +kernel
theorem dX4_spots_1 : decode cX4_spots 1 = .ok (.ifCond .lt 8, 3) := by decide +kernel
theorem dX4_spots_4 : decode cX4_spots 4 = .ok (.iload_n 1, 1) := by decide +kernel
theorem dX4_spots_5 : decode cX4_spots 5 = .ok (.iconst 1, 1) := by decide +kernel
theorem dX4_spots_6 : decode cX4_spots 6 = .ok (.if_icmp .le 5, 3) := by decide +kernel
theorem dX4_spots_9 : decode cX4_spots 9 = .ok (.iconst (-1), 1) := by decide +kernel
theorem dX4_spots_10 : decode cX4_spots 10 = .ok (.ireturn, 1) := by decide +kernel
theorem dX4_spots_11 : decode cX4_spots 11 = .ok (.aload_n 0, 1) := by decide +kernel
theorem dX4_spots_12 : decode cX4_spots 12 = .ok (.getfield 54, 3) := by decide +kernel
theorem dX4_spots_15 : decode cX4_spots 15 = .ok (.aload_n 0, 1) := by decide +kernel
theorem dX4_spots_16 : decode cX4_spots 16 = .ok (.getfield 12, 3) := by decide +kernel
theorem dX4_spots_19 : decode cX4_spots 19 = .ok (.invokevirtual 263, 3) := by decide +kernel
theorem dX4_spots_22 : decode cX4_spots 22 = .ok (.aload_n 0, 1) := by decide +kernel
theorem dX4_spots_23 : decode cX4_spots 23 = .ok (.getfield 54, 3) := by decide +kernel
theorem dX4_spots_26 : decode cX4_spots 26 = .ok (.aload_n 0, 1) := by decide +kernel
theorem dX4_spots_27 : decode cX4_spots 27 = .ok (.getfield 12, 3) := by decide +kernel
theorem dX4_spots_30 : decode cX4_spots 30 = .ok (.getfield 105, 3) := by decide +kernel
theorem dX4_spots_33 : decode cX4_spots 33 = .ok (.invokevirtual 241, 3) := by decide +kernel
theorem dX4_spots_36 : decode cX4_spots 36 = .ok (.iconst 0, 1) := by decide +kernel
theorem dX4_spots_37 : decode cX4_spots 37 = .ok (.istore_n 2, 1) := by decide +kernel
theorem dX4_spots_38 : decode cX4_spots 38 = .ok (.bipush (-9), 2) := by decide +kernel
theorem dX4_spots_40 : decode cX4_spots 40 = .ok (.istore_n 3, 1) := by decide +kernel
theorem dX4_spots_41 : decode cX4_spots 41 = .ok (.iconst 0, 1) := by decide +kernel
theorem dX4_spots_42 : decode cX4_spots 42 = .ok (.istore 4, 2) := by decide +kernel
theorem dX4_spots_44 : decode cX4_spots 44 = .ok (.iload 4, 2) := by decide +kernel
theorem dX4_spots_46 : decode cX4_spots 46 = .ok (.sipush 361, 3) := by decide +kernel
theorem dX4_spots_49 : decode cX4_spots 49 = .ok (.if_icmp .ge 30, 3) := by decide +kernel
theorem dX4_spots_52 : decode cX4_spots 52 = .ok (.aload_n 0, 1) := by decide +kernel
theorem dX4_spots_53 : decode cX4_spots 53 = .ok (.iload 4, 2) := by decide +kernel
theorem dX4_spots_55 : decode cX4_spots 55 = .ok (.invokevirtual 267, 3) := by decide +kernel
theorem dX4_spots_58 : decode cX4_spots 58 = .ok (.ifCond .eq 15, 3) := by decide +kernel
theorem dX4_spots_61 : decode cX4_spots 61 = .ok (.iinc 2 1, 3) := by decide +kernel
theorem dX4_spots_64 : decode cX4_spots 64 = .ok (.iload_n 3, 1) := by decide +kernel
theorem dX4_spots_65 : decode cX4_spots 65 = .ok (.bipush (-9), 2) := by decide +kernel
theorem dX4_spots_67 : decode cX4_spots 67 = .ok (.if_icmp .ne 6, 3) := by decide +kernel
theorem dX4_spots_70 : decode cX4_spots 70 = .ok (.iload 4, 2) := by decide +kernel
theorem dX4_spots_72 : decode cX4_spots 72 = .ok (.istore_n 3, 1) := by decide +kernel
theorem dX4_spots_73 : decode cX4_spots 73 = .ok (.iinc 4 1, 3) := by decide +kernel
theorem dX4_spots_76 : decode cX4_spots 76 = .ok (.goto (-32), 3) := by decide +kernel
theorem dX4_spots_79 : decode cX4_spots 79 = .ok (.iload_n 1, 1) := by decide +kernel
theorem dX4_spots_80 : decode cX4_spots 80 = .ok (.ifCond .ne 7, 3) := by decide +kernel
theorem dX4_spots_83 : decode cX4_spots 83 = .ok (.iload_n 2, 1) := by decide +kernel
theorem dX4_spots_84 : decode cX4_spots 84 = .ok (.goto 4, 3) := by decide +kernel
theorem dX4_spots_87 : decode cX4_spots 87 = .ok (.iload_n 3, 1) := by decide +kernel
theorem dX4_spots_88 : decode cX4_spots 88 = .ok (.ireturn, 1) := by decide +kernel
theorem dX4_ask_0 : decode cX4_ask 0 = .ok (.aload_n 0, 1) := by decide +kernel
theorem dX4_ask_1 : decode cX4_ask 1 = .ok (.getfield 54, 3) := by decide +kernel
theorem dX4_ask_4 : decode cX4_ask 4 = .ok (.aload_n 0, 1) := by decide +kernel
theorem dX4_ask_5 : decode cX4_ask 5 = .ok (.getfield 12, 3) := by decide +kernel
theorem dX4_ask_8 : decode cX4_ask 8 = .ok (.invokevirtual 263, 3) := by decide +kernel
theorem dX4_ask_11 : decode cX4_ask 11 = .ok (.aload_n 0, 1) := by decide +kernel
theorem dX4_ask_12 : decode cX4_ask 12 = .ok (.getfield 54, 3) := by decide +kernel
theorem dX4_ask_15 : decode cX4_ask 15 = .ok (.aload_n 0, 1) := by decide +kernel
theorem dX4_ask_16 : decode cX4_ask 16 = .ok (.getfield 12, 3) := by decide +kernel
theorem dX4_ask_19 : decode cX4_ask 19 = .ok (.getfield 105, 3) := by decide +kernel
theorem dX4_ask_22 : decode cX4_ask 22 = .ok (.invokevirtual 241, 3) := by decide +kernel
theorem dX4_ask_25 : decode cX4_ask 25 = .ok (.aload_n 0, 1) := by decide +kernel
theorem dX4_ask_26 : decode cX4_ask 26 = .ok (.getfield 48, 3) := by decide +kernel
theorem dX4_ask_29 : decode cX4_ask 29 = .ok (.iconst 0, 1) := by decide +kernel
theorem dX4_ask_30 : decode cX4_ask 30 = .ok (.invokestatic 270, 3) := by decide +kernel
theorem dX4_ask_33 : decode cX4_ask 33 = .ok (.iconst 0, 1) := by decide +kernel
theorem dX4_ask_34 : decode cX4_ask 34 = .ok (.istore_n 1, 1) := by decide +kernel
theorem dX4_ask_35 : decode cX4_ask 35 = .ok (.iconst 0, 1) := by decide +kernel
theorem dX4_ask_36 : decode cX4_ask 36 = .ok (.istore_n 2, 1) := by decide +kernel
theorem dX4_ask_37 : decode cX4_ask 37 = .ok (.iload_n 2, 1) := by decide +kernel
theorem dX4_ask_38 : decode cX4_ask 38 = .ok (.sipush 361, 3) := by decide +kernel
theorem dX4_ask_41 : decode cX4_ask 41 = .ok (.if_icmp .ge 24, 3) := by decide +kernel
theorem dX4_ask_44 : decode cX4_ask 44 = .ok (.aload_n 0, 1) := by decide +kernel
theorem dX4_ask_45 : decode cX4_ask 45 = .ok (.iload_n 2, 1) := by decide +kernel
theorem dX4_ask_46 : decode cX4_ask 46 = .ok (.invokevirtual 267, 3) := by decide +kernel
theorem dX4_ask_49 : decode cX4_ask 49 = .ok (.ifCond .eq 10, 3) := by decide +kernel
theorem dX4_ask_52 : decode cX4_ask 52 = .ok (.iinc 1 1, 3) := by decide +kernel
theorem dX4_ask_55 : decode cX4_ask 55 = .ok (.aload_n 0, 1) := by decide +kernel
theorem dX4_ask_56 : decode cX4_ask 56 = .ok (.invokevirtual 276, 3) := by decide +kernel
theorem dX4_ask_59 : decode cX4_ask 59 = .ok (.iinc 2 1, 3) := by decide +kernel
theorem dX4_ask_62 : decode cX4_ask 62 = .ok (.goto (-25), 3) := by decide +kernel
theorem dX4_ask_65 : decode cX4_ask 65 = .ok (.iload_n 1, 1) := by decide +kernel
theorem dX4_ask_66 : decode cX4_ask 66 = .ok (.iconst 1, 1) := by decide +kernel
theorem dX4_ask_67 : decode cX4_ask 67 = .ok (.if_icmp .le 10, 3) := by decide +kernel
theorem dX4_ask_70 : decode cX4_ask 70 = .ok (.aload_n 0, 1) := by decide +kernel
theorem dX4_ask_71 : decode cX4_ask 71 = .ok (.invokevirtual 279, 3) := by decide +kernel
theorem dX4_ask_74 : decode cX4_ask 74 = .ok (.goto 5, 3) := by decide +kernel
theorem dX4_ask_77 : decode cX4_ask 77 = .ok (.bipush (-9), 2) := by decide +kernel
theorem dX4_ask_79 : decode cX4_ask 79 = .ok (.ireturn, 1) := by decide +kernel
theorem dX4_keep_0 : decode cX4_keep 0 = .ok (.iload_n 1, 1) := by decide +kernel
theorem dX4_keep_1 : decode cX4_keep 1 = .ok (.ifCond .lt 8, 3) := by decide +kernel
theorem dX4_keep_4 : decode cX4_keep 4 = .ok (.iload_n 1, 1) := by decide +kernel
theorem dX4_keep_5 : decode cX4_keep 5 = .ok (.iconst 2, 1) := by decide +kernel
theorem dX4_keep_6 : decode cX4_keep 6 = .ok (.if_icmp .lt 5, 3) := by decide +kernel
theorem dX4_keep_9 : decode cX4_keep 9 = .ok (.iconst (-1), 1) := by decide +kernel
theorem dX4_keep_10 : decode cX4_keep 10 = .ok (.ireturn, 1) := by decide +kernel
theorem dX4_keep_11 : decode cX4_keep 11 = .ok (.aload_n 0, 1) := by decide +kernel
theorem dX4_keep_12 : decode cX4_keep 12 = .ok (.getfield 12, 3) := by decide +kernel
theorem dX4_keep_15 : decode cX4_keep 15 = .ok (.aload_n 0, 1) := by decide +kernel
theorem dX4_keep_16 : decode cX4_keep 16 = .ok (.getfield 30, 3) := by decide +kernel
theorem dX4_keep_19 : decode cX4_keep 19 = .ok (.iload_n 1, 1) := by decide +kernel
theorem dX4_keep_20 : decode cX4_keep 20 = .ok (.aaload, 1) := by decide +kernel
theorem dX4_keep_21 : decode cX4_keep 21 = .ok (.invokestatic 69, 3) := by decide +kernel
theorem dX4_keep_24 : decode cX4_keep 24 = .ok (.aload_n 0, 1) := by decide +kernel
theorem dX4_keep_25 : decode cX4_keep 25 = .ok (.getfield 33, 3) := by decide +kernel
theorem dX4_keep_28 : decode cX4_keep 28 = .ok (.iload_n 1, 1) := by decide +kernel
theorem dX4_keep_29 : decode cX4_keep 29 = .ok (.iconst 1, 1) := by decide +kernel
theorem dX4_keep_30 : decode cX4_keep 30 = .ok (.bastore, 1) := by decide +kernel
theorem dX4_keep_31 : decode cX4_keep 31 = .ok (.aload_n 0, 1) := by decide +kernel
theorem dX4_keep_32 : decode cX4_keep 32 = .ok (.getfield 12, 3) := by decide +kernel
theorem dX4_keep_35 : decode cX4_keep 35 = .ok (.getfield 89, 3) := by decide +kernel
theorem dX4_keep_38 : decode cX4_keep 38 = .ok (.ireturn, 1) := by decide +kernel
theorem dX4_back_0 : decode cX4_back 0 = .ok (.iload_n 1, 1) := by decide +kernel
theorem dX4_back_1 : decode cX4_back 1 = .ok (.ifCond .lt 8, 3) := by decide +kernel
theorem dX4_back_4 : decode cX4_back 4 = .ok (.iload_n 1, 1) := by decide +kernel
theorem dX4_back_5 : decode cX4_back 5 = .ok (.iconst 2, 1) := by decide +kernel
theorem dX4_back_6 : decode cX4_back 6 = .ok (.if_icmp .lt 5, 3) := by decide +kernel
theorem dX4_back_9 : decode cX4_back 9 = .ok (.iconst (-1), 1) := by decide +kernel
theorem dX4_back_10 : decode cX4_back 10 = .ok (.ireturn, 1) := by decide +kernel
theorem dX4_back_11 : decode cX4_back 11 = .ok (.aload_n 0, 1) := by decide +kernel
theorem dX4_back_12 : decode cX4_back 12 = .ok (.getfield 33, 3) := by decide +kernel
theorem dX4_back_15 : decode cX4_back 15 = .ok (.iload_n 1, 1) := by decide +kernel
theorem dX4_back_16 : decode cX4_back 16 = .ok (.baload, 1) := by decide +kernel
theorem dX4_back_17 : decode cX4_back 17 = .ok (.ifCond .ne 6, 3) := by decide +kernel
theorem dX4_back_20 : decode cX4_back 20 = .ok (.bipush (-2), 2) := by decide +kernel
theorem dX4_back_22 : decode cX4_back 22 = .ok (.ireturn, 1) := by decide +kernel
theorem dX4_back_23 : decode cX4_back 23 = .ok (.aload_n 0, 1) := by decide +kernel
theorem dX4_back_24 : decode cX4_back 24 = .ok (.getfield 30, 3) := by decide +kernel
theorem dX4_back_27 : decode cX4_back 27 = .ok (.iload_n 1, 1) := by decide +kernel
theorem dX4_back_28 : decode cX4_back 28 = .ok (.aaload, 1) := by decide +kernel
theorem dX4_back_29 : decode cX4_back 29 = .ok (.aload_n 0, 1) := by decide +kernel
theorem dX4_back_30 : decode cX4_back 30 = .ok (.getfield 12, 3) := by decide +kernel
theorem dX4_back_33 : decode cX4_back 33 = .ok (.invokestatic 69, 3) := by decide +kernel
theorem dX4_back_36 : decode cX4_back 36 = .ok (.aload_n 0, 1) := by decide +kernel
theorem dX4_back_37 : decode cX4_back 37 = .ok (.iconst 0, 1) := by decide +kernel
theorem dX4_back_38 : decode cX4_back 38 = .ok (.putfield 73, 3) := by decide +kernel
theorem dX4_back_41 : decode cX4_back 41 = .ok (.aload_n 0, 1) := by decide +kernel
theorem dX4_back_42 : decode cX4_back 42 = .ok (.getfield 12, 3) := by decide +kernel
theorem dX4_back_45 : decode cX4_back 45 = .ok (.getfield 89, 3) := by decide +kernel
theorem dX4_back_48 : decode cX4_back 48 = .ok (.ireturn, 1) := by decide +kernel
theorem dX4_count_0 : decode cX4_count 0 = .ok (.iload_n 1, 1) := by decide +kernel
theorem dX4_count_1 : decode cX4_count 1 = .ok (.tableswitch 93 0 6 #[43, 51, 62, 70, 75, 80, 88], 43) := by decide +kernel
theorem dX4_count_44 : decode cX4_count 44 = .ok (.aload_n 0, 1) := by decide +kernel
theorem dX4_count_45 : decode cX4_count 45 = .ok (.getfield 12, 3) := by decide +kernel
theorem dX4_count_48 : decode cX4_count 48 = .ok (.getfield 89, 3) := by decide +kernel
theorem dX4_count_51 : decode cX4_count 51 = .ok (.ireturn, 1) := by decide +kernel
theorem dX4_count_52 : decode cX4_count 52 = .ok (.aload_n 0, 1) := by decide +kernel
theorem dX4_count_53 : decode cX4_count 53 = .ok (.getfield 12, 3) := by decide +kernel
theorem dX4_count_56 : decode cX4_count 56 = .ok (.getfield 105, 3) := by decide +kernel
theorem dX4_count_59 : decode cX4_count 59 = .ok (.invokestatic 108, 3) := by decide +kernel
theorem dX4_count_62 : decode cX4_count 62 = .ok (.ireturn, 1) := by decide +kernel
theorem dX4_count_63 : decode cX4_count 63 = .ok (.aload_n 0, 1) := by decide +kernel
theorem dX4_count_64 : decode cX4_count 64 = .ok (.getfield 12, 3) := by decide +kernel
theorem dX4_count_67 : decode cX4_count 67 = .ok (.getfield 282, 3) := by decide +kernel
theorem dX4_count_70 : decode cX4_count 70 = .ok (.ireturn, 1) := by decide +kernel
theorem dX4_count_71 : decode cX4_count 71 = .ok (.aload_n 0, 1) := by decide +kernel
theorem dX4_count_72 : decode cX4_count 72 = .ok (.getfield 37, 3) := by decide +kernel
theorem dX4_count_75 : decode cX4_count 75 = .ok (.ireturn, 1) := by decide +kernel
theorem dX4_count_76 : decode cX4_count 76 = .ok (.aload_n 0, 1) := by decide +kernel
theorem dX4_count_77 : decode cX4_count 77 = .ok (.getfield 76, 3) := by decide +kernel
theorem dX4_count_80 : decode cX4_count 80 = .ok (.ireturn, 1) := by decide +kernel
theorem dX4_count_81 : decode cX4_count 81 = .ok (.aload_n 0, 1) := by decide +kernel
theorem dX4_count_82 : decode cX4_count 82 = .ok (.getfield 22, 3) := by decide +kernel
theorem dX4_count_85 : decode cX4_count 85 = .ok (.getfield 62, 3) := by decide +kernel
theorem dX4_count_88 : decode cX4_count 88 = .ok (.ireturn, 1) := by decide +kernel
theorem dX4_count_89 : decode cX4_count 89 = .ok (.aload_n 0, 1) := by decide +kernel
theorem dX4_count_90 : decode cX4_count 90 = .ok (.getfield 73, 3) := by decide +kernel
theorem dX4_count_93 : decode cX4_count 93 = .ok (.ireturn, 1) := by decide +kernel
theorem dX4_count_94 : decode cX4_count 94 = .ok (.iconst (-1), 1) := by decide +kernel
theorem dX4_count_95 : decode cX4_count 95 = .ok (.ireturn, 1) := by decide +kernel
theorem dX4_isPlace_0 : decode cX4_isPlace 0 = .ok (.iload_n 0, 1) := by decide +kernel
theorem dX4_isPlace_1 : decode cX4_isPlace 1 = .ok (.bipush (-9), 2) := by decide +kernel
theorem dX4_isPlace_3 : decode cX4_isPlace 3 = .ok (.if_icmp .lt 25, 3) := by decide +kernel
theorem dX4_isPlace_6 : decode cX4_isPlace 6 = .ok (.iload_n 0, 1) := by decide +kernel
theorem dX4_isPlace_7 : decode cX4_isPlace 7 = .ok (.bipush 9, 2) := by decide +kernel
theorem dX4_isPlace_9 : decode cX4_isPlace 9 = .ok (.if_icmp .gt 19, 3) := by decide +kernel
theorem dX4_isPlace_12 : decode cX4_isPlace 12 = .ok (.iload_n 1, 1) := by decide +kernel
theorem dX4_isPlace_13 : decode cX4_isPlace 13 = .ok (.bipush (-9), 2) := by decide +kernel
theorem dX4_isPlace_15 : decode cX4_isPlace 15 = .ok (.if_icmp .lt 13, 3) := by decide +kernel
theorem dX4_isPlace_18 : decode cX4_isPlace 18 = .ok (.iload_n 1, 1) := by decide +kernel
theorem dX4_isPlace_19 : decode cX4_isPlace 19 = .ok (.bipush 9, 2) := by decide +kernel
theorem dX4_isPlace_21 : decode cX4_isPlace 21 = .ok (.if_icmp .gt 7, 3) := by decide +kernel
theorem dX4_isPlace_24 : decode cX4_isPlace 24 = .ok (.iconst 1, 1) := by decide +kernel
theorem dX4_isPlace_25 : decode cX4_isPlace 25 = .ok (.goto 4, 3) := by decide +kernel
theorem dX4_isPlace_28 : decode cX4_isPlace 28 = .ok (.iconst 0, 1) := by decide +kernel
theorem dX4_isPlace_29 : decode cX4_isPlace 29 = .ok (.ireturn, 1) := by decide +kernel
theorem dX4_isPileKind_0 : decode cX4_isPileKind 0 = .ok (.iload_n 0, 1) := by decide +kernel
theorem dX4_isPileKind_1 : decode cX4_isPileKind 1 = .ok (.iconst 1, 1) := by decide +kernel
theorem dX4_isPileKind_2 : decode cX4_isPileKind 2 = .ok (.if_icmp .lt 24, 3) := by decide +kernel
theorem dX4_isPileKind_5 : decode cX4_isPileKind 5 = .ok (.iload_n 0, 1) := by decide +kernel
theorem dX4_isPileKind_6 : decode cX4_isPileKind 6 = .ok (.bipush 9, 2) := by decide +kernel
theorem dX4_isPileKind_8 : decode cX4_isPileKind 8 = .ok (.if_icmp .gt 18, 3) := by decide +kernel
theorem dX4_isPileKind_11 : decode cX4_isPileKind 11 = .ok (.iload_n 1, 1) := by decide +kernel
theorem dX4_isPileKind_12 : decode cX4_isPileKind 12 = .ok (.iconst 1, 1) := by decide +kernel
theorem dX4_isPileKind_13 : decode cX4_isPileKind 13 = .ok (.if_icmp .lt 13, 3) := by decide +kernel
theorem dX4_isPileKind_16 : decode cX4_isPileKind 16 = .ok (.iload_n 1, 1) := by decide +kernel
theorem dX4_isPileKind_17 : decode cX4_isPileKind 17 = .ok (.bipush 99, 2) := by decide +kernel
theorem dX4_isPileKind_19 : decode cX4_isPileKind 19 = .ok (.if_icmp .gt 7, 3) := by decide +kernel
theorem dX4_isPileKind_22 : decode cX4_isPileKind 22 = .ok (.iconst 1, 1) := by decide +kernel
theorem dX4_isPileKind_23 : decode cX4_isPileKind 23 = .ok (.goto 4, 3) := by decide +kernel
theorem dX4_isPileKind_26 : decode cX4_isPileKind 26 = .ok (.iconst 0, 1) := by decide +kernel
theorem dX4_isPileKind_27 : decode cX4_isPileKind 27 = .ok (.ireturn, 1) := by decide +kernel
theorem dX4_isPile_0 : decode cX4_isPile 0 = .ok (.iload_n 1, 1) := by decide +kernel
theorem dX4_isPile_1 : decode cX4_isPile 1 = .ok (.ifCond .lt 18, 3) := by decide +kernel
theorem dX4_isPile_4 : decode cX4_isPile 4 = .ok (.iload_n 1, 1) := by decide +kernel
theorem dX4_isPile_5 : decode cX4_isPile 5 = .ok (.aload_n 0, 1) := by decide +kernel
theorem dX4_isPile_6 : decode cX4_isPile 6 = .ok (.getfield 12, 3) := by decide +kernel
theorem dX4_isPile_9 : decode cX4_isPile 9 = .ok (.getfield 89, 3) := by decide +kernel
theorem dX4_isPile_12 : decode cX4_isPile 12 = .ok (.if_icmp .ge 7, 3) := by decide +kernel
theorem dX4_isPile_15 : decode cX4_isPile 15 = .ok (.iconst 1, 1) := by decide +kernel
theorem dX4_isPile_16 : decode cX4_isPile 16 = .ok (.goto 4, 3) := by decide +kernel
theorem dX4_isPile_19 : decode cX4_isPile 19 = .ok (.iconst 0, 1) := by decide +kernel
theorem dX4_isPile_20 : decode cX4_isPile 20 = .ok (.ireturn, 1) := by decide +kernel
theorem dX4_isColumn_0 : decode cX4_isColumn 0 = .ok (.iload_n 1, 1) := by decide +kernel
theorem dX4_isColumn_1 : decode cX4_isColumn 1 = .ok (.ifCond .lt 18, 3) := by decide +kernel
theorem dX4_isColumn_4 : decode cX4_isColumn 4 = .ok (.iload_n 1, 1) := by decide +kernel
theorem dX4_isColumn_5 : decode cX4_isColumn 5 = .ok (.aload_n 0, 1) := by decide +kernel
theorem dX4_isColumn_6 : decode cX4_isColumn 6 = .ok (.getfield 12, 3) := by decide +kernel
theorem dX4_isColumn_9 : decode cX4_isColumn 9 = .ok (.getfield 282, 3) := by decide +kernel
theorem dX4_isColumn_12 : decode cX4_isColumn 12 = .ok (.if_icmp .ge 7, 3) := by decide +kernel
theorem dX4_isColumn_15 : decode cX4_isColumn 15 = .ok (.iconst 1, 1) := by decide +kernel
theorem dX4_isColumn_16 : decode cX4_isColumn 16 = .ok (.goto 4, 3) := by decide +kernel
theorem dX4_isColumn_19 : decode cX4_isColumn 19 = .ok (.iconst 0, 1) := by decide +kernel
theorem dX4_isColumn_20 : decode cX4_isColumn 20 = .ok (.ireturn, 1) := by decide +kernel
theorem dX4_xOf_0 : decode cX4_xOf 0 = .ok (.iload_n 0, 1) := by decide +kernel
theorem dX4_xOf_1 : decode cX4_xOf 1 = .ok (.bipush 19, 2) := by decide +kernel
theorem dX4_xOf_3 : decode cX4_xOf 3 = .ok (.idiv, 1) := by decide +kernel
theorem dX4_xOf_4 : decode cX4_xOf 4 = .ok (.bipush 9, 2) := by decide +kernel
theorem dX4_xOf_6 : decode cX4_xOf 6 = .ok (.isub, 1) := by decide +kernel
theorem dX4_xOf_7 : decode cX4_xOf 7 = .ok (.ireturn, 1) := by decide +kernel
theorem dX4_yOf_0 : decode cX4_yOf 0 = .ok (.iload_n 0, 1) := by decide +kernel
theorem dX4_yOf_1 : decode cX4_yOf 1 = .ok (.bipush 19, 2) := by decide +kernel
theorem dX4_yOf_3 : decode cX4_yOf 3 = .ok (.irem, 1) := by decide +kernel
theorem dX4_yOf_4 : decode cX4_yOf 4 = .ok (.bipush 9, 2) := by decide +kernel
theorem dX4_yOf_6 : decode cX4_yOf 6 = .ok (.isub, 1) := by decide +kernel
theorem dX4_yOf_7 : decode cX4_yOf 7 = .ok (.ireturn, 1) := by decide +kernel
theorem dX4_record_0 : decode cX4_record 0 = .ok (.aload_n 0, 1) := by decide +kernel
theorem dX4_record_1 : decode cX4_record 1 = .ok (.getfield 73, 3) := by decide +kernel
theorem dX4_record_4 : decode cX4_record 4 = .ok (.bipush 6, 2) := by decide +kernel
theorem dX4_record_6 : decode cX4_record 6 = .ok (.if_icmp .lt 50, 3) := by decide +kernel
theorem dX4_record_9 : decode cX4_record 9 = .ok (.aload_n 0, 1) := by decide +kernel
theorem dX4_record_10 : decode cX4_record 10 = .ok (.getfield 26, 3) := by decide +kernel
theorem dX4_record_13 : decode cX4_record 13 = .ok (.iconst 0, 1) := by decide +kernel
theorem dX4_record_14 : decode cX4_record 14 = .ok (.aaload, 1) := by decide +kernel
theorem dX4_record_15 : decode cX4_record 15 = .ok (.astore_n 1, 1) := by decide +kernel
theorem dX4_record_16 : decode cX4_record 16 = .ok (.iconst 1, 1) := by decide +kernel
theorem dX4_record_17 : decode cX4_record 17 = .ok (.istore_n 2, 1) := by decide +kernel
theorem dX4_record_18 : decode cX4_record 18 = .ok (.iload_n 2, 1) := by decide +kernel
theorem dX4_record_19 : decode cX4_record 19 = .ok (.bipush 6, 2) := by decide +kernel
theorem dX4_record_21 : decode cX4_record 21 = .ok (.if_icmp .ge 23, 3) := by decide +kernel
theorem dX4_record_24 : decode cX4_record 24 = .ok (.aload_n 0, 1) := by decide +kernel
theorem dX4_record_25 : decode cX4_record 25 = .ok (.getfield 26, 3) := by decide +kernel
theorem dX4_record_28 : decode cX4_record 28 = .ok (.iload_n 2, 1) := by decide +kernel
theorem dX4_record_29 : decode cX4_record 29 = .ok (.iconst 1, 1) := by decide +kernel
theorem dX4_record_30 : decode cX4_record 30 = .ok (.isub, 1) := by decide +kernel
theorem dX4_record_31 : decode cX4_record 31 = .ok (.aload_n 0, 1) := by decide +kernel
theorem dX4_record_32 : decode cX4_record 32 = .ok (.getfield 26, 3) := by decide +kernel
theorem dX4_record_35 : decode cX4_record 35 = .ok (.iload_n 2, 1) := by decide +kernel
theorem dX4_record_36 : decode cX4_record 36 = .ok (.aaload, 1) := by decide +kernel
theorem dX4_record_37 : decode cX4_record 37 = .ok (.aastore, 1) := by decide +kernel
theorem dX4_record_38 : decode cX4_record 38 = .ok (.iinc 2 1, 3) := by decide +kernel
theorem dX4_record_41 : decode cX4_record 41 = .ok (.goto (-23), 3) := by decide +kernel
theorem dX4_record_44 : decode cX4_record 44 = .ok (.aload_n 0, 1) := by decide +kernel
theorem dX4_record_45 : decode cX4_record 45 = .ok (.getfield 26, 3) := by decide +kernel
theorem dX4_record_48 : decode cX4_record 48 = .ok (.iconst 5, 1) := by decide +kernel
theorem dX4_record_49 : decode cX4_record 49 = .ok (.aload_n 1, 1) := by decide +kernel
theorem dX4_record_50 : decode cX4_record 50 = .ok (.aastore, 1) := by decide +kernel
theorem dX4_record_51 : decode cX4_record 51 = .ok (.aload_n 0, 1) := by decide +kernel
theorem dX4_record_52 : decode cX4_record 52 = .ok (.iconst 5, 1) := by decide +kernel
theorem dX4_record_53 : decode cX4_record 53 = .ok (.putfield 73, 3) := by decide +kernel
theorem dX4_record_56 : decode cX4_record 56 = .ok (.aload_n 0, 1) := by decide +kernel
theorem dX4_record_57 : decode cX4_record 57 = .ok (.getfield 12, 3) := by decide +kernel
theorem dX4_record_60 : decode cX4_record 60 = .ok (.aload_n 0, 1) := by decide +kernel
theorem dX4_record_61 : decode cX4_record 61 = .ok (.getfield 26, 3) := by decide +kernel
theorem dX4_record_64 : decode cX4_record 64 = .ok (.aload_n 0, 1) := by decide +kernel
theorem dX4_record_65 : decode cX4_record 65 = .ok (.getfield 73, 3) := by decide +kernel
theorem dX4_record_68 : decode cX4_record 68 = .ok (.aaload, 1) := by decide +kernel
theorem dX4_record_69 : decode cX4_record 69 = .ok (.invokestatic 69, 3) := by decide +kernel
theorem dX4_record_72 : decode cX4_record 72 = .ok (.aload_n 0, 1) := by decide +kernel
theorem dX4_record_73 : decode cX4_record 73 = .ok (.dup, 1) := by decide +kernel
theorem dX4_record_74 : decode cX4_record 74 = .ok (.getfield 73, 3) := by decide +kernel
theorem dX4_record_77 : decode cX4_record 77 = .ok (.iconst 1, 1) := by decide +kernel
theorem dX4_record_78 : decode cX4_record 78 = .ok (.iadd, 1) := by decide +kernel
theorem dX4_record_79 : decode cX4_record 79 = .ok (.putfield 73, 3) := by decide +kernel
theorem dX4_record_82 : decode cX4_record 82 = .ok (.return_, 1) := by decide +kernel
theorem dX4_dropSights_0 : decode cX4_dropSights 0 = .ok (.aload_n 0, 1) := by decide +kernel
theorem dX4_dropSights_1 : decode cX4_dropSights 1 = .ok (.getfield 76, 3) := by decide +kernel
theorem dX4_dropSights_4 : decode cX4_dropSights 4 = .ok (.istore_n 1, 1) := by decide +kernel
theorem dX4_dropSights_5 : decode cX4_dropSights 5 = .ok (.aload_n 0, 1) := by decide +kernel
theorem dX4_dropSights_6 : decode cX4_dropSights 6 = .ok (.iconst 0, 1) := by decide +kernel
theorem dX4_dropSights_7 : decode cX4_dropSights 7 = .ok (.putfield 76, 3) := by decide +kernel
theorem dX4_dropSights_10 : decode cX4_dropSights 10 = .ok (.iload_n 1, 1) := by decide +kernel
theorem dX4_dropSights_11 : decode cX4_dropSights 11 = .ok (.ireturn, 1) := by decide +kernel
theorem dX4_takePresent_0 : decode cX4_takePresent 0 = .ok (.aload_n 0, 1) := by decide +kernel
theorem dX4_takePresent_1 : decode cX4_takePresent 1 = .ok (.getfield 54, 3) := by decide +kernel
theorem dX4_takePresent_4 : decode cX4_takePresent 4 = .ok (.aload_n 0, 1) := by decide +kernel
theorem dX4_takePresent_5 : decode cX4_takePresent 5 = .ok (.getfield 12, 3) := by decide +kernel
theorem dX4_takePresent_8 : decode cX4_takePresent 8 = .ok (.invokevirtual 263, 3) := by decide +kernel
theorem dX4_takePresent_11 : decode cX4_takePresent 11 = .ok (.aload_n 0, 1) := by decide +kernel
theorem dX4_takePresent_12 : decode cX4_takePresent 12 = .ok (.getfield 54, 3) := by decide +kernel
theorem dX4_takePresent_15 : decode cX4_takePresent 15 = .ok (.aload_n 0, 1) := by decide +kernel
theorem dX4_takePresent_16 : decode cX4_takePresent 16 = .ok (.getfield 12, 3) := by decide +kernel
theorem dX4_takePresent_19 : decode cX4_takePresent 19 = .ok (.invokevirtual 158, 3) := by decide +kernel
theorem dX4_takePresent_22 : decode cX4_takePresent 22 = .ok (.i2l, 1) := by decide +kernel
theorem dX4_takePresent_23 : decode cX4_takePresent 23 = .ok (.aload_n 0, 1) := by decide +kernel
theorem dX4_takePresent_24 : decode cX4_takePresent 24 = .ok (.getfield 12, 3) := by decide +kernel
theorem dX4_takePresent_27 : decode cX4_takePresent 27 = .ok (.invokevirtual 162, 3) := by decide +kernel
theorem dX4_takePresent_30 : decode cX4_takePresent 30 = .ok (.i2l, 1) := by decide +kernel
theorem dX4_takePresent_31 : decode cX4_takePresent 31 = .ok (.aload_n 0, 1) := by decide +kernel
theorem dX4_takePresent_32 : decode cX4_takePresent 32 = .ok (.getfield 12, 3) := by decide +kernel
theorem dX4_takePresent_35 : decode cX4_takePresent 35 = .ok (.invokevirtual 165, 3) := by decide +kernel
theorem dX4_takePresent_38 : decode cX4_takePresent 38 = .ok (.i2l, 1) := by decide +kernel
theorem dX4_takePresent_39 : decode cX4_takePresent 39 = .ok (.invokevirtual 285, 3) := by decide +kernel
theorem dX4_takePresent_42 : decode cX4_takePresent 42 = .ok (.return_, 1) := by decide +kernel
theorem dX4_spreadPresent_0 : decode cX4_spreadPresent 0 = .ok (.aload_n 0, 1) := by decide +kernel
theorem dX4_spreadPresent_1 : decode cX4_spreadPresent 1 = .ok (.invokevirtual 230, 3) := by decide +kernel
theorem dX4_spreadPresent_4 : decode cX4_spreadPresent 4 = .ok (.aload_n 0, 1) := by decide +kernel
theorem dX4_spreadPresent_5 : decode cX4_spreadPresent 5 = .ok (.getfield 54, 3) := by decide +kernel
theorem dX4_spreadPresent_8 : decode cX4_spreadPresent 8 = .ok (.aload_n 0, 1) := by decide +kernel
theorem dX4_spreadPresent_9 : decode cX4_spreadPresent 9 = .ok (.getfield 12, 3) := by decide +kernel
theorem dX4_spreadPresent_12 : decode cX4_spreadPresent 12 = .ok (.getfield 105, 3) := by decide +kernel
theorem dX4_spreadPresent_15 : decode cX4_spreadPresent 15 = .ok (.invokevirtual 233, 3) := by decide +kernel
theorem dX4_spreadPresent_18 : decode cX4_spreadPresent 18 = .ok (.return_, 1) := by decide +kernel
theorem dX4_bracePresent_0 : decode cX4_bracePresent 0 = .ok (.aload_n 0, 1) := by decide +kernel
theorem dX4_bracePresent_1 : decode cX4_bracePresent 1 = .ok (.getfield 54, 3) := by decide +kernel
theorem dX4_bracePresent_4 : decode cX4_bracePresent 4 = .ok (.aload_n 0, 1) := by decide +kernel
theorem dX4_bracePresent_5 : decode cX4_bracePresent 5 = .ok (.getfield 12, 3) := by decide +kernel
theorem dX4_bracePresent_8 : decode cX4_bracePresent 8 = .ok (.invokevirtual 263, 3) := by decide +kernel
theorem dX4_bracePresent_11 : decode cX4_bracePresent 11 = .ok (.aload_n 0, 1) := by decide +kernel
theorem dX4_bracePresent_12 : decode cX4_bracePresent 12 = .ok (.getfield 54, 3) := by decide +kernel
theorem dX4_bracePresent_15 : decode cX4_bracePresent 15 = .ok (.aload_n 0, 1) := by decide +kernel
theorem dX4_bracePresent_16 : decode cX4_bracePresent 16 = .ok (.getfield 12, 3) := by decide +kernel
theorem dX4_bracePresent_19 : decode cX4_bracePresent 19 = .ok (.getfield 105, 3) := by decide +kernel
theorem dX4_bracePresent_22 : decode cX4_bracePresent 22 = .ok (.invokevirtual 289, 3) := by decide +kernel
theorem dX4_bracePresent_25 : decode cX4_bracePresent 25 = .ok (.ireturn, 1) := by decide +kernel
theorem dX4_greatestUse_0 : decode cX4_greatestUse 0 = .ok (.aload_n 0, 1) := by decide +kernel
theorem dX4_greatestUse_1 : decode cX4_greatestUse 1 = .ok (.getfield 54, 3) := by decide +kernel
theorem dX4_greatestUse_4 : decode cX4_greatestUse 4 = .ok (.getfield 149, 3) := by decide +kernel
theorem dX4_greatestUse_7 : decode cX4_greatestUse 7 = .ok (.ifCond .ne 7, 3) := by decide +kernel
theorem dX4_greatestUse_10 : decode cX4_greatestUse 10 = .ok (.ldc2_w 156, 3) := by decide +kernel
theorem dX4_greatestUse_13 : decode cX4_greatestUse 13 = .ok (.lreturn, 1) := by decide +kernel
theorem dX4_greatestUse_14 : decode cX4_greatestUse 14 = .ok (.iload_n 1, 1) := by decide +kernel
theorem dX4_greatestUse_15 : decode cX4_greatestUse 15 = .ok (.iconst 2, 1) := by decide +kernel
theorem dX4_greatestUse_16 : decode cX4_greatestUse 16 = .ok (.if_icmp .ne 14, 3) := by decide +kernel
theorem dX4_greatestUse_19 : decode cX4_greatestUse 19 = .ok (.aload_n 0, 1) := by decide +kernel
theorem dX4_greatestUse_20 : decode cX4_greatestUse 20 = .ok (.getfield 54, 3) := by decide +kernel
theorem dX4_greatestUse_23 : decode cX4_greatestUse 23 = .ok (.getfield 292, 3) := by decide +kernel
theorem dX4_greatestUse_26 : decode cX4_greatestUse 26 = .ok (.i2l, 1) := by decide +kernel
theorem dX4_greatestUse_27 : decode cX4_greatestUse 27 = .ok (.goto 21, 3) := by decide +kernel
theorem dX4_greatestUse_30 : decode cX4_greatestUse 30 = .ok (.aload_n 0, 1) := by decide +kernel
theorem dX4_greatestUse_31 : decode cX4_greatestUse 31 = .ok (.getfield 54, 3) := by decide +kernel
theorem dX4_greatestUse_34 : decode cX4_greatestUse 34 = .ok (.invokevirtual 209, 3) := by decide +kernel
theorem dX4_greatestUse_37 : decode cX4_greatestUse 37 = .ok (.aload_n 0, 1) := by decide +kernel
theorem dX4_greatestUse_38 : decode cX4_greatestUse 38 = .ok (.getfield 54, 3) := by decide +kernel
theorem dX4_greatestUse_41 : decode cX4_greatestUse 41 = .ok (.invokevirtual 212, 3) := by decide +kernel
theorem dX4_greatestUse_44 : decode cX4_greatestUse 44 = .ok (.iload_n 1, 1) := by decide +kernel
theorem dX4_greatestUse_45 : decode cX4_greatestUse 45 = .ok (.invokestatic 190, 3) := by decide +kernel
theorem dX4_greatestUse_48 : decode cX4_greatestUse 48 = .ok (.lreturn, 1) := by decide +kernel
theorem dX4_standsOn_0 : decode cX4_standsOn 0 = .ok (.aload_n 0, 1) := by decide +kernel
theorem dX4_standsOn_1 : decode cX4_standsOn 1 = .ok (.getfield 54, 3) := by decide +kernel
theorem dX4_standsOn_4 : decode cX4_standsOn 4 = .ok (.iload_n 1, 1) := by decide +kernel
theorem dX4_standsOn_5 : decode cX4_standsOn 5 = .ok (.invokevirtual 241, 3) := by decide +kernel
theorem dX4_standsOn_8 : decode cX4_standsOn 8 = .ok (.aload_n 0, 1) := by decide +kernel
theorem dX4_standsOn_9 : decode cX4_standsOn 9 = .ok (.getfield 54, 3) := by decide +kernel
theorem dX4_standsOn_12 : decode cX4_standsOn 12 = .ok (.invokevirtual 247, 3) := by decide +kernel
theorem dX4_standsOn_15 : decode cX4_standsOn 15 = .ok (.aload_n 0, 1) := by decide +kernel
theorem dX4_standsOn_16 : decode cX4_standsOn 16 = .ok (.getfield 54, 3) := by decide +kernel
theorem dX4_standsOn_19 : decode cX4_standsOn 19 = .ok (.getfield 149, 3) := by decide +kernel
theorem dX4_standsOn_22 : decode cX4_standsOn 22 = .ok (.ifCond .eq 25, 3) := by decide +kernel
theorem dX4_standsOn_25 : decode cX4_standsOn 25 = .ok (.aload_n 0, 1) := by decide +kernel
theorem dX4_standsOn_26 : decode cX4_standsOn 26 = .ok (.getfield 54, 3) := by decide +kernel
theorem dX4_standsOn_29 : decode cX4_standsOn 29 = .ok (.invokevirtual 209, 3) := by decide +kernel
theorem dX4_standsOn_32 : decode cX4_standsOn 32 = .ok (.aload_n 0, 1) := by decide +kernel
theorem dX4_standsOn_33 : decode cX4_standsOn 33 = .ok (.getfield 54, 3) := by decide +kernel
theorem dX4_standsOn_36 : decode cX4_standsOn 36 = .ok (.invokevirtual 212, 3) := by decide +kernel
theorem dX4_standsOn_39 : decode cX4_standsOn 39 = .ok (.lcmp, 1) := by decide +kernel
theorem dX4_standsOn_40 : decode cX4_standsOn 40 = .ok (.ifCond .gt 7, 3) := by decide +kernel
theorem dX4_standsOn_43 : decode cX4_standsOn 43 = .ok (.iconst 1, 1) := by decide +kernel
theorem dX4_standsOn_44 : decode cX4_standsOn 44 = .ok (.goto 4, 3) := by decide +kernel
theorem dX4_standsOn_47 : decode cX4_standsOn 47 = .ok (.iconst 0, 1) := by decide +kernel
theorem dX4_standsOn_48 : decode cX4_standsOn 48 = .ok (.ireturn, 1) := by decide +kernel
theorem dX4_isSpot_0 : decode cX4_isSpot 0 = .ok (.aload_n 0, 1) := by decide +kernel
theorem dX4_isSpot_1 : decode cX4_isSpot 1 = .ok (.getfield 54, 3) := by decide +kernel
theorem dX4_isSpot_4 : decode cX4_isSpot 4 = .ok (.aload_n 0, 1) := by decide +kernel
theorem dX4_isSpot_5 : decode cX4_isSpot 5 = .ok (.getfield 37, 3) := by decide +kernel
theorem dX4_isSpot_8 : decode cX4_isSpot 8 = .ok (.i2l, 1) := by decide +kernel
theorem dX4_isSpot_9 : decode cX4_isSpot 9 = .ok (.aload_n 0, 1) := by decide +kernel
theorem dX4_isSpot_10 : decode cX4_isSpot 10 = .ok (.getfield 37, 3) := by decide +kernel
theorem dX4_isSpot_13 : decode cX4_isSpot 13 = .ok (.iload_n 1, 1) := by decide +kernel
theorem dX4_isSpot_14 : decode cX4_isSpot 14 = .ok (.invokestatic 222, 3) := by decide +kernel
theorem dX4_isSpot_17 : decode cX4_isSpot 17 = .ok (.imul, 1) := by decide +kernel
theorem dX4_isSpot_18 : decode cX4_isSpot 18 = .ok (.i2l, 1) := by decide +kernel
theorem dX4_isSpot_19 : decode cX4_isSpot 19 = .ok (.aload_n 0, 1) := by decide +kernel
theorem dX4_isSpot_20 : decode cX4_isSpot 20 = .ok (.getfield 37, 3) := by decide +kernel
theorem dX4_isSpot_23 : decode cX4_isSpot 23 = .ok (.iload_n 1, 1) := by decide +kernel
theorem dX4_isSpot_24 : decode cX4_isSpot 24 = .ok (.invokestatic 225, 3) := by decide +kernel
theorem dX4_isSpot_27 : decode cX4_isSpot 27 = .ok (.imul, 1) := by decide +kernel
theorem dX4_isSpot_28 : decode cX4_isSpot 28 = .ok (.i2l, 1) := by decide +kernel
theorem dX4_isSpot_29 : decode cX4_isSpot 29 = .ok (.invokevirtual 285, 3) := by decide +kernel
theorem dX4_isSpot_32 : decode cX4_isSpot 32 = .ok (.aload_n 0, 1) := by decide +kernel
theorem dX4_isSpot_33 : decode cX4_isSpot 33 = .ok (.getfield 54, 3) := by decide +kernel
theorem dX4_isSpot_36 : decode cX4_isSpot 36 = .ok (.invokevirtual 247, 3) := by decide +kernel
theorem dX4_isSpot_39 : decode cX4_isSpot 39 = .ok (.aload_n 0, 1) := by decide +kernel
theorem dX4_isSpot_40 : decode cX4_isSpot 40 = .ok (.getfield 54, 3) := by decide +kernel
theorem dX4_isSpot_43 : decode cX4_isSpot 43 = .ok (.getfield 149, 3) := by decide +kernel
theorem dX4_isSpot_46 : decode cX4_isSpot 46 = .ok (.ifCond .ne 5, 3) := by decide +kernel
theorem dX4_isSpot_49 : decode cX4_isSpot 49 = .ok (.iconst 0, 1) := by decide +kernel
theorem dX4_isSpot_50 : decode cX4_isSpot 50 = .ok (.ireturn, 1) := by decide +kernel
theorem dX4_isSpot_51 : decode cX4_isSpot 51 = .ok (.iconst 0, 1) := by decide +kernel
theorem dX4_isSpot_52 : decode cX4_isSpot 52 = .ok (.istore_n 2, 1) := by decide +kernel
theorem dX4_isSpot_53 : decode cX4_isSpot 53 = .ok (.iload_n 2, 1) := by decide +kernel
theorem dX4_isSpot_54 : decode cX4_isSpot 54 = .ok (.aload_n 0, 1) := by decide +kernel
theorem dX4_isSpot_55 : decode cX4_isSpot 55 = .ok (.getfield 76, 3) := by decide +kernel
theorem dX4_isSpot_58 : decode cX4_isSpot 58 = .ok (.if_icmp .ge 35, 3) := by decide +kernel
theorem dX4_isSpot_61 : decode cX4_isSpot 61 = .ok (.aload_n 0, 1) := by decide +kernel
theorem dX4_isSpot_62 : decode cX4_isSpot 62 = .ok (.getfield 54, 3) := by decide +kernel
theorem dX4_isSpot_65 : decode cX4_isSpot 65 = .ok (.aload_n 0, 1) := by decide +kernel
theorem dX4_isSpot_66 : decode cX4_isSpot 66 = .ok (.getfield 41, 3) := by decide +kernel
theorem dX4_isSpot_69 : decode cX4_isSpot 69 = .ok (.iload_n 2, 1) := by decide +kernel
theorem dX4_isSpot_70 : decode cX4_isSpot 70 = .ok (.iaload, 1) := by decide +kernel
theorem dX4_isSpot_71 : decode cX4_isSpot 71 = .ok (.invokevirtual 179, 3) := by decide +kernel
theorem dX4_isSpot_74 : decode cX4_isSpot 74 = .ok (.aload_n 0, 1) := by decide +kernel
theorem dX4_isSpot_75 : decode cX4_isSpot 75 = .ok (.getfield 45, 3) := by decide +kernel
theorem dX4_isSpot_78 : decode cX4_isSpot 78 = .ok (.iload_n 2, 1) := by decide +kernel
theorem dX4_isSpot_79 : decode cX4_isSpot 79 = .ok (.iaload, 1) := by decide +kernel
theorem dX4_isSpot_80 : decode cX4_isSpot 80 = .ok (.i2l, 1) := by decide +kernel
theorem dX4_isSpot_81 : decode cX4_isSpot 81 = .ok (.lcmp, 1) := by decide +kernel
theorem dX4_isSpot_82 : decode cX4_isSpot 82 = .ok (.ifCond .eq 5, 3) := by decide +kernel
theorem dX4_isSpot_85 : decode cX4_isSpot 85 = .ok (.iconst 0, 1) := by decide +kernel
theorem dX4_isSpot_86 : decode cX4_isSpot 86 = .ok (.ireturn, 1) := by decide +kernel
theorem dX4_isSpot_87 : decode cX4_isSpot 87 = .ok (.iinc 2 1, 3) := by decide +kernel
theorem dX4_isSpot_90 : decode cX4_isSpot 90 = .ok (.goto (-37), 3) := by decide +kernel
theorem dX4_isSpot_93 : decode cX4_isSpot 93 = .ok (.iconst 1, 1) := by decide +kernel
theorem dX4_isSpot_94 : decode cX4_isSpot 94 = .ok (.ireturn, 1) := by decide +kernel
theorem dX4_groupShares_0 : decode cX4_groupShares 0 = .ok (.iconst 0, 1) := by decide +kernel
theorem dX4_groupShares_1 : decode cX4_groupShares 1 = .ok (.istore_n 1, 1) := by decide +kernel
theorem dX4_groupShares_2 : decode cX4_groupShares 2 = .ok (.iload_n 1, 1) := by decide +kernel
theorem dX4_groupShares_3 : decode cX4_groupShares 3 = .ok (.aload_n 0, 1) := by decide +kernel
theorem dX4_groupShares_4 : decode cX4_groupShares 4 = .ok (.getfield 12, 3) := by decide +kernel
theorem dX4_groupShares_7 : decode cX4_groupShares 7 = .ok (.getfield 89, 3) := by decide +kernel
theorem dX4_groupShares_10 : decode cX4_groupShares 10 = .ok (.if_icmp .ge 48, 3) := by decide +kernel
theorem dX4_groupShares_13 : decode cX4_groupShares 13 = .ok (.aload_n 0, 1) := by decide +kernel
theorem dX4_groupShares_14 : decode cX4_groupShares 14 = .ok (.getfield 54, 3) := by decide +kernel
theorem dX4_groupShares_17 : decode cX4_groupShares 17 = .ok (.iload_n 1, 1) := by decide +kernel
theorem dX4_groupShares_18 : decode cX4_groupShares 18 = .ok (.invokevirtual 179, 3) := by decide +kernel
theorem dX4_groupShares_21 : decode cX4_groupShares 21 = .ok (.lstore_n 2, 1) := by decide +kernel
theorem dX4_groupShares_22 : decode cX4_groupShares 22 = .ok (.lload_n 2, 1) := by decide +kernel
theorem dX4_groupShares_23 : decode cX4_groupShares 23 = .ok (.lconst 0, 1) := by decide +kernel
theorem dX4_groupShares_24 : decode cX4_groupShares 24 = .ok (.lcmp, 1) := by decide +kernel
theorem dX4_groupShares_25 : decode cX4_groupShares 25 = .ok (.ifCond .lt 27, 3) := by decide +kernel
theorem dX4_groupShares_28 : decode cX4_groupShares 28 = .ok (.lload_n 2, 1) := by decide +kernel
theorem dX4_groupShares_29 : decode cX4_groupShares 29 = .ok (.ldc2_w 295, 3) := by decide +kernel
theorem dX4_groupShares_32 : decode cX4_groupShares 32 = .ok (.lcmp, 1) := by decide +kernel
theorem dX4_groupShares_33 : decode cX4_groupShares 33 = .ok (.ifCond .ge 19, 3) := by decide +kernel
theorem dX4_groupShares_36 : decode cX4_groupShares 36 = .ok (.aload_n 0, 1) := by decide +kernel
theorem dX4_groupShares_37 : decode cX4_groupShares 37 = .ok (.getfield 48, 3) := by decide +kernel
theorem dX4_groupShares_40 : decode cX4_groupShares 40 = .ok (.iload_n 1, 1) := by decide +kernel
theorem dX4_groupShares_41 : decode cX4_groupShares 41 = .ok (.bipush 100, 2) := by decide +kernel
theorem dX4_groupShares_43 : decode cX4_groupShares 43 = .ok (.imul, 1) := by decide +kernel
theorem dX4_groupShares_44 : decode cX4_groupShares 44 = .ok (.lload_n 2, 1) := by decide +kernel
theorem dX4_groupShares_45 : decode cX4_groupShares 45 = .ok (.l2i, 1) := by decide +kernel
theorem dX4_groupShares_46 : decode cX4_groupShares 46 = .ok (.iadd, 1) := by decide +kernel
theorem dX4_groupShares_47 : decode cX4_groupShares 47 = .ok (.dup2, 1) := by decide +kernel
theorem dX4_groupShares_48 : decode cX4_groupShares 48 = .ok (.iaload, 1) := by decide +kernel
theorem dX4_groupShares_49 : decode cX4_groupShares 49 = .ok (.iconst 1, 1) := by decide +kernel
theorem dX4_groupShares_50 : decode cX4_groupShares 50 = .ok (.iadd, 1) := by decide +kernel
theorem dX4_groupShares_51 : decode cX4_groupShares 51 = .ok (.iastore, 1) := by decide +kernel
theorem dX4_groupShares_52 : decode cX4_groupShares 52 = .ok (.iinc 1 1, 3) := by decide +kernel
theorem dX4_groupShares_55 : decode cX4_groupShares 55 = .ok (.goto (-53), 3) := by decide +kernel
theorem dX4_groupShares_58 : decode cX4_groupShares 58 = .ok (.return_, 1) := by decide +kernel
theorem dX4_pileWithSmallestLargestGroup_0 : decode cX4_pileWithSmallestLargestGroup 0 = .ok (.bipush (-9), 2) := by decide +kernel
theorem dX4_pileWithSmallestLargestGroup_2 : decode cX4_pileWithSmallestLargestGroup 2 = .ok (.istore_n 1, 1) := by decide +kernel
theorem dX4_pileWithSmallestLargestGroup_3 : decode cX4_pileWithSmallestLargestGroup 3 = .ok (.iconst 0, 1) := by decide +kernel
theorem dX4_pileWithSmallestLargestGroup_4 : decode cX4_pileWithSmallestLargestGroup 4 = .ok (.istore_n 2, 1) := by decide +kernel
theorem dX4_pileWithSmallestLargestGroup_5 : decode cX4_pileWithSmallestLargestGroup 5 = .ok (.iconst 0, 1) := by decide +kernel
theorem dX4_pileWithSmallestLargestGroup_6 : decode cX4_pileWithSmallestLargestGroup 6 = .ok (.istore_n 3, 1) := by decide +kernel
theorem dX4_pileWithSmallestLargestGroup_7 : decode cX4_pileWithSmallestLargestGroup 7 = .ok (.iload_n 3, 1) := by decide +kernel
theorem dX4_pileWithSmallestLargestGroup_8 : decode cX4_pileWithSmallestLargestGroup 8 = .ok (.aload_n 0, 1) := by decide +kernel
theorem dX4_pileWithSmallestLargestGroup_9 : decode cX4_pileWithSmallestLargestGroup 9 = .ok (.getfield 12, 3) := by decide +kernel
theorem dX4_pileWithSmallestLargestGroup_12 : decode cX4_pileWithSmallestLargestGroup 12 = .ok (.getfield 89, 3) := by decide +kernel
theorem dX4_pileWithSmallestLargestGroup_15 : decode cX4_pileWithSmallestLargestGroup 15 = .ok (.if_icmp .ge 78, 3) := by decide +kernel
theorem dX4_pileWithSmallestLargestGroup_18 : decode cX4_pileWithSmallestLargestGroup 18 = .ok (.aload_n 0, 1) := by decide +kernel
theorem dX4_pileWithSmallestLargestGroup_19 : decode cX4_pileWithSmallestLargestGroup 19 = .ok (.getfield 12, 3) := by decide +kernel
theorem dX4_pileWithSmallestLargestGroup_22 : decode cX4_pileWithSmallestLargestGroup 22 = .ok (.iload_n 3, 1) := by decide +kernel
theorem dX4_pileWithSmallestLargestGroup_23 : decode cX4_pileWithSmallestLargestGroup 23 = .ok (.invokevirtual 102, 3) := by decide +kernel
theorem dX4_pileWithSmallestLargestGroup_26 : decode cX4_pileWithSmallestLargestGroup 26 = .ok (.ifCond .ne 6, 3) := by decide +kernel
theorem dX4_pileWithSmallestLargestGroup_29 : decode cX4_pileWithSmallestLargestGroup 29 = .ok (.goto 58, 3) := by decide +kernel
theorem dX4_pileWithSmallestLargestGroup_32 : decode cX4_pileWithSmallestLargestGroup 32 = .ok (.iconst 0, 1) := by decide +kernel
theorem dX4_pileWithSmallestLargestGroup_33 : decode cX4_pileWithSmallestLargestGroup 33 = .ok (.istore 4, 2) := by decide +kernel
theorem dX4_pileWithSmallestLargestGroup_35 : decode cX4_pileWithSmallestLargestGroup 35 = .ok (.iconst 0, 1) := by decide +kernel
theorem dX4_pileWithSmallestLargestGroup_36 : decode cX4_pileWithSmallestLargestGroup 36 = .ok (.istore 5, 2) := by decide +kernel
theorem dX4_pileWithSmallestLargestGroup_38 : decode cX4_pileWithSmallestLargestGroup 38 = .ok (.iload 5, 2) := by decide +kernel
theorem dX4_pileWithSmallestLargestGroup_40 : decode cX4_pileWithSmallestLargestGroup 40 = .ok (.bipush 100, 2) := by decide +kernel
theorem dX4_pileWithSmallestLargestGroup_42 : decode cX4_pileWithSmallestLargestGroup 42 = .ok (.if_icmp .ge 28, 3) := by decide +kernel
theorem dX4_pileWithSmallestLargestGroup_45 : decode cX4_pileWithSmallestLargestGroup 45 = .ok (.iload 4, 2) := by decide +kernel
theorem dX4_pileWithSmallestLargestGroup_47 : decode cX4_pileWithSmallestLargestGroup 47 = .ok (.aload_n 0, 1) := by decide +kernel
theorem dX4_pileWithSmallestLargestGroup_48 : decode cX4_pileWithSmallestLargestGroup 48 = .ok (.getfield 48, 3) := by decide +kernel
theorem dX4_pileWithSmallestLargestGroup_51 : decode cX4_pileWithSmallestLargestGroup 51 = .ok (.iload_n 3, 1) := by decide +kernel
theorem dX4_pileWithSmallestLargestGroup_52 : decode cX4_pileWithSmallestLargestGroup 52 = .ok (.bipush 100, 2) := by decide +kernel
theorem dX4_pileWithSmallestLargestGroup_54 : decode cX4_pileWithSmallestLargestGroup 54 = .ok (.imul, 1) := by decide +kernel
theorem dX4_pileWithSmallestLargestGroup_55 : decode cX4_pileWithSmallestLargestGroup 55 = .ok (.iload 5, 2) := by decide +kernel
theorem dX4_pileWithSmallestLargestGroup_57 : decode cX4_pileWithSmallestLargestGroup 57 = .ok (.iadd, 1) := by decide +kernel
theorem dX4_pileWithSmallestLargestGroup_58 : decode cX4_pileWithSmallestLargestGroup 58 = .ok (.iaload, 1) := by decide +kernel
theorem dX4_pileWithSmallestLargestGroup_59 : decode cX4_pileWithSmallestLargestGroup 59 = .ok (.invokestatic 297, 3) := by decide +kernel
theorem dX4_pileWithSmallestLargestGroup_62 : decode cX4_pileWithSmallestLargestGroup 62 = .ok (.istore 4, 2) := by decide +kernel
theorem dX4_pileWithSmallestLargestGroup_64 : decode cX4_pileWithSmallestLargestGroup 64 = .ok (.iinc 5 1, 3) := by decide +kernel
theorem dX4_pileWithSmallestLargestGroup_67 : decode cX4_pileWithSmallestLargestGroup 67 = .ok (.goto (-29), 3) := by decide +kernel
theorem dX4_pileWithSmallestLargestGroup_70 : decode cX4_pileWithSmallestLargestGroup 70 = .ok (.iload_n 1, 1) := by decide +kernel
theorem dX4_pileWithSmallestLargestGroup_71 : decode cX4_pileWithSmallestLargestGroup 71 = .ok (.bipush (-9), 2) := by decide +kernel
theorem dX4_pileWithSmallestLargestGroup_73 : decode cX4_pileWithSmallestLargestGroup 73 = .ok (.if_icmp .eq 9, 3) := by decide +kernel
theorem dX4_pileWithSmallestLargestGroup_76 : decode cX4_pileWithSmallestLargestGroup 76 = .ok (.iload 4, 2) := by decide +kernel
theorem dX4_pileWithSmallestLargestGroup_78 : decode cX4_pileWithSmallestLargestGroup 78 = .ok (.iload_n 2, 1) := by decide +kernel
theorem dX4_pileWithSmallestLargestGroup_79 : decode cX4_pileWithSmallestLargestGroup 79 = .ok (.if_icmp .ge 8, 3) := by decide +kernel
theorem dX4_pileWithSmallestLargestGroup_82 : decode cX4_pileWithSmallestLargestGroup 82 = .ok (.iload_n 3, 1) := by decide +kernel
theorem dX4_pileWithSmallestLargestGroup_83 : decode cX4_pileWithSmallestLargestGroup 83 = .ok (.istore_n 1, 1) := by decide +kernel
theorem dX4_pileWithSmallestLargestGroup_84 : decode cX4_pileWithSmallestLargestGroup 84 = .ok (.iload 4, 2) := by decide +kernel
theorem dX4_pileWithSmallestLargestGroup_86 : decode cX4_pileWithSmallestLargestGroup 86 = .ok (.istore_n 2, 1) := by decide +kernel
theorem dX4_pileWithSmallestLargestGroup_87 : decode cX4_pileWithSmallestLargestGroup 87 = .ok (.iinc 3 1, 3) := by decide +kernel
theorem dX4_pileWithSmallestLargestGroup_90 : decode cX4_pileWithSmallestLargestGroup 90 = .ok (.goto (-83), 3) := by decide +kernel
theorem dX4_pileWithSmallestLargestGroup_93 : decode cX4_pileWithSmallestLargestGroup 93 = .ok (.iload_n 1, 1) := by decide +kernel
theorem dX4_pileWithSmallestLargestGroup_94 : decode cX4_pileWithSmallestLargestGroup 94 = .ok (.ireturn, 1) := by decide +kernel
theorem dX4_power_0 : decode cX4_power 0 = .ok (.iconst 1, 1) := by decide +kernel
theorem dX4_power_1 : decode cX4_power 1 = .ok (.istore_n 2, 1) := by decide +kernel
theorem dX4_power_2 : decode cX4_power 2 = .ok (.iconst 0, 1) := by decide +kernel
theorem dX4_power_3 : decode cX4_power 3 = .ok (.istore_n 3, 1) := by decide +kernel
theorem dX4_power_4 : decode cX4_power 4 = .ok (.iload_n 3, 1) := by decide +kernel
theorem dX4_power_5 : decode cX4_power 5 = .ok (.iload_n 1, 1) := by decide +kernel
theorem dX4_power_6 : decode cX4_power 6 = .ok (.if_icmp .ge 13, 3) := by decide +kernel
theorem dX4_power_9 : decode cX4_power 9 = .ok (.iload_n 2, 1) := by decide +kernel
theorem dX4_power_10 : decode cX4_power 10 = .ok (.iload_n 0, 1) := by decide +kernel
theorem dX4_power_11 : decode cX4_power 11 = .ok (.imul, 1) := by decide +kernel
theorem dX4_power_12 : decode cX4_power 12 = .ok (.istore_n 2, 1) := by decide +kernel
theorem dX4_power_13 : decode cX4_power 13 = .ok (.iinc 3 1, 3) := by decide +kernel
theorem dX4_power_16 : decode cX4_power 16 = .ok (.goto (-12), 3) := by decide +kernel
theorem dX4_power_19 : decode cX4_power 19 = .ok (.iload_n 2, 1) := by decide +kernel
theorem dX4_power_20 : decode cX4_power 20 = .ok (.ireturn, 1) := by decide +kernel
theorem dX4_inLowestTerms_0 : decode cX4_inLowestTerms 0 = .ok (.lload_n 0, 1) := by decide +kernel
theorem dX4_inLowestTerms_1 : decode cX4_inLowestTerms 1 = .ok (.invokestatic 302, 3) := by decide +kernel
theorem dX4_inLowestTerms_4 : decode cX4_inLowestTerms 4 = .ok (.lload_n 2, 1) := by decide +kernel
theorem dX4_inLowestTerms_5 : decode cX4_inLowestTerms 5 = .ok (.invokestatic 302, 3) := by decide +kernel
theorem dX4_inLowestTerms_8 : decode cX4_inLowestTerms 8 = .ok (.invokestatic 306, 3) := by decide +kernel
theorem dX4_inLowestTerms_11 : decode cX4_inLowestTerms 11 = .ok (.lstore 5, 2) := by decide +kernel
theorem dX4_inLowestTerms_13 : decode cX4_inLowestTerms 13 = .ok (.lload 5, 2) := by decide +kernel
theorem dX4_inLowestTerms_15 : decode cX4_inLowestTerms 15 = .ok (.lconst 0, 1) := by decide +kernel
theorem dX4_inLowestTerms_16 : decode cX4_inLowestTerms 16 = .ok (.lcmp, 1) := by decide +kernel
theorem dX4_inLowestTerms_17 : decode cX4_inLowestTerms 17 = .ok (.ifCond .ne 7, 3) := by decide +kernel
theorem dX4_inLowestTerms_20 : decode cX4_inLowestTerms 20 = .ok (.iload 4, 2) := by decide +kernel
theorem dX4_inLowestTerms_22 : decode cX4_inLowestTerms 22 = .ok (.i2l, 1) := by decide +kernel
theorem dX4_inLowestTerms_23 : decode cX4_inLowestTerms 23 = .ok (.lreturn, 1) := by decide +kernel
theorem dX4_inLowestTerms_24 : decode cX4_inLowestTerms 24 = .ok (.iload 4, 2) := by decide +kernel
theorem dX4_inLowestTerms_26 : decode cX4_inLowestTerms 26 = .ok (.ifCond .ne 7, 3) := by decide +kernel
theorem dX4_inLowestTerms_29 : decode cX4_inLowestTerms 29 = .ok (.lload_n 0, 1) := by decide +kernel
theorem dX4_inLowestTerms_30 : decode cX4_inLowestTerms 30 = .ok (.goto 4, 3) := by decide +kernel
theorem dX4_inLowestTerms_33 : decode cX4_inLowestTerms 33 = .ok (.lload_n 2, 1) := by decide +kernel
theorem dX4_inLowestTerms_34 : decode cX4_inLowestTerms 34 = .ok (.lload 5, 2) := by decide +kernel
theorem dX4_inLowestTerms_36 : decode cX4_inLowestTerms 36 = .ok (.ldiv, 1) := by decide +kernel
theorem dX4_inLowestTerms_37 : decode cX4_inLowestTerms 37 = .ok (.lreturn, 1) := by decide +kernel
theorem dX4_commonDivisor_0 : decode cX4_commonDivisor 0 = .ok (.iconst 0, 1) := by decide +kernel
theorem dX4_commonDivisor_1 : decode cX4_commonDivisor 1 = .ok (.istore 4, 2) := by decide +kernel
theorem dX4_commonDivisor_3 : decode cX4_commonDivisor 3 = .ok (.iload 4, 2) := by decide +kernel
theorem dX4_commonDivisor_5 : decode cX4_commonDivisor 5 = .ok (.bipush 100, 2) := by decide +kernel
theorem dX4_commonDivisor_7 : decode cX4_commonDivisor 7 = .ok (.if_icmp .ge 25, 3) := by decide +kernel
theorem dX4_commonDivisor_10 : decode cX4_commonDivisor 10 = .ok (.lload_n 2, 1) := by decide +kernel
theorem dX4_commonDivisor_11 : decode cX4_commonDivisor 11 = .ok (.lconst 0, 1) := by decide +kernel
theorem dX4_commonDivisor_12 : decode cX4_commonDivisor 12 = .ok (.lcmp, 1) := by decide +kernel
theorem dX4_commonDivisor_13 : decode cX4_commonDivisor 13 = .ok (.ifCond .eq 19, 3) := by decide +kernel
theorem dX4_commonDivisor_16 : decode cX4_commonDivisor 16 = .ok (.lload_n 0, 1) := by decide +kernel
theorem dX4_commonDivisor_17 : decode cX4_commonDivisor 17 = .ok (.lload_n 2, 1) := by decide +kernel
theorem dX4_commonDivisor_18 : decode cX4_commonDivisor 18 = .ok (.lrem, 1) := by decide +kernel
theorem dX4_commonDivisor_19 : decode cX4_commonDivisor 19 = .ok (.lstore 5, 2) := by decide +kernel
theorem dX4_commonDivisor_21 : decode cX4_commonDivisor 21 = .ok (.lload_n 2, 1) := by decide +kernel
theorem dX4_commonDivisor_22 : decode cX4_commonDivisor 22 = .ok (.lstore_n 0, 1) := by decide +kernel
theorem dX4_commonDivisor_23 : decode cX4_commonDivisor 23 = .ok (.lload 5, 2) := by decide +kernel
theorem dX4_commonDivisor_25 : decode cX4_commonDivisor 25 = .ok (.lstore_n 2, 1) := by decide +kernel
theorem dX4_commonDivisor_26 : decode cX4_commonDivisor 26 = .ok (.iinc 4 1, 3) := by decide +kernel
theorem dX4_commonDivisor_29 : decode cX4_commonDivisor 29 = .ok (.goto (-26), 3) := by decide +kernel
theorem dX4_commonDivisor_32 : decode cX4_commonDivisor 32 = .ok (.lload_n 0, 1) := by decide +kernel
theorem dX4_commonDivisor_33 : decode cX4_commonDivisor 33 = .ok (.lreturn, 1) := by decide +kernel
theorem dX4_compareFractions_0 : decode cX4_compareFractions 0 = .ok (.iconst 1, 1) := by decide +kernel
theorem dX4_compareFractions_1 : decode cX4_compareFractions 1 = .ok (.istore 8, 2) := by decide +kernel
theorem dX4_compareFractions_3 : decode cX4_compareFractions 3 = .ok (.iconst 0, 1) := by decide +kernel
theorem dX4_compareFractions_4 : decode cX4_compareFractions 4 = .ok (.istore 9, 2) := by decide +kernel
theorem dX4_compareFractions_6 : decode cX4_compareFractions 6 = .ok (.iload 9, 2) := by decide +kernel
theorem dX4_compareFractions_8 : decode cX4_compareFractions 8 = .ok (.bipush 100, 2) := by decide +kernel
theorem dX4_compareFractions_10 : decode cX4_compareFractions 10 = .ok (.if_icmp .ge 114, 3) := by decide +kernel
theorem dX4_compareFractions_13 : decode cX4_compareFractions 13 = .ok (.lload_n 2, 1) := by decide +kernel
theorem dX4_compareFractions_14 : decode cX4_compareFractions 14 = .ok (.lconst 0, 1) := by decide +kernel
theorem dX4_compareFractions_15 : decode cX4_compareFractions 15 = .ok (.lcmp, 1) := by decide +kernel
theorem dX4_compareFractions_16 : decode cX4_compareFractions 16 = .ok (.ifCond .eq 108, 3) := by decide +kernel
theorem dX4_compareFractions_19 : decode cX4_compareFractions 19 = .ok (.lload 6, 2) := by decide +kernel
theorem dX4_compareFractions_21 : decode cX4_compareFractions 21 = .ok (.lconst 0, 1) := by decide +kernel
theorem dX4_compareFractions_22 : decode cX4_compareFractions 22 = .ok (.lcmp, 1) := by decide +kernel
theorem dX4_compareFractions_23 : decode cX4_compareFractions 23 = .ok (.ifCond .eq 101, 3) := by decide +kernel
theorem dX4_compareFractions_26 : decode cX4_compareFractions 26 = .ok (.lload_n 0, 1) := by decide +kernel
theorem dX4_compareFractions_27 : decode cX4_compareFractions 27 = .ok (.lload_n 2, 1) := by decide +kernel
theorem dX4_compareFractions_28 : decode cX4_compareFractions 28 = .ok (.ldiv, 1) := by decide +kernel
theorem dX4_compareFractions_29 : decode cX4_compareFractions 29 = .ok (.lstore 10, 2) := by decide +kernel
theorem dX4_compareFractions_31 : decode cX4_compareFractions 31 = .ok (.lload 4, 2) := by decide +kernel
theorem dX4_compareFractions_33 : decode cX4_compareFractions 33 = .ok (.lload 6, 2) := by decide +kernel
theorem dX4_compareFractions_35 : decode cX4_compareFractions 35 = .ok (.ldiv, 1) := by decide +kernel
theorem dX4_compareFractions_36 : decode cX4_compareFractions 36 = .ok (.lstore 12, 2) := by decide +kernel
theorem dX4_compareFractions_38 : decode cX4_compareFractions 38 = .ok (.lload 10, 2) := by decide +kernel
theorem dX4_compareFractions_40 : decode cX4_compareFractions 40 = .ok (.lload 12, 2) := by decide +kernel
theorem dX4_compareFractions_42 : decode cX4_compareFractions 42 = .ok (.lcmp, 1) := by decide +kernel
theorem dX4_compareFractions_43 : decode cX4_compareFractions 43 = .ok (.ifCond .eq 20, 3) := by decide +kernel
theorem dX4_compareFractions_46 : decode cX4_compareFractions 46 = .ok (.lload 10, 2) := by decide +kernel
theorem dX4_compareFractions_48 : decode cX4_compareFractions 48 = .ok (.lload 12, 2) := by decide +kernel
theorem dX4_compareFractions_50 : decode cX4_compareFractions 50 = .ok (.lcmp, 1) := by decide +kernel
theorem dX4_compareFractions_51 : decode cX4_compareFractions 51 = .ok (.ifCond .le 8, 3) := by decide +kernel
theorem dX4_compareFractions_54 : decode cX4_compareFractions 54 = .ok (.iload 8, 2) := by decide +kernel
theorem dX4_compareFractions_56 : decode cX4_compareFractions 56 = .ok (.goto 6, 3) := by decide +kernel
theorem dX4_compareFractions_59 : decode cX4_compareFractions 59 = .ok (.iload 8, 2) := by decide +kernel
theorem dX4_compareFractions_61 : decode cX4_compareFractions 61 = .ok (.ineg, 1) := by decide +kernel
theorem dX4_compareFractions_62 : decode cX4_compareFractions 62 = .ok (.ireturn, 1) := by decide +kernel
theorem dX4_compareFractions_63 : decode cX4_compareFractions 63 = .ok (.lload_n 0, 1) := by decide +kernel
theorem dX4_compareFractions_64 : decode cX4_compareFractions 64 = .ok (.lload_n 2, 1) := by decide +kernel
theorem dX4_compareFractions_65 : decode cX4_compareFractions 65 = .ok (.lrem, 1) := by decide +kernel
theorem dX4_compareFractions_66 : decode cX4_compareFractions 66 = .ok (.lstore 14, 2) := by decide +kernel
theorem dX4_compareFractions_68 : decode cX4_compareFractions 68 = .ok (.lload 4, 2) := by decide +kernel
theorem dX4_compareFractions_70 : decode cX4_compareFractions 70 = .ok (.lload 6, 2) := by decide +kernel
theorem dX4_compareFractions_72 : decode cX4_compareFractions 72 = .ok (.lrem, 1) := by decide +kernel
theorem dX4_compareFractions_73 : decode cX4_compareFractions 73 = .ok (.lstore 16, 2) := by decide +kernel
theorem dX4_compareFractions_75 : decode cX4_compareFractions 75 = .ok (.lload 14, 2) := by decide +kernel
theorem dX4_compareFractions_77 : decode cX4_compareFractions 77 = .ok (.lconst 0, 1) := by decide +kernel
theorem dX4_compareFractions_78 : decode cX4_compareFractions 78 = .ok (.lcmp, 1) := by decide +kernel
theorem dX4_compareFractions_79 : decode cX4_compareFractions 79 = .ok (.ifCond .eq 10, 3) := by decide +kernel
theorem dX4_compareFractions_82 : decode cX4_compareFractions 82 = .ok (.lload 16, 2) := by decide +kernel
theorem dX4_compareFractions_84 : decode cX4_compareFractions 84 = .ok (.lconst 0, 1) := by decide +kernel
theorem dX4_compareFractions_85 : decode cX4_compareFractions 85 = .ok (.lcmp, 1) := by decide +kernel
theorem dX4_compareFractions_86 : decode cX4_compareFractions 86 = .ok (.ifCond .ne 14, 3) := by decide +kernel
theorem dX4_compareFractions_89 : decode cX4_compareFractions 89 = .ok (.iload 8, 2) := by decide +kernel
theorem dX4_compareFractions_91 : decode cX4_compareFractions 91 = .ok (.lload 14, 2) := by decide +kernel
theorem dX4_compareFractions_93 : decode cX4_compareFractions 93 = .ok (.lload 16, 2) := by decide +kernel
theorem dX4_compareFractions_95 : decode cX4_compareFractions 95 = .ok (.invokestatic 310, 3) := by decide +kernel
theorem dX4_compareFractions_98 : decode cX4_compareFractions 98 = .ok (.imul, 1) := by decide +kernel
theorem dX4_compareFractions_99 : decode cX4_compareFractions 99 = .ok (.ireturn, 1) := by decide +kernel
theorem dX4_compareFractions_100 : decode cX4_compareFractions 100 = .ok (.lload_n 2, 1) := by decide +kernel
theorem dX4_compareFractions_101 : decode cX4_compareFractions 101 = .ok (.lstore_n 0, 1) := by decide +kernel
theorem dX4_compareFractions_102 : decode cX4_compareFractions 102 = .ok (.lload 14, 2) := by decide +kernel
theorem dX4_compareFractions_104 : decode cX4_compareFractions 104 = .ok (.lstore_n 2, 1) := by decide +kernel
theorem dX4_compareFractions_105 : decode cX4_compareFractions 105 = .ok (.lload 6, 2) := by decide +kernel
theorem dX4_compareFractions_107 : decode cX4_compareFractions 107 = .ok (.lstore 4, 2) := by decide +kernel
theorem dX4_compareFractions_109 : decode cX4_compareFractions 109 = .ok (.lload 16, 2) := by decide +kernel
theorem dX4_compareFractions_111 : decode cX4_compareFractions 111 = .ok (.lstore 6, 2) := by decide +kernel
theorem dX4_compareFractions_113 : decode cX4_compareFractions 113 = .ok (.iload 8, 2) := by decide +kernel
theorem dX4_compareFractions_115 : decode cX4_compareFractions 115 = .ok (.ineg, 1) := by decide +kernel
theorem dX4_compareFractions_116 : decode cX4_compareFractions 116 = .ok (.istore 8, 2) := by decide +kernel
theorem dX4_compareFractions_118 : decode cX4_compareFractions 118 = .ok (.iinc 9 1, 3) := by decide +kernel
theorem dX4_compareFractions_121 : decode cX4_compareFractions 121 = .ok (.goto (-115), 3) := by decide +kernel
theorem dX4_compareFractions_124 : decode cX4_compareFractions 124 = .ok (.iconst 0, 1) := by decide +kernel
theorem dX4_compareFractions_125 : decode cX4_compareFractions 125 = .ok (.ireturn, 1) := by decide +kernel
end
section
theorem dX5_init_0 : decode cX5_init 0 = .ok (.aload_n 0, 1) := by decide +kernel
theorem dX5_init_1 : decode cX5_init 1 = .ok (.invokespecial 1, 3) := by decide +kernel
theorem dX5_init_4 : decode cX5_init 4 = .ok (.aload_n 0, 1) := by decide +kernel
theorem dX5_init_5 : decode cX5_init 5 = .ok (.bipush 59, 2) := by decide +kernel
theorem dX5_init_7 : decode cX5_init 7 = .ok (.newarray .int, 2) := by decide +kernel
theorem dX5_init_9 : decode cX5_init 9 = .ok (.putfield 7, 3) := by decide +kernel
theorem dX5_init_12 : decode cX5_init 12 = .ok (.aload_n 0, 1) := by decide +kernel
theorem dX5_init_13 : decode cX5_init 13 = .ok (.sipush 354, 3) := by decide +kernel
theorem dX5_init_16 : decode cX5_init 16 = .ok (.newarray .int, 2) := by decide +kernel
theorem dX5_init_18 : decode cX5_init 18 = .ok (.putfield 13, 3) := by decide +kernel
theorem dX5_init_21 : decode cX5_init 21 = .ok (.aload_n 0, 1) := by decide +kernel
theorem dX5_init_22 : decode cX5_init 22 = .ok (.bipush 118, 2) := by decide +kernel
theorem dX5_init_24 : decode cX5_init 24 = .ok (.newarray .int, 2) := by decide +kernel
theorem dX5_init_26 : decode cX5_init 26 = .ok (.putfield 16, 3) := by decide +kernel
theorem dX5_init_29 : decode cX5_init 29 = .ok (.aload_n 0, 1) := by decide +kernel
theorem dX5_init_30 : decode cX5_init 30 = .ok (.iconst 2, 1) := by decide +kernel
theorem dX5_init_31 : decode cX5_init 31 = .ok (.newarray .boolean, 2) := by decide +kernel
theorem dX5_init_33 : decode cX5_init 33 = .ok (.putfield 19, 3) := by decide +kernel
theorem dX5_init_36 : decode cX5_init 36 = .ok (.aload_n 0, 1) := by decide +kernel
theorem dX5_init_37 : decode cX5_init 37 = .ok (.bipush 10, 2) := by decide +kernel
theorem dX5_init_39 : decode cX5_init 39 = .ok (.putfield 23, 3) := by decide +kernel
theorem dX5_init_42 : decode cX5_init 42 = .ok (.aload_n 0, 1) := by decide +kernel
theorem dX5_init_43 : decode cX5_init 43 = .ok (.bipush 12, 2) := by decide +kernel
theorem dX5_init_45 : decode cX5_init 45 = .ok (.newarray .int, 2) := by decide +kernel
theorem dX5_init_47 : decode cX5_init 47 = .ok (.putfield 27, 3) := by decide +kernel
theorem dX5_init_50 : decode cX5_init 50 = .ok (.aload_n 0, 1) := by decide +kernel
theorem dX5_init_51 : decode cX5_init 51 = .ok (.sipush 160, 3) := by decide +kernel
theorem dX5_init_54 : decode cX5_init 54 = .ok (.newarray .int, 2) := by decide +kernel
theorem dX5_init_56 : decode cX5_init 56 = .ok (.putfield 30, 3) := by decide +kernel
theorem dX5_init_59 : decode cX5_init 59 = .ok (.aload_n 0, 1) := by decide +kernel
theorem dX5_init_60 : decode cX5_init 60 = .ok (.bipush 59, 2) := by decide +kernel
theorem dX5_init_62 : decode cX5_init 62 = .ok (.newarray .int, 2) := by decide +kernel
theorem dX5_init_64 : decode cX5_init 64 = .ok (.putfield 33, 3) := by decide +kernel
theorem dX5_init_67 : decode cX5_init 67 = .ok (.aload_n 0, 1) := by decide +kernel
theorem dX5_init_68 : decode cX5_init 68 = .ok (.bipush 9, 2) := by decide +kernel
theorem dX5_init_70 : decode cX5_init 70 = .ok (.newarray .int, 2) := by decide +kernel
theorem dX5_init_72 : decode cX5_init 72 = .ok (.putfield 36, 3) := by decide +kernel
theorem dX5_init_75 : decode cX5_init 75 = .ok (.aload_n 0, 1) := by decide +kernel
theorem dX5_init_76 : decode cX5_init 76 = .ok (.bipush 9, 2) := by decide +kernel
theorem dX5_init_78 : decode cX5_init 78 = .ok (.newarray .int, 2) := by decide +kernel
theorem dX5_init_80 : decode cX5_init 80 = .ok (.putfield 39, 3) := by decide +kernel
theorem dX5_init_83 : decode cX5_init 83 = .ok (.aload_n 0, 1) := by decide +kernel
theorem dX5_init_84 : decode cX5_init 84 = .ok (.bipush 9, 2) := by decide +kernel
theorem dX5_init_86 : decode cX5_init 86 = .ok (.newarray .int, 2) := by decide +kernel
theorem dX5_init_88 : decode cX5_init 88 = .ok (.putfield 42, 3) := by decide +kernel
theorem dX5_init_91 : decode cX5_init 91 = .ok (.aload_n 0, 1) := by decide +kernel
theorem dX5_init_92 : decode cX5_init 92 = .ok (.bipush 9, 2) := by decide +kernel
theorem dX5_init_94 : decode cX5_init 94 = .ok (.newarray .int, 2) := by decide +kernel
theorem dX5_init_96 : decode cX5_init 96 = .ok (.putfield 45, 3) := by decide +kernel
theorem dX5_init_99 : decode cX5_init 99 = .ok (.aload_n 0, 1) := by decide +kernel
theorem dX5_init_100 : decode cX5_init 100 = .ok (.sipush 361, 3) := by decide +kernel
theorem dX5_init_103 : decode cX5_init 103 = .ok (.newarray .boolean, 2) := by decide +kernel
theorem dX5_init_105 : decode cX5_init 105 = .ok (.putfield 48, 3) := by decide +kernel
theorem dX5_init_108 : decode cX5_init 108 = .ok (.aload_n 0, 1) := by decide +kernel
theorem dX5_init_109 : decode cX5_init 109 = .ok (.sipush 2888, 3) := by decide +kernel
theorem dX5_init_112 : decode cX5_init 112 = .ok (.newarray .int, 2) := by decide +kernel
theorem dX5_init_114 : decode cX5_init 114 = .ok (.putfield 51, 3) := by decide +kernel
theorem dX5_init_117 : decode cX5_init 117 = .ok (.aload_n 0, 1) := by decide +kernel
theorem dX5_init_118 : decode cX5_init 118 = .ok (.bipush 100, 2) := by decide +kernel
theorem dX5_init_120 : decode cX5_init 120 = .ok (.newarray .int, 2) := by decide +kernel
theorem dX5_init_122 : decode cX5_init 122 = .ok (.putfield 54, 3) := by decide +kernel
theorem dX5_init_125 : decode cX5_init 125 = .ok (.return_, 1) := by decide +kernel
theorem dX5_in_0 : decode cX5_in 0 = .ok (.iload_n 0, 1) := by decide +kernel
theorem dX5_in_1 : decode cX5_in 1 = .ok (.iload_n 1, 1) := by decide +kernel
theorem dX5_in_2 : decode cX5_in 2 = .ok (.if_icmp .lt 12, 3) := by decide +kernel
theorem dX5_in_5 : decode cX5_in 5 = .ok (.iload_n 0, 1) := by decide +kernel
theorem dX5_in_6 : decode cX5_in 6 = .ok (.iload_n 2, 1) := by decide +kernel
theorem dX5_in_7 : decode cX5_in 7 = .ok (.if_icmp .gt 7, 3) := by decide +kernel
theorem dX5_in_10 : decode cX5_in 10 = .ok (.iconst 1, 1) := by decide +kernel
theorem dX5_in_11 : decode cX5_in 11 = .ok (.goto 4, 3) := by decide +kernel
theorem dX5_in_14 : decode cX5_in 14 = .ok (.iconst 0, 1) := by decide +kernel
theorem dX5_in_15 : decode cX5_in 15 = .ok (.ireturn, 1) := by decide +kernel
theorem dX5_ofPile_0 : decode cX5_ofPile 0 = .ok (.aload_n 0, 1) := by decide +kernel
theorem dX5_ofPile_1 : decode cX5_ofPile 1 = .ok (.getfield 7, 3) := by decide +kernel
theorem dX5_ofPile_4 : decode cX5_ofPile 4 = .ok (.iconst 1, 1) := by decide +kernel
theorem dX5_ofPile_5 : decode cX5_ofPile 5 = .ok (.iconst 5, 1) := by decide +kernel
theorem dX5_ofPile_6 : decode cX5_ofPile 6 = .ok (.iload_n 1, 1) := by decide +kernel
theorem dX5_ofPile_7 : decode cX5_ofPile 7 = .ok (.imul, 1) := by decide +kernel
theorem dX5_ofPile_8 : decode cX5_ofPile 8 = .ok (.iadd, 1) := by decide +kernel
theorem dX5_ofPile_9 : decode cX5_ofPile 9 = .ok (.iload_n 2, 1) := by decide +kernel
theorem dX5_ofPile_10 : decode cX5_ofPile 10 = .ok (.iadd, 1) := by decide +kernel
theorem dX5_ofPile_11 : decode cX5_ofPile 11 = .ok (.iaload, 1) := by decide +kernel
theorem dX5_ofPile_12 : decode cX5_ofPile 12 = .ok (.ireturn, 1) := by decide +kernel
theorem dX5_ofColumn_0 : decode cX5_ofColumn 0 = .ok (.aload_n 0, 1) := by decide +kernel
theorem dX5_ofColumn_1 : decode cX5_ofColumn 1 = .ok (.getfield 7, 3) := by decide +kernel
theorem dX5_ofColumn_4 : decode cX5_ofColumn 4 = .ok (.bipush 42, 2) := by decide +kernel
theorem dX5_ofColumn_6 : decode cX5_ofColumn 6 = .ok (.iconst 3, 1) := by decide +kernel
theorem dX5_ofColumn_7 : decode cX5_ofColumn 7 = .ok (.iload_n 1, 1) := by decide +kernel
theorem dX5_ofColumn_8 : decode cX5_ofColumn 8 = .ok (.imul, 1) := by decide +kernel
theorem dX5_ofColumn_9 : decode cX5_ofColumn 9 = .ok (.iadd, 1) := by decide +kernel
theorem dX5_ofColumn_10 : decode cX5_ofColumn 10 = .ok (.iload_n 2, 1) := by decide +kernel
theorem dX5_ofColumn_11 : decode cX5_ofColumn 11 = .ok (.iadd, 1) := by decide +kernel
theorem dX5_ofColumn_12 : decode cX5_ofColumn 12 = .ok (.iaload, 1) := by decide +kernel
theorem dX5_ofColumn_13 : decode cX5_ofColumn 13 = .ok (.ireturn, 1) := by decide +kernel
theorem dX5_isPile_0 : decode cX5_isPile 0 = .ok (.iload_n 1, 1) := by decide +kernel
theorem dX5_isPile_1 : decode cX5_isPile 1 = .ok (.iconst 0, 1) := by decide +kernel
theorem dX5_isPile_2 : decode cX5_isPile 2 = .ok (.aload_n 0, 1) := by decide +kernel
theorem dX5_isPile_3 : decode cX5_isPile 3 = .ok (.getfield 7, 3) := by decide +kernel
theorem dX5_isPile_6 : decode cX5_isPile 6 = .ok (.iconst 0, 1) := by decide +kernel
theorem dX5_isPile_7 : decode cX5_isPile 7 = .ok (.iaload, 1) := by decide +kernel
theorem dX5_isPile_8 : decode cX5_isPile 8 = .ok (.iconst 1, 1) := by decide +kernel
theorem dX5_isPile_9 : decode cX5_isPile 9 = .ok (.isub, 1) := by decide +kernel
theorem dX5_isPile_10 : decode cX5_isPile 10 = .ok (.invokestatic 57, 3) := by decide +kernel
theorem dX5_isPile_13 : decode cX5_isPile 13 = .ok (.ireturn, 1) := by decide +kernel
theorem dX5_isColumn_0 : decode cX5_isColumn 0 = .ok (.iload_n 1, 1) := by decide +kernel
theorem dX5_isColumn_1 : decode cX5_isColumn 1 = .ok (.iconst 0, 1) := by decide +kernel
theorem dX5_isColumn_2 : decode cX5_isColumn 2 = .ok (.aload_n 0, 1) := by decide +kernel
theorem dX5_isColumn_3 : decode cX5_isColumn 3 = .ok (.getfield 7, 3) := by decide +kernel
theorem dX5_isColumn_6 : decode cX5_isColumn 6 = .ok (.bipush 41, 2) := by decide +kernel
theorem dX5_isColumn_8 : decode cX5_isColumn 8 = .ok (.iaload, 1) := by decide +kernel
theorem dX5_isColumn_9 : decode cX5_isColumn 9 = .ok (.iconst 1, 1) := by decide +kernel
theorem dX5_isColumn_10 : decode cX5_isColumn 10 = .ok (.isub, 1) := by decide +kernel
theorem dX5_isColumn_11 : decode cX5_isColumn 11 = .ok (.invokestatic 57, 3) := by decide +kernel
theorem dX5_isColumn_14 : decode cX5_isColumn 14 = .ok (.ireturn, 1) := by decide +kernel
theorem dX5_isPlace_0 : decode cX5_isPlace 0 = .ok (.iload_n 0, 1) := by decide +kernel
theorem dX5_isPlace_1 : decode cX5_isPlace 1 = .ok (.bipush (-9), 2) := by decide +kernel
theorem dX5_isPlace_3 : decode cX5_isPlace 3 = .ok (.bipush 9, 2) := by decide +kernel
theorem dX5_isPlace_5 : decode cX5_isPlace 5 = .ok (.invokestatic 57, 3) := by decide +kernel
theorem dX5_isPlace_8 : decode cX5_isPlace 8 = .ok (.ifCond .eq 18, 3) := by decide +kernel
theorem dX5_isPlace_11 : decode cX5_isPlace 11 = .ok (.iload_n 1, 1) := by decide +kernel
theorem dX5_isPlace_12 : decode cX5_isPlace 12 = .ok (.bipush (-9), 2) := by decide +kernel
theorem dX5_isPlace_14 : decode cX5_isPlace 14 = .ok (.bipush 9, 2) := by decide +kernel
theorem dX5_isPlace_16 : decode cX5_isPlace 16 = .ok (.invokestatic 57, 3) := by decide +kernel
theorem dX5_isPlace_19 : decode cX5_isPlace 19 = .ok (.ifCond .eq 7, 3) := by decide +kernel
theorem dX5_isPlace_22 : decode cX5_isPlace 22 = .ok (.iconst 1, 1) := by decide +kernel
theorem dX5_isPlace_23 : decode cX5_isPlace 23 = .ok (.goto 4, 3) := by decide +kernel
theorem dX5_isPlace_26 : decode cX5_isPlace 26 = .ok (.iconst 0, 1) := by decide +kernel
theorem dX5_isPlace_27 : decode cX5_isPlace 27 = .ok (.ireturn, 1) := by decide +kernel
theorem dX5_type_0 : decode cX5_type 0 = .ok (.iload_n 1, 1) := by decide +kernel
theorem dX5_type_1 : decode cX5_type 1 = .ok (.iconst 0, 1) := by decide +kernel
theorem dX5_type_2 : decode cX5_type 2 = .ok (.sipush 255, 3) := by decide +kernel
theorem dX5_type_5 : decode cX5_type 5 = .ok (.invokestatic 57, 3) := by decide +kernel
theorem dX5_type_8 : decode cX5_type 8 = .ok (.ifCond .ne 5, 3) := by decide +kernel
theorem dX5_type_11 : decode cX5_type 11 = .ok (.iconst (-1), 1) := by decide +kernel
theorem dX5_type_12 : decode cX5_type 12 = .ok (.ireturn, 1) := by decide +kernel
theorem dX5_type_13 : decode cX5_type 13 = .ok (.aload_n 0, 1) := by decide +kernel
theorem dX5_type_14 : decode cX5_type 14 = .ok (.getfield 61, 3) := by decide +kernel
theorem dX5_type_17 : decode cX5_type 17 = .ok (.sipush 160, 3) := by decide +kernel
theorem dX5_type_20 : decode cX5_type 20 = .ok (.if_icmp .ne 6, 3) := by decide +kernel
theorem dX5_type_23 : decode cX5_type 23 = .ok (.bipush (-3), 2) := by decide +kernel
theorem dX5_type_25 : decode cX5_type 25 = .ok (.ireturn, 1) := by decide +kernel
theorem dX5_type_26 : decode cX5_type 26 = .ok (.aload_n 0, 1) := by decide +kernel
theorem dX5_type_27 : decode cX5_type 27 = .ok (.getfield 30, 3) := by decide +kernel
theorem dX5_type_30 : decode cX5_type 30 = .ok (.aload_n 0, 1) := by decide +kernel
theorem dX5_type_31 : decode cX5_type 31 = .ok (.getfield 61, 3) := by decide +kernel
theorem dX5_type_34 : decode cX5_type 34 = .ok (.iload_n 1, 1) := by decide +kernel
theorem dX5_type_35 : decode cX5_type 35 = .ok (.iastore, 1) := by decide +kernel
theorem dX5_type_36 : decode cX5_type 36 = .ok (.aload_n 0, 1) := by decide +kernel
theorem dX5_type_37 : decode cX5_type 37 = .ok (.dup, 1) := by decide +kernel
theorem dX5_type_38 : decode cX5_type 38 = .ok (.getfield 61, 3) := by decide +kernel
theorem dX5_type_41 : decode cX5_type 41 = .ok (.iconst 1, 1) := by decide +kernel
theorem dX5_type_42 : decode cX5_type 42 = .ok (.iadd, 1) := by decide +kernel
theorem dX5_type_43 : decode cX5_type 43 = .ok (.putfield 61, 3) := by decide +kernel
theorem dX5_type_46 : decode cX5_type 46 = .ok (.aload_n 0, 1) := by decide +kernel
theorem dX5_type_47 : decode cX5_type 47 = .ok (.getfield 61, 3) := by decide +kernel
theorem dX5_type_50 : decode cX5_type 50 = .ok (.ireturn, 1) := by decide +kernel
theorem dX5_clear_0 : decode cX5_clear 0 = .ok (.aload_n 0, 1) := by decide +kernel
theorem dX5_clear_1 : decode cX5_clear 1 = .ok (.getfield 61, 3) := by decide +kernel
theorem dX5_clear_4 : decode cX5_clear 4 = .ok (.istore_n 1, 1) := by decide +kernel
theorem dX5_clear_5 : decode cX5_clear 5 = .ok (.aload_n 0, 1) := by decide +kernel
theorem dX5_clear_6 : decode cX5_clear 6 = .ok (.iconst 0, 1) := by decide +kernel
theorem dX5_clear_7 : decode cX5_clear 7 = .ok (.putfield 61, 3) := by decide +kernel
theorem dX5_clear_10 : decode cX5_clear 10 = .ok (.iload_n 1, 1) := by decide +kernel
theorem dX5_clear_11 : decode cX5_clear 11 = .ok (.ireturn, 1) := by decide +kernel
theorem dX5_isFigure_0 : decode cX5_isFigure 0 = .ok (.aload_n 0, 1) := by decide +kernel
theorem dX5_isFigure_1 : decode cX5_isFigure 1 = .ok (.getfield 64, 3) := by decide +kernel
theorem dX5_isFigure_4 : decode cX5_isFigure 4 = .ok (.aload_n 0, 1) := by decide +kernel
theorem dX5_isFigure_5 : decode cX5_isFigure 5 = .ok (.getfield 61, 3) := by decide +kernel
theorem dX5_isFigure_8 : decode cX5_isFigure 8 = .ok (.if_icmp .ge 26, 3) := by decide +kernel
theorem dX5_isFigure_11 : decode cX5_isFigure 11 = .ok (.aload_n 0, 1) := by decide +kernel
theorem dX5_isFigure_12 : decode cX5_isFigure 12 = .ok (.getfield 30, 3) := by decide +kernel
theorem dX5_isFigure_15 : decode cX5_isFigure 15 = .ok (.aload_n 0, 1) := by decide +kernel
theorem dX5_isFigure_16 : decode cX5_isFigure 16 = .ok (.getfield 64, 3) := by decide +kernel
theorem dX5_isFigure_19 : decode cX5_isFigure 19 = .ok (.iaload, 1) := by decide +kernel
theorem dX5_isFigure_20 : decode cX5_isFigure 20 = .ok (.bipush 48, 2) := by decide +kernel
theorem dX5_isFigure_22 : decode cX5_isFigure 22 = .ok (.bipush 57, 2) := by decide +kernel
theorem dX5_isFigure_24 : decode cX5_isFigure 24 = .ok (.invokestatic 57, 3) := by decide +kernel
theorem dX5_isFigure_27 : decode cX5_isFigure 27 = .ok (.ifCond .eq 7, 3) := by decide +kernel
theorem dX5_isFigure_30 : decode cX5_isFigure 30 = .ok (.iconst 1, 1) := by decide +kernel
theorem dX5_isFigure_31 : decode cX5_isFigure 31 = .ok (.goto 4, 3) := by decide +kernel
theorem dX5_isFigure_34 : decode cX5_isFigure 34 = .ok (.iconst 0, 1) := by decide +kernel
theorem dX5_isFigure_35 : decode cX5_isFigure 35 = .ok (.ireturn, 1) := by decide +kernel
theorem dX5_next_0 : decode cX5_next 0 = .ok (.aload_n 0, 1) := by decide +kernel
theorem dX5_next_1 : decode cX5_next 1 = .ok (.getfield 64, 3) := by decide +kernel
theorem dX5_next_4 : decode cX5_next 4 = .ok (.aload_n 0, 1) := by decide +kernel
theorem dX5_next_5 : decode cX5_next 5 = .ok (.getfield 61, 3) := by decide +kernel
theorem dX5_next_8 : decode cX5_next 8 = .ok (.if_icmp .ge 30, 3) := by decide +kernel
theorem dX5_next_11 : decode cX5_next 11 = .ok (.aload_n 0, 1) := by decide +kernel
theorem dX5_next_12 : decode cX5_next 12 = .ok (.getfield 30, 3) := by decide +kernel
theorem dX5_next_15 : decode cX5_next 15 = .ok (.aload_n 0, 1) := by decide +kernel
theorem dX5_next_16 : decode cX5_next 16 = .ok (.getfield 64, 3) := by decide +kernel
theorem dX5_next_19 : decode cX5_next 19 = .ok (.iaload, 1) := by decide +kernel
theorem dX5_next_20 : decode cX5_next 20 = .ok (.bipush 32, 2) := by decide +kernel
theorem dX5_next_22 : decode cX5_next 22 = .ok (.if_icmp .ne 16, 3) := by decide +kernel
theorem dX5_next_25 : decode cX5_next 25 = .ok (.aload_n 0, 1) := by decide +kernel
theorem dX5_next_26 : decode cX5_next 26 = .ok (.dup, 1) := by decide +kernel
theorem dX5_next_27 : decode cX5_next 27 = .ok (.getfield 64, 3) := by decide +kernel
theorem dX5_next_30 : decode cX5_next 30 = .ok (.iconst 1, 1) := by decide +kernel
theorem dX5_next_31 : decode cX5_next 31 = .ok (.iadd, 1) := by decide +kernel
theorem dX5_next_32 : decode cX5_next 32 = .ok (.putfield 64, 3) := by decide +kernel
theorem dX5_next_35 : decode cX5_next 35 = .ok (.goto (-35), 3) := by decide +kernel
theorem dX5_next_38 : decode cX5_next 38 = .ok (.aload_n 0, 1) := by decide +kernel
theorem dX5_next_39 : decode cX5_next 39 = .ok (.aload_n 0, 1) := by decide +kernel
theorem dX5_next_40 : decode cX5_next 40 = .ok (.getfield 64, 3) := by decide +kernel
theorem dX5_next_43 : decode cX5_next 43 = .ok (.putfield 67, 3) := by decide +kernel
theorem dX5_next_46 : decode cX5_next 46 = .ok (.aload_n 0, 1) := by decide +kernel
theorem dX5_next_47 : decode cX5_next 47 = .ok (.getfield 64, 3) := by decide +kernel
theorem dX5_next_50 : decode cX5_next 50 = .ok (.aload_n 0, 1) := by decide +kernel
theorem dX5_next_51 : decode cX5_next 51 = .ok (.getfield 61, 3) := by decide +kernel
theorem dX5_next_54 : decode cX5_next 54 = .ok (.if_icmp .ne 9, 3) := by decide +kernel
theorem dX5_next_57 : decode cX5_next 57 = .ok (.aload_n 0, 1) := by decide +kernel
theorem dX5_next_58 : decode cX5_next 58 = .ok (.iconst (-1), 1) := by decide +kernel
theorem dX5_next_59 : decode cX5_next 59 = .ok (.putfield 70, 3) := by decide +kernel
theorem dX5_next_62 : decode cX5_next 62 = .ok (.return_, 1) := by decide +kernel
theorem dX5_next_63 : decode cX5_next 63 = .ok (.aload_n 0, 1) := by decide +kernel
theorem dX5_next_64 : decode cX5_next 64 = .ok (.invokevirtual 73, 3) := by decide +kernel
theorem dX5_next_67 : decode cX5_next 67 = .ok (.ifCond .ne 58, 3) := by decide +kernel
theorem dX5_next_70 : decode cX5_next 70 = .ok (.aload_n 0, 1) := by decide +kernel
theorem dX5_next_71 : decode cX5_next 71 = .ok (.getfield 30, 3) := by decide +kernel
theorem dX5_next_74 : decode cX5_next 74 = .ok (.aload_n 0, 1) := by decide +kernel
theorem dX5_next_75 : decode cX5_next 75 = .ok (.getfield 64, 3) := by decide +kernel
theorem dX5_next_78 : decode cX5_next 78 = .ok (.iaload, 1) := by decide +kernel
theorem dX5_next_79 : decode cX5_next 79 = .ok (.istore_n 1, 1) := by decide +kernel
theorem dX5_next_80 : decode cX5_next 80 = .ok (.aload_n 0, 1) := by decide +kernel
theorem dX5_next_81 : decode cX5_next 81 = .ok (.iload_n 1, 1) := by decide +kernel
theorem dX5_next_82 : decode cX5_next 82 = .ok (.bipush 112, 2) := by decide +kernel
theorem dX5_next_84 : decode cX5_next 84 = .ok (.if_icmp .eq 21, 3) := by decide +kernel
theorem dX5_next_87 : decode cX5_next 87 = .ok (.iload_n 1, 1) := by decide +kernel
theorem dX5_next_88 : decode cX5_next 88 = .ok (.bipush 99, 2) := by decide +kernel
theorem dX5_next_90 : decode cX5_next 90 = .ok (.if_icmp .eq 15, 3) := by decide +kernel
theorem dX5_next_93 : decode cX5_next 93 = .ok (.iload_n 1, 1) := by decide +kernel
theorem dX5_next_94 : decode cX5_next 94 = .ok (.bipush 119, 2) := by decide +kernel
theorem dX5_next_96 : decode cX5_next 96 = .ok (.if_icmp .eq 9, 3) := by decide +kernel
theorem dX5_next_99 : decode cX5_next 99 = .ok (.iload_n 1, 1) := by decide +kernel
theorem dX5_next_100 : decode cX5_next 100 = .ok (.bipush 59, 2) := by decide +kernel
theorem dX5_next_102 : decode cX5_next 102 = .ok (.if_icmp .ne 7, 3) := by decide +kernel
theorem dX5_next_105 : decode cX5_next 105 = .ok (.iload_n 1, 1) := by decide +kernel
theorem dX5_next_106 : decode cX5_next 106 = .ok (.goto 5, 3) := by decide +kernel
theorem dX5_next_109 : decode cX5_next 109 = .ok (.bipush (-2), 2) := by decide +kernel
theorem dX5_next_111 : decode cX5_next 111 = .ok (.putfield 70, 3) := by decide +kernel
theorem dX5_next_114 : decode cX5_next 114 = .ok (.aload_n 0, 1) := by decide +kernel
theorem dX5_next_115 : decode cX5_next 115 = .ok (.dup, 1) := by decide +kernel
theorem dX5_next_116 : decode cX5_next 116 = .ok (.getfield 64, 3) := by decide +kernel
theorem dX5_next_119 : decode cX5_next 119 = .ok (.iconst 1, 1) := by decide +kernel
theorem dX5_next_120 : decode cX5_next 120 = .ok (.iadd, 1) := by decide +kernel
theorem dX5_next_121 : decode cX5_next 121 = .ok (.putfield 64, 3) := by decide +kernel
theorem dX5_next_124 : decode cX5_next 124 = .ok (.return_, 1) := by decide +kernel
theorem dX5_next_125 : decode cX5_next 125 = .ok (.aload_n 0, 1) := by decide +kernel
theorem dX5_next_126 : decode cX5_next 126 = .ok (.iconst 0, 1) := by decide +kernel
theorem dX5_next_127 : decode cX5_next 127 = .ok (.putfield 77, 3) := by decide +kernel
theorem dX5_next_130 : decode cX5_next 130 = .ok (.aload_n 0, 1) := by decide +kernel
theorem dX5_next_131 : decode cX5_next 131 = .ok (.invokevirtual 73, 3) := by decide +kernel
theorem dX5_next_134 : decode cX5_next 134 = .ok (.ifCond .eq 56, 3) := by decide +kernel
theorem dX5_next_137 : decode cX5_next 137 = .ok (.aload_n 0, 1) := by decide +kernel
theorem dX5_next_138 : decode cX5_next 138 = .ok (.aload_n 0, 1) := by decide +kernel
theorem dX5_next_139 : decode cX5_next 139 = .ok (.getfield 77, 3) := by decide +kernel
theorem dX5_next_142 : decode cX5_next 142 = .ok (.sipush 198, 3) := by decide +kernel
theorem dX5_next_145 : decode cX5_next 145 = .ok (.if_icmp .le 9, 3) := by decide +kernel
theorem dX5_next_148 : decode cX5_next 148 = .ok (.sipush 199, 3) := by decide +kernel
theorem dX5_next_151 : decode cX5_next 151 = .ok (.goto 23, 3) := by decide +kernel
theorem dX5_next_154 : decode cX5_next 154 = .ok (.bipush 10, 2) := by decide +kernel
theorem dX5_next_156 : decode cX5_next 156 = .ok (.aload_n 0, 1) := by decide +kernel
theorem dX5_next_157 : decode cX5_next 157 = .ok (.getfield 77, 3) := by decide +kernel
theorem dX5_next_160 : decode cX5_next 160 = .ok (.imul, 1) := by decide +kernel
theorem dX5_next_161 : decode cX5_next 161 = .ok (.aload_n 0, 1) := by decide +kernel
theorem dX5_next_162 : decode cX5_next 162 = .ok (.getfield 30, 3) := by decide +kernel
theorem dX5_next_165 : decode cX5_next 165 = .ok (.aload_n 0, 1) := by decide +kernel
theorem dX5_next_166 : decode cX5_next 166 = .ok (.getfield 64, 3) := by decide +kernel
theorem dX5_next_169 : decode cX5_next 169 = .ok (.iaload, 1) := by decide +kernel
theorem dX5_next_170 : decode cX5_next 170 = .ok (.iadd, 1) := by decide +kernel
theorem dX5_next_171 : decode cX5_next 171 = .ok (.bipush 48, 2) := by decide +kernel
theorem dX5_next_173 : decode cX5_next 173 = .ok (.isub, 1) := by decide +kernel
theorem dX5_next_174 : decode cX5_next 174 = .ok (.putfield 77, 3) := by decide +kernel
theorem dX5_next_177 : decode cX5_next 177 = .ok (.aload_n 0, 1) := by decide +kernel
theorem dX5_next_178 : decode cX5_next 178 = .ok (.dup, 1) := by decide +kernel
theorem dX5_next_179 : decode cX5_next 179 = .ok (.getfield 64, 3) := by decide +kernel
theorem dX5_next_182 : decode cX5_next 182 = .ok (.iconst 1, 1) := by decide +kernel
theorem dX5_next_183 : decode cX5_next 183 = .ok (.iadd, 1) := by decide +kernel
theorem dX5_next_184 : decode cX5_next 184 = .ok (.putfield 64, 3) := by decide +kernel
theorem dX5_next_187 : decode cX5_next 187 = .ok (.goto (-57), 3) := by decide +kernel
theorem dX5_next_190 : decode cX5_next 190 = .ok (.aload_n 0, 1) := by decide +kernel
theorem dX5_next_191 : decode cX5_next 191 = .ok (.aload_n 0, 1) := by decide +kernel
theorem dX5_next_192 : decode cX5_next 192 = .ok (.getfield 77, 3) := by decide +kernel
theorem dX5_next_195 : decode cX5_next 195 = .ok (.sipush 198, 3) := by decide +kernel
theorem dX5_next_198 : decode cX5_next 198 = .ok (.if_icmp .gt 30, 3) := by decide +kernel
theorem dX5_next_201 : decode cX5_next 201 = .ok (.aload_n 0, 1) := by decide +kernel
theorem dX5_next_202 : decode cX5_next 202 = .ok (.getfield 30, 3) := by decide +kernel
theorem dX5_next_205 : decode cX5_next 205 = .ok (.aload_n 0, 1) := by decide +kernel
theorem dX5_next_206 : decode cX5_next 206 = .ok (.getfield 67, 3) := by decide +kernel
theorem dX5_next_209 : decode cX5_next 209 = .ok (.iaload, 1) := by decide +kernel
theorem dX5_next_210 : decode cX5_next 210 = .ok (.bipush 48, 2) := by decide +kernel
theorem dX5_next_212 : decode cX5_next 212 = .ok (.if_icmp .ne 21, 3) := by decide +kernel
theorem dX5_next_215 : decode cX5_next 215 = .ok (.aload_n 0, 1) := by decide +kernel
theorem dX5_next_216 : decode cX5_next 216 = .ok (.getfield 64, 3) := by decide +kernel
theorem dX5_next_219 : decode cX5_next 219 = .ok (.aload_n 0, 1) := by decide +kernel
theorem dX5_next_220 : decode cX5_next 220 = .ok (.getfield 67, 3) := by decide +kernel
theorem dX5_next_223 : decode cX5_next 223 = .ok (.iconst 1, 1) := by decide +kernel
theorem dX5_next_224 : decode cX5_next 224 = .ok (.iadd, 1) := by decide +kernel
theorem dX5_next_225 : decode cX5_next 225 = .ok (.if_icmp .le 8, 3) := by decide +kernel
theorem dX5_next_228 : decode cX5_next 228 = .ok (.bipush (-2), 2) := by decide +kernel
theorem dX5_next_230 : decode cX5_next 230 = .ok (.goto 4, 3) := by decide +kernel
theorem dX5_next_233 : decode cX5_next 233 = .ok (.iconst 0, 1) := by decide +kernel
theorem dX5_next_234 : decode cX5_next 234 = .ok (.putfield 70, 3) := by decide +kernel
theorem dX5_next_237 : decode cX5_next 237 = .ok (.return_, 1) := by decide +kernel
theorem dX5_due_0 : decode cX5_due 0 = .ok (.iload_n 1, 1) := by decide +kernel
theorem dX5_due_1 : decode cX5_due 1 = .ok (.ifCond .ne 20, 3) := by decide +kernel
theorem dX5_due_4 : decode cX5_due 4 = .ok (.aload_n 0, 1) := by decide +kernel
theorem dX5_due_5 : decode cX5_due 5 = .ok (.getfield 80, 3) := by decide +kernel
theorem dX5_due_8 : decode cX5_due 8 = .ok (.bipush (-9), 2) := by decide +kernel
theorem dX5_due_10 : decode cX5_due 10 = .ok (.if_icmp .ne 11, 3) := by decide +kernel
theorem dX5_due_13 : decode cX5_due 13 = .ok (.aload_n 0, 1) := by decide +kernel
theorem dX5_due_14 : decode cX5_due 14 = .ok (.aload_n 0, 1) := by decide +kernel
theorem dX5_due_15 : decode cX5_due 15 = .ok (.getfield 67, 3) := by decide +kernel
theorem dX5_due_18 : decode cX5_due 18 = .ok (.putfield 80, 3) := by decide +kernel
theorem dX5_due_21 : decode cX5_due 21 = .ok (.return_, 1) := by decide +kernel
theorem dX5_reads_0 : decode cX5_reads 0 = .ok (.aload_n 0, 1) := by decide +kernel
theorem dX5_reads_1 : decode cX5_reads 1 = .ok (.aload_n 0, 1) := by decide +kernel
theorem dX5_reads_2 : decode cX5_reads 2 = .ok (.getfield 70, 3) := by decide +kernel
theorem dX5_reads_5 : decode cX5_reads 5 = .ok (.ifCond .ne 19, 3) := by decide +kernel
theorem dX5_reads_8 : decode cX5_reads 8 = .ok (.aload_n 0, 1) := by decide +kernel
theorem dX5_reads_9 : decode cX5_reads 9 = .ok (.getfield 77, 3) := by decide +kernel
theorem dX5_reads_12 : decode cX5_reads 12 = .ok (.iload_n 2, 1) := by decide +kernel
theorem dX5_reads_13 : decode cX5_reads 13 = .ok (.iload_n 3, 1) := by decide +kernel
theorem dX5_reads_14 : decode cX5_reads 14 = .ok (.invokestatic 57, 3) := by decide +kernel
theorem dX5_reads_17 : decode cX5_reads 17 = .ok (.ifCond .eq 7, 3) := by decide +kernel
theorem dX5_reads_20 : decode cX5_reads 20 = .ok (.iconst 1, 1) := by decide +kernel
theorem dX5_reads_21 : decode cX5_reads 21 = .ok (.goto 4, 3) := by decide +kernel
theorem dX5_reads_24 : decode cX5_reads 24 = .ok (.iconst 0, 1) := by decide +kernel
theorem dX5_reads_25 : decode cX5_reads 25 = .ok (.invokevirtual 83, 3) := by decide +kernel
theorem dX5_reads_28 : decode cX5_reads 28 = .ok (.aload_n 0, 1) := by decide +kernel
theorem dX5_reads_29 : decode cX5_reads 29 = .ok (.getfield 80, 3) := by decide +kernel
theorem dX5_reads_32 : decode cX5_reads 32 = .ok (.bipush (-9), 2) := by decide +kernel
theorem dX5_reads_34 : decode cX5_reads 34 = .ok (.if_icmp .ne 20, 3) := by decide +kernel
theorem dX5_reads_37 : decode cX5_reads 37 = .ok (.aload_n 0, 1) := by decide +kernel
theorem dX5_reads_38 : decode cX5_reads 38 = .ok (.getfield 33, 3) := by decide +kernel
theorem dX5_reads_41 : decode cX5_reads 41 = .ok (.iload_n 1, 1) := by decide +kernel
theorem dX5_reads_42 : decode cX5_reads 42 = .ok (.aload_n 0, 1) := by decide +kernel
theorem dX5_reads_43 : decode cX5_reads 43 = .ok (.getfield 77, 3) := by decide +kernel
theorem dX5_reads_46 : decode cX5_reads 46 = .ok (.iload 4, 2) := by decide +kernel
theorem dX5_reads_48 : decode cX5_reads 48 = .ok (.isub, 1) := by decide +kernel
theorem dX5_reads_49 : decode cX5_reads 49 = .ok (.iastore, 1) := by decide +kernel
theorem dX5_reads_50 : decode cX5_reads 50 = .ok (.aload_n 0, 1) := by decide +kernel
theorem dX5_reads_51 : decode cX5_reads 51 = .ok (.invokevirtual 87, 3) := by decide +kernel
theorem dX5_reads_54 : decode cX5_reads 54 = .ok (.return_, 1) := by decide +kernel
theorem dX5_isTakenByDraft_0 : decode cX5_isTakenByDraft 0 = .ok (.iconst 0, 1) := by decide +kernel
theorem dX5_isTakenByDraft_1 : decode cX5_isTakenByDraft 1 = .ok (.istore_n 3, 1) := by decide +kernel
theorem dX5_isTakenByDraft_2 : decode cX5_isTakenByDraft 2 = .ok (.iconst 0, 1) := by decide +kernel
theorem dX5_isTakenByDraft_3 : decode cX5_isTakenByDraft 3 = .ok (.istore 4, 2) := by decide +kernel
theorem dX5_isTakenByDraft_5 : decode cX5_isTakenByDraft 5 = .ok (.iload 4, 2) := by decide +kernel
theorem dX5_isTakenByDraft_7 : decode cX5_isTakenByDraft 7 = .ok (.aload_n 0, 1) := by decide +kernel
theorem dX5_isTakenByDraft_8 : decode cX5_isTakenByDraft 8 = .ok (.getfield 33, 3) := by decide +kernel
theorem dX5_isTakenByDraft_11 : decode cX5_isTakenByDraft 11 = .ok (.iconst 0, 1) := by decide +kernel
theorem dX5_isTakenByDraft_12 : decode cX5_isTakenByDraft 12 = .ok (.iaload, 1) := by decide +kernel
theorem dX5_isTakenByDraft_13 : decode cX5_isTakenByDraft 13 = .ok (.if_icmp .ge 53, 3) := by decide +kernel
theorem dX5_isTakenByDraft_16 : decode cX5_isTakenByDraft 16 = .ok (.iload_n 3, 1) := by decide +kernel
theorem dX5_isTakenByDraft_17 : decode cX5_isTakenByDraft 17 = .ok (.ifCond .ne 37, 3) := by decide +kernel
theorem dX5_isTakenByDraft_20 : decode cX5_isTakenByDraft 20 = .ok (.aload_n 0, 1) := by decide +kernel
theorem dX5_isTakenByDraft_21 : decode cX5_isTakenByDraft 21 = .ok (.getfield 33, 3) := by decide +kernel
theorem dX5_isTakenByDraft_24 : decode cX5_isTakenByDraft 24 = .ok (.iconst 1, 1) := by decide +kernel
theorem dX5_isTakenByDraft_25 : decode cX5_isTakenByDraft 25 = .ok (.iconst 5, 1) := by decide +kernel
theorem dX5_isTakenByDraft_26 : decode cX5_isTakenByDraft 26 = .ok (.iload 4, 2) := by decide +kernel
theorem dX5_isTakenByDraft_28 : decode cX5_isTakenByDraft 28 = .ok (.imul, 1) := by decide +kernel
theorem dX5_isTakenByDraft_29 : decode cX5_isTakenByDraft 29 = .ok (.iadd, 1) := by decide +kernel
theorem dX5_isTakenByDraft_30 : decode cX5_isTakenByDraft 30 = .ok (.iconst 0, 1) := by decide +kernel
theorem dX5_isTakenByDraft_31 : decode cX5_isTakenByDraft 31 = .ok (.iadd, 1) := by decide +kernel
theorem dX5_isTakenByDraft_32 : decode cX5_isTakenByDraft 32 = .ok (.iaload, 1) := by decide +kernel
theorem dX5_isTakenByDraft_33 : decode cX5_isTakenByDraft 33 = .ok (.iload_n 1, 1) := by decide +kernel
theorem dX5_isTakenByDraft_34 : decode cX5_isTakenByDraft 34 = .ok (.if_icmp .ne 24, 3) := by decide +kernel
theorem dX5_isTakenByDraft_37 : decode cX5_isTakenByDraft 37 = .ok (.aload_n 0, 1) := by decide +kernel
theorem dX5_isTakenByDraft_38 : decode cX5_isTakenByDraft 38 = .ok (.getfield 33, 3) := by decide +kernel
theorem dX5_isTakenByDraft_41 : decode cX5_isTakenByDraft 41 = .ok (.iconst 1, 1) := by decide +kernel
theorem dX5_isTakenByDraft_42 : decode cX5_isTakenByDraft 42 = .ok (.iconst 5, 1) := by decide +kernel
theorem dX5_isTakenByDraft_43 : decode cX5_isTakenByDraft 43 = .ok (.iload 4, 2) := by decide +kernel
theorem dX5_isTakenByDraft_45 : decode cX5_isTakenByDraft 45 = .ok (.imul, 1) := by decide +kernel
theorem dX5_isTakenByDraft_46 : decode cX5_isTakenByDraft 46 = .ok (.iadd, 1) := by decide +kernel
theorem dX5_isTakenByDraft_47 : decode cX5_isTakenByDraft 47 = .ok (.iconst 1, 1) := by decide +kernel
theorem dX5_isTakenByDraft_48 : decode cX5_isTakenByDraft 48 = .ok (.iadd, 1) := by decide +kernel
theorem dX5_isTakenByDraft_49 : decode cX5_isTakenByDraft 49 = .ok (.iaload, 1) := by decide +kernel
theorem dX5_isTakenByDraft_50 : decode cX5_isTakenByDraft 50 = .ok (.iload_n 2, 1) := by decide +kernel
theorem dX5_isTakenByDraft_51 : decode cX5_isTakenByDraft 51 = .ok (.if_icmp .ne 7, 3) := by decide +kernel
theorem dX5_isTakenByDraft_54 : decode cX5_isTakenByDraft 54 = .ok (.iconst 1, 1) := by decide +kernel
theorem dX5_isTakenByDraft_55 : decode cX5_isTakenByDraft 55 = .ok (.goto 4, 3) := by decide +kernel
theorem dX5_isTakenByDraft_58 : decode cX5_isTakenByDraft 58 = .ok (.iconst 0, 1) := by decide +kernel
theorem dX5_isTakenByDraft_59 : decode cX5_isTakenByDraft 59 = .ok (.istore_n 3, 1) := by decide +kernel
theorem dX5_isTakenByDraft_60 : decode cX5_isTakenByDraft 60 = .ok (.iinc 4 1, 3) := by decide +kernel
theorem dX5_isTakenByDraft_63 : decode cX5_isTakenByDraft 63 = .ok (.goto (-58), 3) := by decide +kernel
theorem dX5_isTakenByDraft_66 : decode cX5_isTakenByDraft 66 = .ok (.iload_n 3, 1) := by decide +kernel
theorem dX5_isTakenByDraft_67 : decode cX5_isTakenByDraft 67 = .ok (.ireturn, 1) := by decide +kernel
theorem dX5_readsPile_0 : decode cX5_readsPile 0 = .ok (.aload_n 0, 1) := by decide +kernel
theorem dX5_readsPile_1 : decode cX5_readsPile 1 = .ok (.aload_n 0, 1) := by decide +kernel
theorem dX5_readsPile_2 : decode cX5_readsPile 2 = .ok (.getfield 33, 3) := by decide +kernel
theorem dX5_readsPile_5 : decode cX5_readsPile 5 = .ok (.iconst 0, 1) := by decide +kernel
theorem dX5_readsPile_6 : decode cX5_readsPile 6 = .ok (.iaload, 1) := by decide +kernel
theorem dX5_readsPile_7 : decode cX5_readsPile 7 = .ok (.bipush 8, 2) := by decide +kernel
theorem dX5_readsPile_9 : decode cX5_readsPile 9 = .ok (.if_icmp .ge 7, 3) := by decide +kernel
theorem dX5_readsPile_12 : decode cX5_readsPile 12 = .ok (.iconst 1, 1) := by decide +kernel
theorem dX5_readsPile_13 : decode cX5_readsPile 13 = .ok (.goto 4, 3) := by decide +kernel
theorem dX5_readsPile_16 : decode cX5_readsPile 16 = .ok (.iconst 0, 1) := by decide +kernel
theorem dX5_readsPile_17 : decode cX5_readsPile 17 = .ok (.invokevirtual 83, 3) := by decide +kernel
theorem dX5_readsPile_20 : decode cX5_readsPile 20 = .ok (.aload_n 0, 1) := by decide +kernel
theorem dX5_readsPile_21 : decode cX5_readsPile 21 = .ok (.getfield 80, 3) := by decide +kernel
theorem dX5_readsPile_24 : decode cX5_readsPile 24 = .ok (.bipush (-9), 2) := by decide +kernel
theorem dX5_readsPile_26 : decode cX5_readsPile 26 = .ok (.if_icmp .eq 4, 3) := by decide +kernel
theorem dX5_readsPile_29 : decode cX5_readsPile 29 = .ok (.return_, 1) := by decide +kernel
theorem dX5_readsPile_30 : decode cX5_readsPile 30 = .ok (.aload_n 0, 1) := by decide +kernel
theorem dX5_readsPile_31 : decode cX5_readsPile 31 = .ok (.invokevirtual 87, 3) := by decide +kernel
theorem dX5_readsPile_34 : decode cX5_readsPile 34 = .ok (.iconst 1, 1) := by decide +kernel
theorem dX5_readsPile_35 : decode cX5_readsPile 35 = .ok (.iconst 5, 1) := by decide +kernel
theorem dX5_readsPile_36 : decode cX5_readsPile 36 = .ok (.aload_n 0, 1) := by decide +kernel
theorem dX5_readsPile_37 : decode cX5_readsPile 37 = .ok (.getfield 33, 3) := by decide +kernel
theorem dX5_readsPile_40 : decode cX5_readsPile 40 = .ok (.iconst 0, 1) := by decide +kernel
theorem dX5_readsPile_41 : decode cX5_readsPile 41 = .ok (.iaload, 1) := by decide +kernel
theorem dX5_readsPile_42 : decode cX5_readsPile 42 = .ok (.imul, 1) := by decide +kernel
theorem dX5_readsPile_43 : decode cX5_readsPile 43 = .ok (.iadd, 1) := by decide +kernel
theorem dX5_readsPile_44 : decode cX5_readsPile 44 = .ok (.istore_n 1, 1) := by decide +kernel
theorem dX5_readsPile_45 : decode cX5_readsPile 45 = .ok (.aload_n 0, 1) := by decide +kernel
theorem dX5_readsPile_46 : decode cX5_readsPile 46 = .ok (.iload_n 1, 1) := by decide +kernel
theorem dX5_readsPile_47 : decode cX5_readsPile 47 = .ok (.iconst 0, 1) := by decide +kernel
theorem dX5_readsPile_48 : decode cX5_readsPile 48 = .ok (.iadd, 1) := by decide +kernel
theorem dX5_readsPile_49 : decode cX5_readsPile 49 = .ok (.iconst 0, 1) := by decide +kernel
theorem dX5_readsPile_50 : decode cX5_readsPile 50 = .ok (.bipush 18, 2) := by decide +kernel
theorem dX5_readsPile_52 : decode cX5_readsPile 52 = .ok (.bipush 9, 2) := by decide +kernel
theorem dX5_readsPile_54 : decode cX5_readsPile 54 = .ok (.invokevirtual 90, 3) := by decide +kernel
theorem dX5_readsPile_57 : decode cX5_readsPile 57 = .ok (.aload_n 0, 1) := by decide +kernel
theorem dX5_readsPile_58 : decode cX5_readsPile 58 = .ok (.aload_n 0, 1) := by decide +kernel
theorem dX5_readsPile_59 : decode cX5_readsPile 59 = .ok (.getfield 70, 3) := by decide +kernel
theorem dX5_readsPile_62 : decode cX5_readsPile 62 = .ok (.ifCond .ne 42, 3) := by decide +kernel
theorem dX5_readsPile_65 : decode cX5_readsPile 65 = .ok (.aload_n 0, 1) := by decide +kernel
theorem dX5_readsPile_66 : decode cX5_readsPile 66 = .ok (.getfield 77, 3) := by decide +kernel
theorem dX5_readsPile_69 : decode cX5_readsPile 69 = .ok (.iconst 0, 1) := by decide +kernel
theorem dX5_readsPile_70 : decode cX5_readsPile 70 = .ok (.bipush 18, 2) := by decide +kernel
theorem dX5_readsPile_72 : decode cX5_readsPile 72 = .ok (.invokestatic 57, 3) := by decide +kernel
theorem dX5_readsPile_75 : decode cX5_readsPile 75 = .ok (.ifCond .eq 29, 3) := by decide +kernel
theorem dX5_readsPile_78 : decode cX5_readsPile 78 = .ok (.aload_n 0, 1) := by decide +kernel
theorem dX5_readsPile_79 : decode cX5_readsPile 79 = .ok (.aload_n 0, 1) := by decide +kernel
theorem dX5_readsPile_80 : decode cX5_readsPile 80 = .ok (.getfield 33, 3) := by decide +kernel
theorem dX5_readsPile_83 : decode cX5_readsPile 83 = .ok (.iload_n 1, 1) := by decide +kernel
theorem dX5_readsPile_84 : decode cX5_readsPile 84 = .ok (.iconst 0, 1) := by decide +kernel
theorem dX5_readsPile_85 : decode cX5_readsPile 85 = .ok (.iadd, 1) := by decide +kernel
theorem dX5_readsPile_86 : decode cX5_readsPile 86 = .ok (.iaload, 1) := by decide +kernel
theorem dX5_readsPile_87 : decode cX5_readsPile 87 = .ok (.aload_n 0, 1) := by decide +kernel
theorem dX5_readsPile_88 : decode cX5_readsPile 88 = .ok (.getfield 77, 3) := by decide +kernel
theorem dX5_readsPile_91 : decode cX5_readsPile 91 = .ok (.bipush 9, 2) := by decide +kernel
theorem dX5_readsPile_93 : decode cX5_readsPile 93 = .ok (.isub, 1) := by decide +kernel
theorem dX5_readsPile_94 : decode cX5_readsPile 94 = .ok (.invokevirtual 94, 3) := by decide +kernel
theorem dX5_readsPile_97 : decode cX5_readsPile 97 = .ok (.ifCond .ne 7, 3) := by decide +kernel
theorem dX5_readsPile_100 : decode cX5_readsPile 100 = .ok (.iconst 1, 1) := by decide +kernel
theorem dX5_readsPile_101 : decode cX5_readsPile 101 = .ok (.goto 4, 3) := by decide +kernel
theorem dX5_readsPile_104 : decode cX5_readsPile 104 = .ok (.iconst 0, 1) := by decide +kernel
theorem dX5_readsPile_105 : decode cX5_readsPile 105 = .ok (.invokevirtual 83, 3) := by decide +kernel
theorem dX5_readsPile_108 : decode cX5_readsPile 108 = .ok (.aload_n 0, 1) := by decide +kernel
theorem dX5_readsPile_109 : decode cX5_readsPile 109 = .ok (.iload_n 1, 1) := by decide +kernel
theorem dX5_readsPile_110 : decode cX5_readsPile 110 = .ok (.iconst 1, 1) := by decide +kernel
theorem dX5_readsPile_111 : decode cX5_readsPile 111 = .ok (.iadd, 1) := by decide +kernel
theorem dX5_readsPile_112 : decode cX5_readsPile 112 = .ok (.iconst 0, 1) := by decide +kernel
theorem dX5_readsPile_113 : decode cX5_readsPile 113 = .ok (.bipush 18, 2) := by decide +kernel
theorem dX5_readsPile_115 : decode cX5_readsPile 115 = .ok (.bipush 9, 2) := by decide +kernel
theorem dX5_readsPile_117 : decode cX5_readsPile 117 = .ok (.invokevirtual 90, 3) := by decide +kernel
theorem dX5_readsPile_120 : decode cX5_readsPile 120 = .ok (.aload_n 0, 1) := by decide +kernel
theorem dX5_readsPile_121 : decode cX5_readsPile 121 = .ok (.iload_n 1, 1) := by decide +kernel
theorem dX5_readsPile_122 : decode cX5_readsPile 122 = .ok (.iconst 2, 1) := by decide +kernel
theorem dX5_readsPile_123 : decode cX5_readsPile 123 = .ok (.iadd, 1) := by decide +kernel
theorem dX5_readsPile_124 : decode cX5_readsPile 124 = .ok (.iconst 1, 1) := by decide +kernel
theorem dX5_readsPile_125 : decode cX5_readsPile 125 = .ok (.bipush 9, 2) := by decide +kernel
theorem dX5_readsPile_127 : decode cX5_readsPile 127 = .ok (.iconst 0, 1) := by decide +kernel
theorem dX5_readsPile_128 : decode cX5_readsPile 128 = .ok (.invokevirtual 90, 3) := by decide +kernel
theorem dX5_readsPile_131 : decode cX5_readsPile 131 = .ok (.aload_n 0, 1) := by decide +kernel
theorem dX5_readsPile_132 : decode cX5_readsPile 132 = .ok (.iload_n 1, 1) := by decide +kernel
theorem dX5_readsPile_133 : decode cX5_readsPile 133 = .ok (.iconst 3, 1) := by decide +kernel
theorem dX5_readsPile_134 : decode cX5_readsPile 134 = .ok (.iadd, 1) := by decide +kernel
theorem dX5_readsPile_135 : decode cX5_readsPile 135 = .ok (.iconst 1, 1) := by decide +kernel
theorem dX5_readsPile_136 : decode cX5_readsPile 136 = .ok (.bipush 99, 2) := by decide +kernel
theorem dX5_readsPile_138 : decode cX5_readsPile 138 = .ok (.iconst 0, 1) := by decide +kernel
theorem dX5_readsPile_139 : decode cX5_readsPile 139 = .ok (.invokevirtual 90, 3) := by decide +kernel
theorem dX5_readsPile_142 : decode cX5_readsPile 142 = .ok (.aload_n 0, 1) := by decide +kernel
theorem dX5_readsPile_143 : decode cX5_readsPile 143 = .ok (.getfield 33, 3) := by decide +kernel
theorem dX5_readsPile_146 : decode cX5_readsPile 146 = .ok (.iload_n 1, 1) := by decide +kernel
theorem dX5_readsPile_147 : decode cX5_readsPile 147 = .ok (.iconst 4, 1) := by decide +kernel
theorem dX5_readsPile_148 : decode cX5_readsPile 148 = .ok (.iadd, 1) := by decide +kernel
theorem dX5_readsPile_149 : decode cX5_readsPile 149 = .ok (.iconst 0, 1) := by decide +kernel
theorem dX5_readsPile_150 : decode cX5_readsPile 150 = .ok (.iastore, 1) := by decide +kernel
theorem dX5_readsPile_151 : decode cX5_readsPile 151 = .ok (.aload_n 0, 1) := by decide +kernel
theorem dX5_readsPile_152 : decode cX5_readsPile 152 = .ok (.getfield 33, 3) := by decide +kernel
theorem dX5_readsPile_155 : decode cX5_readsPile 155 = .ok (.iconst 0, 1) := by decide +kernel
theorem dX5_readsPile_156 : decode cX5_readsPile 156 = .ok (.dup2, 1) := by decide +kernel
theorem dX5_readsPile_157 : decode cX5_readsPile 157 = .ok (.iaload, 1) := by decide +kernel
theorem dX5_readsPile_158 : decode cX5_readsPile 158 = .ok (.iconst 1, 1) := by decide +kernel
theorem dX5_readsPile_159 : decode cX5_readsPile 159 = .ok (.iadd, 1) := by decide +kernel
theorem dX5_readsPile_160 : decode cX5_readsPile 160 = .ok (.iastore, 1) := by decide +kernel
theorem dX5_readsPile_161 : decode cX5_readsPile 161 = .ok (.return_, 1) := by decide +kernel
theorem dX5_readsColumn_0 : decode cX5_readsColumn 0 = .ok (.aload_n 0, 1) := by decide +kernel
theorem dX5_readsColumn_1 : decode cX5_readsColumn 1 = .ok (.aload_n 0, 1) := by decide +kernel
theorem dX5_readsColumn_2 : decode cX5_readsColumn 2 = .ok (.getfield 33, 3) := by decide +kernel
theorem dX5_readsColumn_5 : decode cX5_readsColumn 5 = .ok (.bipush 41, 2) := by decide +kernel
theorem dX5_readsColumn_7 : decode cX5_readsColumn 7 = .ok (.iaload, 1) := by decide +kernel
theorem dX5_readsColumn_8 : decode cX5_readsColumn 8 = .ok (.iconst 5, 1) := by decide +kernel
theorem dX5_readsColumn_9 : decode cX5_readsColumn 9 = .ok (.if_icmp .ge 7, 3) := by decide +kernel
theorem dX5_readsColumn_12 : decode cX5_readsColumn 12 = .ok (.iconst 1, 1) := by decide +kernel
theorem dX5_readsColumn_13 : decode cX5_readsColumn 13 = .ok (.goto 4, 3) := by decide +kernel
theorem dX5_readsColumn_16 : decode cX5_readsColumn 16 = .ok (.iconst 0, 1) := by decide +kernel
theorem dX5_readsColumn_17 : decode cX5_readsColumn 17 = .ok (.invokevirtual 83, 3) := by decide +kernel
theorem dX5_readsColumn_20 : decode cX5_readsColumn 20 = .ok (.aload_n 0, 1) := by decide +kernel
theorem dX5_readsColumn_21 : decode cX5_readsColumn 21 = .ok (.getfield 80, 3) := by decide +kernel
theorem dX5_readsColumn_24 : decode cX5_readsColumn 24 = .ok (.bipush (-9), 2) := by decide +kernel
theorem dX5_readsColumn_26 : decode cX5_readsColumn 26 = .ok (.if_icmp .eq 4, 3) := by decide +kernel
theorem dX5_readsColumn_29 : decode cX5_readsColumn 29 = .ok (.return_, 1) := by decide +kernel
theorem dX5_readsColumn_30 : decode cX5_readsColumn 30 = .ok (.aload_n 0, 1) := by decide +kernel
theorem dX5_readsColumn_31 : decode cX5_readsColumn 31 = .ok (.invokevirtual 87, 3) := by decide +kernel
theorem dX5_readsColumn_34 : decode cX5_readsColumn 34 = .ok (.bipush 42, 2) := by decide +kernel
theorem dX5_readsColumn_36 : decode cX5_readsColumn 36 = .ok (.iconst 3, 1) := by decide +kernel
theorem dX5_readsColumn_37 : decode cX5_readsColumn 37 = .ok (.aload_n 0, 1) := by decide +kernel
theorem dX5_readsColumn_38 : decode cX5_readsColumn 38 = .ok (.getfield 33, 3) := by decide +kernel
theorem dX5_readsColumn_41 : decode cX5_readsColumn 41 = .ok (.bipush 41, 2) := by decide +kernel
theorem dX5_readsColumn_43 : decode cX5_readsColumn 43 = .ok (.iaload, 1) := by decide +kernel
theorem dX5_readsColumn_44 : decode cX5_readsColumn 44 = .ok (.imul, 1) := by decide +kernel
theorem dX5_readsColumn_45 : decode cX5_readsColumn 45 = .ok (.iadd, 1) := by decide +kernel
theorem dX5_readsColumn_46 : decode cX5_readsColumn 46 = .ok (.istore_n 1, 1) := by decide +kernel
theorem dX5_readsColumn_47 : decode cX5_readsColumn 47 = .ok (.aload_n 0, 1) := by decide +kernel
theorem dX5_readsColumn_48 : decode cX5_readsColumn 48 = .ok (.iload_n 1, 1) := by decide +kernel
theorem dX5_readsColumn_49 : decode cX5_readsColumn 49 = .ok (.iconst 0, 1) := by decide +kernel
theorem dX5_readsColumn_50 : decode cX5_readsColumn 50 = .ok (.iadd, 1) := by decide +kernel
theorem dX5_readsColumn_51 : decode cX5_readsColumn 51 = .ok (.iconst 0, 1) := by decide +kernel
theorem dX5_readsColumn_52 : decode cX5_readsColumn 52 = .ok (.bipush 18, 2) := by decide +kernel
theorem dX5_readsColumn_54 : decode cX5_readsColumn 54 = .ok (.bipush 9, 2) := by decide +kernel
theorem dX5_readsColumn_56 : decode cX5_readsColumn 56 = .ok (.invokevirtual 90, 3) := by decide +kernel
theorem dX5_readsColumn_59 : decode cX5_readsColumn 59 = .ok (.aload_n 0, 1) := by decide +kernel
theorem dX5_readsColumn_60 : decode cX5_readsColumn 60 = .ok (.iload_n 1, 1) := by decide +kernel
theorem dX5_readsColumn_61 : decode cX5_readsColumn 61 = .ok (.iconst 1, 1) := by decide +kernel
theorem dX5_readsColumn_62 : decode cX5_readsColumn 62 = .ok (.iadd, 1) := by decide +kernel
theorem dX5_readsColumn_63 : decode cX5_readsColumn 63 = .ok (.iconst 0, 1) := by decide +kernel
theorem dX5_readsColumn_64 : decode cX5_readsColumn 64 = .ok (.bipush 18, 2) := by decide +kernel
theorem dX5_readsColumn_66 : decode cX5_readsColumn 66 = .ok (.bipush 9, 2) := by decide +kernel
theorem dX5_readsColumn_68 : decode cX5_readsColumn 68 = .ok (.invokevirtual 90, 3) := by decide +kernel
theorem dX5_readsColumn_71 : decode cX5_readsColumn 71 = .ok (.aload_n 0, 1) := by decide +kernel
theorem dX5_readsColumn_72 : decode cX5_readsColumn 72 = .ok (.iload_n 1, 1) := by decide +kernel
theorem dX5_readsColumn_73 : decode cX5_readsColumn 73 = .ok (.iconst 2, 1) := by decide +kernel
theorem dX5_readsColumn_74 : decode cX5_readsColumn 74 = .ok (.iadd, 1) := by decide +kernel
theorem dX5_readsColumn_75 : decode cX5_readsColumn 75 = .ok (.iconst 0, 1) := by decide +kernel
theorem dX5_readsColumn_76 : decode cX5_readsColumn 76 = .ok (.bipush 99, 2) := by decide +kernel
theorem dX5_readsColumn_78 : decode cX5_readsColumn 78 = .ok (.iconst 0, 1) := by decide +kernel
theorem dX5_readsColumn_79 : decode cX5_readsColumn 79 = .ok (.invokevirtual 90, 3) := by decide +kernel
theorem dX5_readsColumn_82 : decode cX5_readsColumn 82 = .ok (.aload_n 0, 1) := by decide +kernel
theorem dX5_readsColumn_83 : decode cX5_readsColumn 83 = .ok (.getfield 33, 3) := by decide +kernel
theorem dX5_readsColumn_86 : decode cX5_readsColumn 86 = .ok (.bipush 41, 2) := by decide +kernel
theorem dX5_readsColumn_88 : decode cX5_readsColumn 88 = .ok (.dup2, 1) := by decide +kernel
theorem dX5_readsColumn_89 : decode cX5_readsColumn 89 = .ok (.iaload, 1) := by decide +kernel
theorem dX5_readsColumn_90 : decode cX5_readsColumn 90 = .ok (.iconst 1, 1) := by decide +kernel
theorem dX5_readsColumn_91 : decode cX5_readsColumn 91 = .ok (.iadd, 1) := by decide +kernel
theorem dX5_readsColumn_92 : decode cX5_readsColumn 92 = .ok (.iastore, 1) := by decide +kernel
theorem dX5_readsColumn_93 : decode cX5_readsColumn 93 = .ok (.return_, 1) := by decide +kernel
theorem dX5_readsWind_0 : decode cX5_readsWind 0 = .ok (.aload_n 0, 1) := by decide +kernel
theorem dX5_readsWind_1 : decode cX5_readsWind 1 = .ok (.aload_n 0, 1) := by decide +kernel
theorem dX5_readsWind_2 : decode cX5_readsWind 2 = .ok (.getfield 98, 3) := by decide +kernel
theorem dX5_readsWind_5 : decode cX5_readsWind 5 = .ok (.ifCond .ne 7, 3) := by decide +kernel
theorem dX5_readsWind_8 : decode cX5_readsWind 8 = .ok (.iconst 1, 1) := by decide +kernel
theorem dX5_readsWind_9 : decode cX5_readsWind 9 = .ok (.goto 4, 3) := by decide +kernel
theorem dX5_readsWind_12 : decode cX5_readsWind 12 = .ok (.iconst 0, 1) := by decide +kernel
theorem dX5_readsWind_13 : decode cX5_readsWind 13 = .ok (.invokevirtual 83, 3) := by decide +kernel
theorem dX5_readsWind_16 : decode cX5_readsWind 16 = .ok (.aload_n 0, 1) := by decide +kernel
theorem dX5_readsWind_17 : decode cX5_readsWind 17 = .ok (.getfield 80, 3) := by decide +kernel
theorem dX5_readsWind_20 : decode cX5_readsWind 20 = .ok (.bipush (-9), 2) := by decide +kernel
theorem dX5_readsWind_22 : decode cX5_readsWind 22 = .ok (.if_icmp .eq 4, 3) := by decide +kernel
theorem dX5_readsWind_25 : decode cX5_readsWind 25 = .ok (.return_, 1) := by decide +kernel
theorem dX5_readsWind_26 : decode cX5_readsWind 26 = .ok (.aload_n 0, 1) := by decide +kernel
theorem dX5_readsWind_27 : decode cX5_readsWind 27 = .ok (.invokevirtual 87, 3) := by decide +kernel
theorem dX5_readsWind_30 : decode cX5_readsWind 30 = .ok (.aload_n 0, 1) := by decide +kernel
theorem dX5_readsWind_31 : decode cX5_readsWind 31 = .ok (.iconst 1, 1) := by decide +kernel
theorem dX5_readsWind_32 : decode cX5_readsWind 32 = .ok (.putfield 98, 3) := by decide +kernel
theorem dX5_readsWind_35 : decode cX5_readsWind 35 = .ok (.aload_n 0, 1) := by decide +kernel
theorem dX5_readsWind_36 : decode cX5_readsWind 36 = .ok (.bipush 57, 2) := by decide +kernel
theorem dX5_readsWind_38 : decode cX5_readsWind 38 = .ok (.iconst 0, 1) := by decide +kernel
theorem dX5_readsWind_39 : decode cX5_readsWind 39 = .ok (.sipush 198, 3) := by decide +kernel
theorem dX5_readsWind_42 : decode cX5_readsWind 42 = .ok (.bipush 99, 2) := by decide +kernel
theorem dX5_readsWind_44 : decode cX5_readsWind 44 = .ok (.invokevirtual 90, 3) := by decide +kernel
theorem dX5_readsWind_47 : decode cX5_readsWind 47 = .ok (.aload_n 0, 1) := by decide +kernel
theorem dX5_readsWind_48 : decode cX5_readsWind 48 = .ok (.bipush 58, 2) := by decide +kernel
theorem dX5_readsWind_50 : decode cX5_readsWind 50 = .ok (.iconst 0, 1) := by decide +kernel
theorem dX5_readsWind_51 : decode cX5_readsWind 51 = .ok (.sipush 198, 3) := by decide +kernel
theorem dX5_readsWind_54 : decode cX5_readsWind 54 = .ok (.bipush 99, 2) := by decide +kernel
theorem dX5_readsWind_56 : decode cX5_readsWind 56 = .ok (.invokevirtual 90, 3) := by decide +kernel
theorem dX5_readsWind_59 : decode cX5_readsWind 59 = .ok (.return_, 1) := by decide +kernel
theorem dX5_tells_0 : decode cX5_tells 0 = .ok (.iconst 0, 1) := by decide +kernel
theorem dX5_tells_1 : decode cX5_tells 1 = .ok (.istore_n 1, 1) := by decide +kernel
theorem dX5_tells_2 : decode cX5_tells 2 = .ok (.iload_n 1, 1) := by decide +kernel
theorem dX5_tells_3 : decode cX5_tells 3 = .ok (.bipush 59, 2) := by decide +kernel
theorem dX5_tells_5 : decode cX5_tells 5 = .ok (.if_icmp .ge 16, 3) := by decide +kernel
theorem dX5_tells_8 : decode cX5_tells 8 = .ok (.aload_n 0, 1) := by decide +kernel
theorem dX5_tells_9 : decode cX5_tells 9 = .ok (.getfield 33, 3) := by decide +kernel
theorem dX5_tells_12 : decode cX5_tells 12 = .ok (.iload_n 1, 1) := by decide +kernel
theorem dX5_tells_13 : decode cX5_tells 13 = .ok (.iconst 0, 1) := by decide +kernel
theorem dX5_tells_14 : decode cX5_tells 14 = .ok (.iastore, 1) := by decide +kernel
theorem dX5_tells_15 : decode cX5_tells 15 = .ok (.iinc 1 1, 3) := by decide +kernel
theorem dX5_tells_18 : decode cX5_tells 18 = .ok (.goto (-16), 3) := by decide +kernel
theorem dX5_tells_21 : decode cX5_tells 21 = .ok (.aload_n 0, 1) := by decide +kernel
theorem dX5_tells_22 : decode cX5_tells 22 = .ok (.iconst 0, 1) := by decide +kernel
theorem dX5_tells_23 : decode cX5_tells 23 = .ok (.putfield 64, 3) := by decide +kernel
theorem dX5_tells_26 : decode cX5_tells 26 = .ok (.aload_n 0, 1) := by decide +kernel
theorem dX5_tells_27 : decode cX5_tells 27 = .ok (.bipush (-9), 2) := by decide +kernel
theorem dX5_tells_29 : decode cX5_tells 29 = .ok (.putfield 80, 3) := by decide +kernel
theorem dX5_tells_32 : decode cX5_tells 32 = .ok (.aload_n 0, 1) := by decide +kernel
theorem dX5_tells_33 : decode cX5_tells 33 = .ok (.iconst 0, 1) := by decide +kernel
theorem dX5_tells_34 : decode cX5_tells 34 = .ok (.putfield 98, 3) := by decide +kernel
theorem dX5_tells_37 : decode cX5_tells 37 = .ok (.iconst 0, 1) := by decide +kernel
theorem dX5_tells_38 : decode cX5_tells 38 = .ok (.istore_n 1, 1) := by decide +kernel
theorem dX5_tells_39 : decode cX5_tells 39 = .ok (.aload_n 0, 1) := by decide +kernel
theorem dX5_tells_40 : decode cX5_tells 40 = .ok (.invokevirtual 87, 3) := by decide +kernel
theorem dX5_tells_43 : decode cX5_tells 43 = .ok (.aload_n 0, 1) := by decide +kernel
theorem dX5_tells_44 : decode cX5_tells 44 = .ok (.getfield 80, 3) := by decide +kernel
theorem dX5_tells_47 : decode cX5_tells 47 = .ok (.bipush (-9), 2) := by decide +kernel
theorem dX5_tells_49 : decode cX5_tells 49 = .ok (.if_icmp .ne 101, 3) := by decide +kernel
theorem dX5_tells_52 : decode cX5_tells 52 = .ok (.aload_n 0, 1) := by decide +kernel
theorem dX5_tells_53 : decode cX5_tells 53 = .ok (.getfield 70, 3) := by decide +kernel
theorem dX5_tells_56 : decode cX5_tells 56 = .ok (.iconst (-1), 1) := by decide +kernel
theorem dX5_tells_57 : decode cX5_tells 57 = .ok (.if_icmp .eq 93, 3) := by decide +kernel
theorem dX5_tells_60 : decode cX5_tells 60 = .ok (.aload_n 0, 1) := by decide +kernel
theorem dX5_tells_61 : decode cX5_tells 61 = .ok (.getfield 70, 3) := by decide +kernel
theorem dX5_tells_64 : decode cX5_tells 64 = .ok (.bipush 112, 2) := by decide +kernel
theorem dX5_tells_66 : decode cX5_tells 66 = .ok (.if_icmp .ne 10, 3) := by decide +kernel
theorem dX5_tells_69 : decode cX5_tells 69 = .ok (.aload_n 0, 1) := by decide +kernel
theorem dX5_tells_70 : decode cX5_tells 70 = .ok (.invokevirtual 102, 3) := by decide +kernel
theorem dX5_tells_73 : decode cX5_tells 73 = .ok (.goto 40, 3) := by decide +kernel
theorem dX5_tells_76 : decode cX5_tells 76 = .ok (.aload_n 0, 1) := by decide +kernel
theorem dX5_tells_77 : decode cX5_tells 77 = .ok (.getfield 70, 3) := by decide +kernel
theorem dX5_tells_80 : decode cX5_tells 80 = .ok (.bipush 99, 2) := by decide +kernel
theorem dX5_tells_82 : decode cX5_tells 82 = .ok (.if_icmp .ne 10, 3) := by decide +kernel
theorem dX5_tells_85 : decode cX5_tells 85 = .ok (.aload_n 0, 1) := by decide +kernel
theorem dX5_tells_86 : decode cX5_tells 86 = .ok (.invokevirtual 105, 3) := by decide +kernel
theorem dX5_tells_89 : decode cX5_tells 89 = .ok (.goto 24, 3) := by decide +kernel
theorem dX5_tells_92 : decode cX5_tells 92 = .ok (.aload_n 0, 1) := by decide +kernel
theorem dX5_tells_93 : decode cX5_tells 93 = .ok (.getfield 70, 3) := by decide +kernel
theorem dX5_tells_96 : decode cX5_tells 96 = .ok (.bipush 119, 2) := by decide +kernel
theorem dX5_tells_98 : decode cX5_tells 98 = .ok (.if_icmp .ne 10, 3) := by decide +kernel
theorem dX5_tells_101 : decode cX5_tells 101 = .ok (.aload_n 0, 1) := by decide +kernel
theorem dX5_tells_102 : decode cX5_tells 102 = .ok (.invokevirtual 108, 3) := by decide +kernel
theorem dX5_tells_105 : decode cX5_tells 105 = .ok (.goto 8, 3) := by decide +kernel
theorem dX5_tells_108 : decode cX5_tells 108 = .ok (.aload_n 0, 1) := by decide +kernel
theorem dX5_tells_109 : decode cX5_tells 109 = .ok (.iconst 0, 1) := by decide +kernel
theorem dX5_tells_110 : decode cX5_tells 110 = .ok (.invokevirtual 83, 3) := by decide +kernel
theorem dX5_tells_113 : decode cX5_tells 113 = .ok (.aload_n 0, 1) := by decide +kernel
theorem dX5_tells_114 : decode cX5_tells 114 = .ok (.aload_n 0, 1) := by decide +kernel
theorem dX5_tells_115 : decode cX5_tells 115 = .ok (.getfield 70, 3) := by decide +kernel
theorem dX5_tells_118 : decode cX5_tells 118 = .ok (.bipush 59, 2) := by decide +kernel
theorem dX5_tells_120 : decode cX5_tells 120 = .ok (.if_icmp .ne 7, 3) := by decide +kernel
theorem dX5_tells_123 : decode cX5_tells 123 = .ok (.iconst 1, 1) := by decide +kernel
theorem dX5_tells_124 : decode cX5_tells 124 = .ok (.goto 4, 3) := by decide +kernel
theorem dX5_tells_127 : decode cX5_tells 127 = .ok (.iconst 0, 1) := by decide +kernel
theorem dX5_tells_128 : decode cX5_tells 128 = .ok (.invokevirtual 83, 3) := by decide +kernel
theorem dX5_tells_131 : decode cX5_tells 131 = .ok (.aload_n 0, 1) := by decide +kernel
theorem dX5_tells_132 : decode cX5_tells 132 = .ok (.getfield 80, 3) := by decide +kernel
theorem dX5_tells_135 : decode cX5_tells 135 = .ok (.bipush (-9), 2) := by decide +kernel
theorem dX5_tells_137 : decode cX5_tells 137 = .ok (.if_icmp .ne 7, 3) := by decide +kernel
theorem dX5_tells_140 : decode cX5_tells 140 = .ok (.aload_n 0, 1) := by decide +kernel
theorem dX5_tells_141 : decode cX5_tells 141 = .ok (.invokevirtual 87, 3) := by decide +kernel
theorem dX5_tells_144 : decode cX5_tells 144 = .ok (.iinc 1 1, 3) := by decide +kernel
theorem dX5_tells_147 : decode cX5_tells 147 = .ok (.goto (-104), 3) := by decide +kernel
theorem dX5_tells_150 : decode cX5_tells 150 = .ok (.aload_n 0, 1) := by decide +kernel
theorem dX5_tells_151 : decode cX5_tells 151 = .ok (.getfield 80, 3) := by decide +kernel
theorem dX5_tells_154 : decode cX5_tells 154 = .ok (.bipush (-9), 2) := by decide +kernel
theorem dX5_tells_156 : decode cX5_tells 156 = .ok (.if_icmp .eq 11, 3) := by decide +kernel
theorem dX5_tells_159 : decode cX5_tells 159 = .ok (.bipush (-10), 2) := by decide +kernel
theorem dX5_tells_161 : decode cX5_tells 161 = .ok (.aload_n 0, 1) := by decide +kernel
theorem dX5_tells_162 : decode cX5_tells 162 = .ok (.getfield 80, 3) := by decide +kernel
theorem dX5_tells_165 : decode cX5_tells 165 = .ok (.isub, 1) := by decide +kernel
theorem dX5_tells_166 : decode cX5_tells 166 = .ok (.ireturn, 1) := by decide +kernel
theorem dX5_tells_167 : decode cX5_tells 167 = .ok (.iconst 0, 1) := by decide +kernel
theorem dX5_tells_168 : decode cX5_tells 168 = .ok (.istore_n 2, 1) := by decide +kernel
theorem dX5_tells_169 : decode cX5_tells 169 = .ok (.iload_n 2, 1) := by decide +kernel
theorem dX5_tells_170 : decode cX5_tells 170 = .ok (.bipush 59, 2) := by decide +kernel
theorem dX5_tells_172 : decode cX5_tells 172 = .ok (.if_icmp .ge 21, 3) := by decide +kernel
theorem dX5_tells_175 : decode cX5_tells 175 = .ok (.aload_n 0, 1) := by decide +kernel
theorem dX5_tells_176 : decode cX5_tells 176 = .ok (.getfield 7, 3) := by decide +kernel
theorem dX5_tells_179 : decode cX5_tells 179 = .ok (.iload_n 2, 1) := by decide +kernel
theorem dX5_tells_180 : decode cX5_tells 180 = .ok (.aload_n 0, 1) := by decide +kernel
theorem dX5_tells_181 : decode cX5_tells 181 = .ok (.getfield 33, 3) := by decide +kernel
theorem dX5_tells_184 : decode cX5_tells 184 = .ok (.iload_n 2, 1) := by decide +kernel
theorem dX5_tells_185 : decode cX5_tells 185 = .ok (.iaload, 1) := by decide +kernel
theorem dX5_tells_186 : decode cX5_tells 186 = .ok (.iastore, 1) := by decide +kernel
theorem dX5_tells_187 : decode cX5_tells 187 = .ok (.iinc 2 1, 3) := by decide +kernel
theorem dX5_tells_190 : decode cX5_tells 190 = .ok (.goto (-21), 3) := by decide +kernel
theorem dX5_tells_193 : decode cX5_tells 193 = .ok (.aload_n 0, 1) := by decide +kernel
theorem dX5_tells_194 : decode cX5_tells 194 = .ok (.iconst 0, 1) := by decide +kernel
theorem dX5_tells_195 : decode cX5_tells 195 = .ok (.putfield 111, 3) := by decide +kernel
theorem dX5_tells_198 : decode cX5_tells 198 = .ok (.aload_n 0, 1) := by decide +kernel
theorem dX5_tells_199 : decode cX5_tells 199 = .ok (.bipush 10, 2) := by decide +kernel
theorem dX5_tells_201 : decode cX5_tells 201 = .ok (.putfield 23, 3) := by decide +kernel
theorem dX5_tells_204 : decode cX5_tells 204 = .ok (.aload_n 0, 1) := by decide +kernel
theorem dX5_tells_205 : decode cX5_tells 205 = .ok (.iconst 0, 1) := by decide +kernel
theorem dX5_tells_206 : decode cX5_tells 206 = .ok (.putfield 114, 3) := by decide +kernel
theorem dX5_tells_209 : decode cX5_tells 209 = .ok (.aload_n 0, 1) := by decide +kernel
theorem dX5_tells_210 : decode cX5_tells 210 = .ok (.getfield 19, 3) := by decide +kernel
theorem dX5_tells_213 : decode cX5_tells 213 = .ok (.iconst 0, 1) := by decide +kernel
theorem dX5_tells_214 : decode cX5_tells 214 = .ok (.iconst 0, 1) := by decide +kernel
theorem dX5_tells_215 : decode cX5_tells 215 = .ok (.bastore, 1) := by decide +kernel
theorem dX5_tells_216 : decode cX5_tells 216 = .ok (.aload_n 0, 1) := by decide +kernel
theorem dX5_tells_217 : decode cX5_tells 217 = .ok (.getfield 19, 3) := by decide +kernel
theorem dX5_tells_220 : decode cX5_tells 220 = .ok (.iconst 1, 1) := by decide +kernel
theorem dX5_tells_221 : decode cX5_tells 221 = .ok (.iconst 0, 1) := by decide +kernel
theorem dX5_tells_222 : decode cX5_tells 222 = .ok (.bastore, 1) := by decide +kernel
theorem dX5_tells_223 : decode cX5_tells 223 = .ok (.aload_n 0, 1) := by decide +kernel
theorem dX5_tells_224 : decode cX5_tells 224 = .ok (.iconst 0, 1) := by decide +kernel
theorem dX5_tells_225 : decode cX5_tells 225 = .ok (.putfield 61, 3) := by decide +kernel
theorem dX5_tells_228 : decode cX5_tells 228 = .ok (.iload_n 1, 1) := by decide +kernel
theorem dX5_tells_229 : decode cX5_tells 229 = .ok (.ireturn, 1) := by decide +kernel
theorem dX5_notes_0 : decode cX5_notes 0 = .ok (.aload_n 0, 1) := by decide +kernel
theorem dX5_notes_1 : decode cX5_notes 1 = .ok (.getfield 111, 3) := by decide +kernel
theorem dX5_notes_4 : decode cX5_notes 4 = .ok (.bipush 6, 2) := by decide +kernel
theorem dX5_notes_6 : decode cX5_notes 6 = .ok (.if_icmp .ne 43, 3) := by decide +kernel
theorem dX5_notes_9 : decode cX5_notes 9 = .ok (.iconst 0, 1) := by decide +kernel
theorem dX5_notes_10 : decode cX5_notes 10 = .ok (.istore_n 1, 1) := by decide +kernel
theorem dX5_notes_11 : decode cX5_notes 11 = .ok (.iload_n 1, 1) := by decide +kernel
theorem dX5_notes_12 : decode cX5_notes 12 = .ok (.sipush 295, 3) := by decide +kernel
theorem dX5_notes_15 : decode cX5_notes 15 = .ok (.if_icmp .ge 24, 3) := by decide +kernel
theorem dX5_notes_18 : decode cX5_notes 18 = .ok (.aload_n 0, 1) := by decide +kernel
theorem dX5_notes_19 : decode cX5_notes 19 = .ok (.getfield 13, 3) := by decide +kernel
theorem dX5_notes_22 : decode cX5_notes 22 = .ok (.iload_n 1, 1) := by decide +kernel
theorem dX5_notes_23 : decode cX5_notes 23 = .ok (.aload_n 0, 1) := by decide +kernel
theorem dX5_notes_24 : decode cX5_notes 24 = .ok (.getfield 13, 3) := by decide +kernel
theorem dX5_notes_27 : decode cX5_notes 27 = .ok (.iload_n 1, 1) := by decide +kernel
theorem dX5_notes_28 : decode cX5_notes 28 = .ok (.bipush 59, 2) := by decide +kernel
theorem dX5_notes_30 : decode cX5_notes 30 = .ok (.iadd, 1) := by decide +kernel
theorem dX5_notes_31 : decode cX5_notes 31 = .ok (.iaload, 1) := by decide +kernel
theorem dX5_notes_32 : decode cX5_notes 32 = .ok (.iastore, 1) := by decide +kernel
theorem dX5_notes_33 : decode cX5_notes 33 = .ok (.iinc 1 1, 3) := by decide +kernel
theorem dX5_notes_36 : decode cX5_notes 36 = .ok (.goto (-25), 3) := by decide +kernel
theorem dX5_notes_39 : decode cX5_notes 39 = .ok (.aload_n 0, 1) := by decide +kernel
theorem dX5_notes_40 : decode cX5_notes 40 = .ok (.dup, 1) := by decide +kernel
theorem dX5_notes_41 : decode cX5_notes 41 = .ok (.getfield 111, 3) := by decide +kernel
theorem dX5_notes_44 : decode cX5_notes 44 = .ok (.iconst 1, 1) := by decide +kernel
theorem dX5_notes_45 : decode cX5_notes 45 = .ok (.isub, 1) := by decide +kernel
theorem dX5_notes_46 : decode cX5_notes 46 = .ok (.putfield 111, 3) := by decide +kernel
theorem dX5_notes_49 : decode cX5_notes 49 = .ok (.iconst 0, 1) := by decide +kernel
theorem dX5_notes_50 : decode cX5_notes 50 = .ok (.istore_n 1, 1) := by decide +kernel
theorem dX5_notes_51 : decode cX5_notes 51 = .ok (.iload_n 1, 1) := by decide +kernel
theorem dX5_notes_52 : decode cX5_notes 52 = .ok (.bipush 59, 2) := by decide +kernel
theorem dX5_notes_54 : decode cX5_notes 54 = .ok (.if_icmp .ge 29, 3) := by decide +kernel
theorem dX5_notes_57 : decode cX5_notes 57 = .ok (.aload_n 0, 1) := by decide +kernel
theorem dX5_notes_58 : decode cX5_notes 58 = .ok (.getfield 13, 3) := by decide +kernel
theorem dX5_notes_61 : decode cX5_notes 61 = .ok (.bipush 59, 2) := by decide +kernel
theorem dX5_notes_63 : decode cX5_notes 63 = .ok (.aload_n 0, 1) := by decide +kernel
theorem dX5_notes_64 : decode cX5_notes 64 = .ok (.getfield 111, 3) := by decide +kernel
theorem dX5_notes_67 : decode cX5_notes 67 = .ok (.imul, 1) := by decide +kernel
theorem dX5_notes_68 : decode cX5_notes 68 = .ok (.iload_n 1, 1) := by decide +kernel
theorem dX5_notes_69 : decode cX5_notes 69 = .ok (.iadd, 1) := by decide +kernel
theorem dX5_notes_70 : decode cX5_notes 70 = .ok (.aload_n 0, 1) := by decide +kernel
theorem dX5_notes_71 : decode cX5_notes 71 = .ok (.getfield 7, 3) := by decide +kernel
theorem dX5_notes_74 : decode cX5_notes 74 = .ok (.iload_n 1, 1) := by decide +kernel
theorem dX5_notes_75 : decode cX5_notes 75 = .ok (.iaload, 1) := by decide +kernel
theorem dX5_notes_76 : decode cX5_notes 76 = .ok (.iastore, 1) := by decide +kernel
theorem dX5_notes_77 : decode cX5_notes 77 = .ok (.iinc 1 1, 3) := by decide +kernel
theorem dX5_notes_80 : decode cX5_notes 80 = .ok (.goto (-29), 3) := by decide +kernel
theorem dX5_notes_83 : decode cX5_notes 83 = .ok (.aload_n 0, 1) := by decide +kernel
theorem dX5_notes_84 : decode cX5_notes 84 = .ok (.dup, 1) := by decide +kernel
theorem dX5_notes_85 : decode cX5_notes 85 = .ok (.getfield 111, 3) := by decide +kernel
theorem dX5_notes_88 : decode cX5_notes 88 = .ok (.iconst 1, 1) := by decide +kernel
theorem dX5_notes_89 : decode cX5_notes 89 = .ok (.iadd, 1) := by decide +kernel
theorem dX5_notes_90 : decode cX5_notes 90 = .ok (.putfield 111, 3) := by decide +kernel
theorem dX5_notes_93 : decode cX5_notes 93 = .ok (.return_, 1) := by decide +kernel
theorem dX5_isTaken_0 : decode cX5_isTaken 0 = .ok (.iconst 0, 1) := by decide +kernel
theorem dX5_isTaken_1 : decode cX5_isTaken 1 = .ok (.istore_n 3, 1) := by decide +kernel
theorem dX5_isTaken_2 : decode cX5_isTaken 2 = .ok (.iconst 0, 1) := by decide +kernel
theorem dX5_isTaken_3 : decode cX5_isTaken 3 = .ok (.istore 4, 2) := by decide +kernel
theorem dX5_isTaken_5 : decode cX5_isTaken 5 = .ok (.iload 4, 2) := by decide +kernel
theorem dX5_isTaken_7 : decode cX5_isTaken 7 = .ok (.aload_n 0, 1) := by decide +kernel
theorem dX5_isTaken_8 : decode cX5_isTaken 8 = .ok (.getfield 7, 3) := by decide +kernel
theorem dX5_isTaken_11 : decode cX5_isTaken 11 = .ok (.iconst 0, 1) := by decide +kernel
theorem dX5_isTaken_12 : decode cX5_isTaken 12 = .ok (.iaload, 1) := by decide +kernel
theorem dX5_isTaken_13 : decode cX5_isTaken 13 = .ok (.if_icmp .ge 41, 3) := by decide +kernel
theorem dX5_isTaken_16 : decode cX5_isTaken 16 = .ok (.iload_n 3, 1) := by decide +kernel
theorem dX5_isTaken_17 : decode cX5_isTaken 17 = .ok (.ifCond .ne 25, 3) := by decide +kernel
theorem dX5_isTaken_20 : decode cX5_isTaken 20 = .ok (.aload_n 0, 1) := by decide +kernel
theorem dX5_isTaken_21 : decode cX5_isTaken 21 = .ok (.iload 4, 2) := by decide +kernel
theorem dX5_isTaken_23 : decode cX5_isTaken 23 = .ok (.iconst 0, 1) := by decide +kernel
theorem dX5_isTaken_24 : decode cX5_isTaken 24 = .ok (.invokevirtual 117, 3) := by decide +kernel
theorem dX5_isTaken_27 : decode cX5_isTaken 27 = .ok (.iload_n 1, 1) := by decide +kernel
theorem dX5_isTaken_28 : decode cX5_isTaken 28 = .ok (.if_icmp .ne 18, 3) := by decide +kernel
theorem dX5_isTaken_31 : decode cX5_isTaken 31 = .ok (.aload_n 0, 1) := by decide +kernel
theorem dX5_isTaken_32 : decode cX5_isTaken 32 = .ok (.iload 4, 2) := by decide +kernel
theorem dX5_isTaken_34 : decode cX5_isTaken 34 = .ok (.iconst 1, 1) := by decide +kernel
theorem dX5_isTaken_35 : decode cX5_isTaken 35 = .ok (.invokevirtual 117, 3) := by decide +kernel
theorem dX5_isTaken_38 : decode cX5_isTaken 38 = .ok (.iload_n 2, 1) := by decide +kernel
theorem dX5_isTaken_39 : decode cX5_isTaken 39 = .ok (.if_icmp .ne 7, 3) := by decide +kernel
theorem dX5_isTaken_42 : decode cX5_isTaken 42 = .ok (.iconst 1, 1) := by decide +kernel
theorem dX5_isTaken_43 : decode cX5_isTaken 43 = .ok (.goto 4, 3) := by decide +kernel
theorem dX5_isTaken_46 : decode cX5_isTaken 46 = .ok (.iconst 0, 1) := by decide +kernel
theorem dX5_isTaken_47 : decode cX5_isTaken 47 = .ok (.istore_n 3, 1) := by decide +kernel
theorem dX5_isTaken_48 : decode cX5_isTaken 48 = .ok (.iinc 4 1, 3) := by decide +kernel
theorem dX5_isTaken_51 : decode cX5_isTaken 51 = .ok (.goto (-46), 3) := by decide +kernel
theorem dX5_isTaken_54 : decode cX5_isTaken 54 = .ok (.iload_n 3, 1) := by decide +kernel
theorem dX5_isTaken_55 : decode cX5_isTaken 55 = .ok (.ireturn, 1) := by decide +kernel
theorem dX5_isKind_0 : decode cX5_isKind 0 = .ok (.iload_n 0, 1) := by decide +kernel
theorem dX5_isKind_1 : decode cX5_isKind 1 = .ok (.iconst 1, 1) := by decide +kernel
theorem dX5_isKind_2 : decode cX5_isKind 2 = .ok (.bipush 9, 2) := by decide +kernel
theorem dX5_isKind_4 : decode cX5_isKind 4 = .ok (.invokestatic 57, 3) := by decide +kernel
theorem dX5_isKind_7 : decode cX5_isKind 7 = .ok (.ifCond .eq 17, 3) := by decide +kernel
theorem dX5_isKind_10 : decode cX5_isKind 10 = .ok (.iload_n 1, 1) := by decide +kernel
theorem dX5_isKind_11 : decode cX5_isKind 11 = .ok (.iconst 1, 1) := by decide +kernel
theorem dX5_isKind_12 : decode cX5_isKind 12 = .ok (.bipush 99, 2) := by decide +kernel
theorem dX5_isKind_14 : decode cX5_isKind 14 = .ok (.invokestatic 57, 3) := by decide +kernel
theorem dX5_isKind_17 : decode cX5_isKind 17 = .ok (.ifCond .eq 7, 3) := by decide +kernel
theorem dX5_isKind_20 : decode cX5_isKind 20 = .ok (.iconst 1, 1) := by decide +kernel
theorem dX5_isKind_21 : decode cX5_isKind 21 = .ok (.goto 4, 3) := by decide +kernel
theorem dX5_isKind_24 : decode cX5_isKind 24 = .ok (.iconst 0, 1) := by decide +kernel
theorem dX5_isKind_25 : decode cX5_isKind 25 = .ok (.ireturn, 1) := by decide +kernel
theorem dX5_drives_0 : decode cX5_drives 0 = .ok (.iload_n 1, 1) := by decide +kernel
theorem dX5_drives_1 : decode cX5_drives 1 = .ok (.iload_n 2, 1) := by decide +kernel
theorem dX5_drives_2 : decode cX5_drives 2 = .ok (.invokestatic 121, 3) := by decide +kernel
theorem dX5_drives_5 : decode cX5_drives 5 = .ok (.ifCond .eq 12, 3) := by decide +kernel
theorem dX5_drives_8 : decode cX5_drives 8 = .ok (.iload_n 3, 1) := by decide +kernel
theorem dX5_drives_9 : decode cX5_drives 9 = .ok (.iload 4, 2) := by decide +kernel
theorem dX5_drives_11 : decode cX5_drives 11 = .ok (.invokestatic 124, 3) := by decide +kernel
theorem dX5_drives_14 : decode cX5_drives 14 = .ok (.ifCond .ne 5, 3) := by decide +kernel
theorem dX5_drives_17 : decode cX5_drives 17 = .ok (.iconst (-1), 1) := by decide +kernel
theorem dX5_drives_18 : decode cX5_drives 18 = .ok (.ireturn, 1) := by decide +kernel
theorem dX5_drives_19 : decode cX5_drives 19 = .ok (.aload_n 0, 1) := by decide +kernel
theorem dX5_drives_20 : decode cX5_drives 20 = .ok (.iload_n 1, 1) := by decide +kernel
theorem dX5_drives_21 : decode cX5_drives 21 = .ok (.iload_n 2, 1) := by decide +kernel
theorem dX5_drives_22 : decode cX5_drives 22 = .ok (.invokevirtual 127, 3) := by decide +kernel
theorem dX5_drives_25 : decode cX5_drives 25 = .ok (.ifCond .eq 6, 3) := by decide +kernel
theorem dX5_drives_28 : decode cX5_drives 28 = .ok (.bipush (-2), 2) := by decide +kernel
theorem dX5_drives_30 : decode cX5_drives 30 = .ok (.ireturn, 1) := by decide +kernel
theorem dX5_drives_31 : decode cX5_drives 31 = .ok (.aload_n 0, 1) := by decide +kernel
theorem dX5_drives_32 : decode cX5_drives 32 = .ok (.getfield 7, 3) := by decide +kernel
theorem dX5_drives_35 : decode cX5_drives 35 = .ok (.iconst 0, 1) := by decide +kernel
theorem dX5_drives_36 : decode cX5_drives 36 = .ok (.iaload, 1) := by decide +kernel
theorem dX5_drives_37 : decode cX5_drives 37 = .ok (.bipush 8, 2) := by decide +kernel
theorem dX5_drives_39 : decode cX5_drives 39 = .ok (.if_icmp .ne 6, 3) := by decide +kernel
theorem dX5_drives_42 : decode cX5_drives 42 = .ok (.bipush (-3), 2) := by decide +kernel
theorem dX5_drives_44 : decode cX5_drives 44 = .ok (.ireturn, 1) := by decide +kernel
theorem dX5_drives_45 : decode cX5_drives 45 = .ok (.aload_n 0, 1) := by decide +kernel
theorem dX5_drives_46 : decode cX5_drives 46 = .ok (.invokevirtual 130, 3) := by decide +kernel
theorem dX5_drives_49 : decode cX5_drives 49 = .ok (.iconst 1, 1) := by decide +kernel
theorem dX5_drives_50 : decode cX5_drives 50 = .ok (.iconst 5, 1) := by decide +kernel
theorem dX5_drives_51 : decode cX5_drives 51 = .ok (.aload_n 0, 1) := by decide +kernel
theorem dX5_drives_52 : decode cX5_drives 52 = .ok (.getfield 7, 3) := by decide +kernel
theorem dX5_drives_55 : decode cX5_drives 55 = .ok (.iconst 0, 1) := by decide +kernel
theorem dX5_drives_56 : decode cX5_drives 56 = .ok (.iaload, 1) := by decide +kernel
theorem dX5_drives_57 : decode cX5_drives 57 = .ok (.imul, 1) := by decide +kernel
theorem dX5_drives_58 : decode cX5_drives 58 = .ok (.iadd, 1) := by decide +kernel
theorem dX5_drives_59 : decode cX5_drives 59 = .ok (.istore 5, 2) := by decide +kernel
theorem dX5_drives_61 : decode cX5_drives 61 = .ok (.aload_n 0, 1) := by decide +kernel
theorem dX5_drives_62 : decode cX5_drives 62 = .ok (.getfield 7, 3) := by decide +kernel
theorem dX5_drives_65 : decode cX5_drives 65 = .ok (.iload 5, 2) := by decide +kernel
theorem dX5_drives_67 : decode cX5_drives 67 = .ok (.iconst 0, 1) := by decide +kernel
theorem dX5_drives_68 : decode cX5_drives 68 = .ok (.iadd, 1) := by decide +kernel
theorem dX5_drives_69 : decode cX5_drives 69 = .ok (.iload_n 1, 1) := by decide +kernel
theorem dX5_drives_70 : decode cX5_drives 70 = .ok (.iastore, 1) := by decide +kernel
theorem dX5_drives_71 : decode cX5_drives 71 = .ok (.aload_n 0, 1) := by decide +kernel
theorem dX5_drives_72 : decode cX5_drives 72 = .ok (.getfield 7, 3) := by decide +kernel
theorem dX5_drives_75 : decode cX5_drives 75 = .ok (.iload 5, 2) := by decide +kernel
theorem dX5_drives_77 : decode cX5_drives 77 = .ok (.iconst 1, 1) := by decide +kernel
theorem dX5_drives_78 : decode cX5_drives 78 = .ok (.iadd, 1) := by decide +kernel
theorem dX5_drives_79 : decode cX5_drives 79 = .ok (.iload_n 2, 1) := by decide +kernel
theorem dX5_drives_80 : decode cX5_drives 80 = .ok (.iastore, 1) := by decide +kernel
theorem dX5_drives_81 : decode cX5_drives 81 = .ok (.aload_n 0, 1) := by decide +kernel
theorem dX5_drives_82 : decode cX5_drives 82 = .ok (.getfield 7, 3) := by decide +kernel
theorem dX5_drives_85 : decode cX5_drives 85 = .ok (.iload 5, 2) := by decide +kernel
theorem dX5_drives_87 : decode cX5_drives 87 = .ok (.iconst 2, 1) := by decide +kernel
theorem dX5_drives_88 : decode cX5_drives 88 = .ok (.iadd, 1) := by decide +kernel
theorem dX5_drives_89 : decode cX5_drives 89 = .ok (.iload_n 3, 1) := by decide +kernel
theorem dX5_drives_90 : decode cX5_drives 90 = .ok (.iastore, 1) := by decide +kernel
theorem dX5_drives_91 : decode cX5_drives 91 = .ok (.aload_n 0, 1) := by decide +kernel
theorem dX5_drives_92 : decode cX5_drives 92 = .ok (.getfield 7, 3) := by decide +kernel
theorem dX5_drives_95 : decode cX5_drives 95 = .ok (.iload 5, 2) := by decide +kernel
theorem dX5_drives_97 : decode cX5_drives 97 = .ok (.iconst 3, 1) := by decide +kernel
theorem dX5_drives_98 : decode cX5_drives 98 = .ok (.iadd, 1) := by decide +kernel
theorem dX5_drives_99 : decode cX5_drives 99 = .ok (.iload 4, 2) := by decide +kernel
theorem dX5_drives_101 : decode cX5_drives 101 = .ok (.iastore, 1) := by decide +kernel
theorem dX5_drives_102 : decode cX5_drives 102 = .ok (.aload_n 0, 1) := by decide +kernel
theorem dX5_drives_103 : decode cX5_drives 103 = .ok (.getfield 7, 3) := by decide +kernel
theorem dX5_drives_106 : decode cX5_drives 106 = .ok (.iload 5, 2) := by decide +kernel
theorem dX5_drives_108 : decode cX5_drives 108 = .ok (.iconst 4, 1) := by decide +kernel
theorem dX5_drives_109 : decode cX5_drives 109 = .ok (.iadd, 1) := by decide +kernel
theorem dX5_drives_110 : decode cX5_drives 110 = .ok (.iconst 0, 1) := by decide +kernel
theorem dX5_drives_111 : decode cX5_drives 111 = .ok (.iastore, 1) := by decide +kernel
theorem dX5_drives_112 : decode cX5_drives 112 = .ok (.aload_n 0, 1) := by decide +kernel
theorem dX5_drives_113 : decode cX5_drives 113 = .ok (.getfield 7, 3) := by decide +kernel
theorem dX5_drives_116 : decode cX5_drives 116 = .ok (.iconst 0, 1) := by decide +kernel
theorem dX5_drives_117 : decode cX5_drives 117 = .ok (.dup2, 1) := by decide +kernel
theorem dX5_drives_118 : decode cX5_drives 118 = .ok (.iaload, 1) := by decide +kernel
theorem dX5_drives_119 : decode cX5_drives 119 = .ok (.iconst 1, 1) := by decide +kernel
theorem dX5_drives_120 : decode cX5_drives 120 = .ok (.iadd, 1) := by decide +kernel
theorem dX5_drives_121 : decode cX5_drives 121 = .ok (.iastore, 1) := by decide +kernel
theorem dX5_drives_122 : decode cX5_drives 122 = .ok (.aload_n 0, 1) := by decide +kernel
theorem dX5_drives_123 : decode cX5_drives 123 = .ok (.getfield 7, 3) := by decide +kernel
theorem dX5_drives_126 : decode cX5_drives 126 = .ok (.iconst 0, 1) := by decide +kernel
theorem dX5_drives_127 : decode cX5_drives 127 = .ok (.iaload, 1) := by decide +kernel
theorem dX5_drives_128 : decode cX5_drives 128 = .ok (.iconst 1, 1) := by decide +kernel
theorem dX5_drives_129 : decode cX5_drives 129 = .ok (.isub, 1) := by decide +kernel
theorem dX5_drives_130 : decode cX5_drives 130 = .ok (.ireturn, 1) := by decide +kernel
theorem dX5_wholes_0 : decode cX5_wholes 0 = .ok (.iconst 0, 1) := by decide +kernel
theorem dX5_wholes_1 : decode cX5_wholes 1 = .ok (.istore_n 1, 1) := by decide +kernel
theorem dX5_wholes_2 : decode cX5_wholes 2 = .ok (.iconst 0, 1) := by decide +kernel
theorem dX5_wholes_3 : decode cX5_wholes 3 = .ok (.istore_n 2, 1) := by decide +kernel
theorem dX5_wholes_4 : decode cX5_wholes 4 = .ok (.iload_n 2, 1) := by decide +kernel
theorem dX5_wholes_5 : decode cX5_wholes 5 = .ok (.aload_n 0, 1) := by decide +kernel
theorem dX5_wholes_6 : decode cX5_wholes 6 = .ok (.getfield 7, 3) := by decide +kernel
theorem dX5_wholes_9 : decode cX5_wholes 9 = .ok (.iconst 0, 1) := by decide +kernel
theorem dX5_wholes_10 : decode cX5_wholes 10 = .ok (.iaload, 1) := by decide +kernel
theorem dX5_wholes_11 : decode cX5_wholes 11 = .ok (.if_icmp .ge 26, 3) := by decide +kernel
theorem dX5_wholes_14 : decode cX5_wholes 14 = .ok (.iload_n 1, 1) := by decide +kernel
theorem dX5_wholes_15 : decode cX5_wholes 15 = .ok (.aload_n 0, 1) := by decide +kernel
theorem dX5_wholes_16 : decode cX5_wholes 16 = .ok (.iload_n 2, 1) := by decide +kernel
theorem dX5_wholes_17 : decode cX5_wholes 17 = .ok (.iconst 4, 1) := by decide +kernel
theorem dX5_wholes_18 : decode cX5_wholes 18 = .ok (.invokevirtual 117, 3) := by decide +kernel
theorem dX5_wholes_21 : decode cX5_wholes 21 = .ok (.ifCond .ne 7, 3) := by decide +kernel
theorem dX5_wholes_24 : decode cX5_wholes 24 = .ok (.iconst 1, 1) := by decide +kernel
theorem dX5_wholes_25 : decode cX5_wholes 25 = .ok (.goto 4, 3) := by decide +kernel
theorem dX5_wholes_28 : decode cX5_wholes 28 = .ok (.iconst 0, 1) := by decide +kernel
theorem dX5_wholes_29 : decode cX5_wholes 29 = .ok (.iadd, 1) := by decide +kernel
theorem dX5_wholes_30 : decode cX5_wholes 30 = .ok (.istore_n 1, 1) := by decide +kernel
theorem dX5_wholes_31 : decode cX5_wholes 31 = .ok (.iinc 2 1, 3) := by decide +kernel
theorem dX5_wholes_34 : decode cX5_wholes 34 = .ok (.goto (-30), 3) := by decide +kernel
theorem dX5_wholes_37 : decode cX5_wholes 37 = .ok (.iload_n 1, 1) := by decide +kernel
theorem dX5_wholes_38 : decode cX5_wholes 38 = .ok (.ireturn, 1) := by decide +kernel
theorem dX5_becomes_0 : decode cX5_becomes 0 = .ok (.aload_n 0, 1) := by decide +kernel
theorem dX5_becomes_1 : decode cX5_becomes 1 = .ok (.iload_n 1, 1) := by decide +kernel
theorem dX5_becomes_2 : decode cX5_becomes 2 = .ok (.invokevirtual 133, 3) := by decide +kernel
theorem dX5_becomes_5 : decode cX5_becomes 5 = .ok (.ifCond .ne 5, 3) := by decide +kernel
theorem dX5_becomes_8 : decode cX5_becomes 8 = .ok (.iconst (-1), 1) := by decide +kernel
theorem dX5_becomes_9 : decode cX5_becomes 9 = .ok (.ireturn, 1) := by decide +kernel
theorem dX5_becomes_10 : decode cX5_becomes 10 = .ok (.aload_n 0, 1) := by decide +kernel
theorem dX5_becomes_11 : decode cX5_becomes 11 = .ok (.iload_n 1, 1) := by decide +kernel
theorem dX5_becomes_12 : decode cX5_becomes 12 = .ok (.iconst 4, 1) := by decide +kernel
theorem dX5_becomes_13 : decode cX5_becomes 13 = .ok (.invokevirtual 117, 3) := by decide +kernel
theorem dX5_becomes_16 : decode cX5_becomes 16 = .ok (.iload_n 2, 1) := by decide +kernel
theorem dX5_becomes_17 : decode cX5_becomes 17 = .ok (.if_icmp .ne 6, 3) := by decide +kernel
theorem dX5_becomes_20 : decode cX5_becomes 20 = .ok (.bipush (-2), 2) := by decide +kernel
theorem dX5_becomes_22 : decode cX5_becomes 22 = .ok (.ireturn, 1) := by decide +kernel
theorem dX5_becomes_23 : decode cX5_becomes 23 = .ok (.aload_n 0, 1) := by decide +kernel
theorem dX5_becomes_24 : decode cX5_becomes 24 = .ok (.invokevirtual 130, 3) := by decide +kernel
theorem dX5_becomes_27 : decode cX5_becomes 27 = .ok (.aload_n 0, 1) := by decide +kernel
theorem dX5_becomes_28 : decode cX5_becomes 28 = .ok (.getfield 7, 3) := by decide +kernel
theorem dX5_becomes_31 : decode cX5_becomes 31 = .ok (.iconst 1, 1) := by decide +kernel
theorem dX5_becomes_32 : decode cX5_becomes 32 = .ok (.iconst 5, 1) := by decide +kernel
theorem dX5_becomes_33 : decode cX5_becomes 33 = .ok (.iload_n 1, 1) := by decide +kernel
theorem dX5_becomes_34 : decode cX5_becomes 34 = .ok (.imul, 1) := by decide +kernel
theorem dX5_becomes_35 : decode cX5_becomes 35 = .ok (.iadd, 1) := by decide +kernel
theorem dX5_becomes_36 : decode cX5_becomes 36 = .ok (.iconst 4, 1) := by decide +kernel
theorem dX5_becomes_37 : decode cX5_becomes 37 = .ok (.iadd, 1) := by decide +kernel
theorem dX5_becomes_38 : decode cX5_becomes 38 = .ok (.iload_n 2, 1) := by decide +kernel
theorem dX5_becomes_39 : decode cX5_becomes 39 = .ok (.iastore, 1) := by decide +kernel
theorem dX5_becomes_40 : decode cX5_becomes 40 = .ok (.aload_n 0, 1) := by decide +kernel
theorem dX5_becomes_41 : decode cX5_becomes 41 = .ok (.invokevirtual 137, 3) := by decide +kernel
theorem dX5_becomes_44 : decode cX5_becomes 44 = .ok (.ireturn, 1) := by decide +kernel
theorem dX5_loses_0 : decode cX5_loses 0 = .ok (.aload_n 0, 1) := by decide +kernel
theorem dX5_loses_1 : decode cX5_loses 1 = .ok (.iload_n 1, 1) := by decide +kernel
theorem dX5_loses_2 : decode cX5_loses 2 = .ok (.iconst 1, 1) := by decide +kernel
theorem dX5_loses_3 : decode cX5_loses 3 = .ok (.invokevirtual 141, 3) := by decide +kernel
theorem dX5_loses_6 : decode cX5_loses 6 = .ok (.ireturn, 1) := by decide +kernel
theorem dX5_mends_0 : decode cX5_mends 0 = .ok (.aload_n 0, 1) := by decide +kernel
theorem dX5_mends_1 : decode cX5_mends 1 = .ok (.iload_n 1, 1) := by decide +kernel
theorem dX5_mends_2 : decode cX5_mends 2 = .ok (.iconst 0, 1) := by decide +kernel
theorem dX5_mends_3 : decode cX5_mends 3 = .ok (.invokevirtual 141, 3) := by decide +kernel
theorem dX5_mends_6 : decode cX5_mends 6 = .ok (.ireturn, 1) := by decide +kernel
theorem dX5_loads_0 : decode cX5_loads 0 = .ok (.aload_n 0, 1) := by decide +kernel
theorem dX5_loads_1 : decode cX5_loads 1 = .ok (.iload_n 1, 1) := by decide +kernel
theorem dX5_loads_2 : decode cX5_loads 2 = .ok (.invokevirtual 144, 3) := by decide +kernel
theorem dX5_loads_5 : decode cX5_loads 5 = .ok (.ifCond .eq 13, 3) := by decide +kernel
theorem dX5_loads_8 : decode cX5_loads 8 = .ok (.iload_n 2, 1) := by decide +kernel
theorem dX5_loads_9 : decode cX5_loads 9 = .ok (.iconst 0, 1) := by decide +kernel
theorem dX5_loads_10 : decode cX5_loads 10 = .ok (.bipush 99, 2) := by decide +kernel
theorem dX5_loads_12 : decode cX5_loads 12 = .ok (.invokestatic 57, 3) := by decide +kernel
theorem dX5_loads_15 : decode cX5_loads 15 = .ok (.ifCond .ne 5, 3) := by decide +kernel
theorem dX5_loads_18 : decode cX5_loads 18 = .ok (.iconst (-1), 1) := by decide +kernel
theorem dX5_loads_19 : decode cX5_loads 19 = .ok (.ireturn, 1) := by decide +kernel
theorem dX5_loads_20 : decode cX5_loads 20 = .ok (.aload_n 0, 1) := by decide +kernel
theorem dX5_loads_21 : decode cX5_loads 21 = .ok (.iload_n 1, 1) := by decide +kernel
theorem dX5_loads_22 : decode cX5_loads 22 = .ok (.iconst 2, 1) := by decide +kernel
theorem dX5_loads_23 : decode cX5_loads 23 = .ok (.invokevirtual 147, 3) := by decide +kernel
theorem dX5_loads_26 : decode cX5_loads 26 = .ok (.istore_n 3, 1) := by decide +kernel
theorem dX5_loads_27 : decode cX5_loads 27 = .ok (.iload_n 3, 1) := by decide +kernel
theorem dX5_loads_28 : decode cX5_loads 28 = .ok (.iload_n 2, 1) := by decide +kernel
theorem dX5_loads_29 : decode cX5_loads 29 = .ok (.if_icmp .ne 6, 3) := by decide +kernel
theorem dX5_loads_32 : decode cX5_loads 32 = .ok (.bipush (-2), 2) := by decide +kernel
theorem dX5_loads_34 : decode cX5_loads 34 = .ok (.ireturn, 1) := by decide +kernel
theorem dX5_loads_35 : decode cX5_loads 35 = .ok (.aload_n 0, 1) := by decide +kernel
theorem dX5_loads_36 : decode cX5_loads 36 = .ok (.invokevirtual 130, 3) := by decide +kernel
theorem dX5_loads_39 : decode cX5_loads 39 = .ok (.aload_n 0, 1) := by decide +kernel
theorem dX5_loads_40 : decode cX5_loads 40 = .ok (.getfield 7, 3) := by decide +kernel
theorem dX5_loads_43 : decode cX5_loads 43 = .ok (.bipush 42, 2) := by decide +kernel
theorem dX5_loads_45 : decode cX5_loads 45 = .ok (.iconst 3, 1) := by decide +kernel
theorem dX5_loads_46 : decode cX5_loads 46 = .ok (.iload_n 1, 1) := by decide +kernel
theorem dX5_loads_47 : decode cX5_loads 47 = .ok (.imul, 1) := by decide +kernel
theorem dX5_loads_48 : decode cX5_loads 48 = .ok (.iadd, 1) := by decide +kernel
theorem dX5_loads_49 : decode cX5_loads 49 = .ok (.iconst 2, 1) := by decide +kernel
theorem dX5_loads_50 : decode cX5_loads 50 = .ok (.iadd, 1) := by decide +kernel
theorem dX5_loads_51 : decode cX5_loads 51 = .ok (.iload_n 2, 1) := by decide +kernel
theorem dX5_loads_52 : decode cX5_loads 52 = .ok (.iastore, 1) := by decide +kernel
theorem dX5_loads_53 : decode cX5_loads 53 = .ok (.iload_n 3, 1) := by decide +kernel
theorem dX5_loads_54 : decode cX5_loads 54 = .ok (.ireturn, 1) := by decide +kernel
theorem dX5_moves_0 : decode cX5_moves 0 = .ok (.aload_n 0, 1) := by decide +kernel
theorem dX5_moves_1 : decode cX5_moves 1 = .ok (.iload_n 1, 1) := by decide +kernel
theorem dX5_moves_2 : decode cX5_moves 2 = .ok (.invokevirtual 144, 3) := by decide +kernel
theorem dX5_moves_5 : decode cX5_moves 5 = .ok (.ifCond .eq 11, 3) := by decide +kernel
theorem dX5_moves_8 : decode cX5_moves 8 = .ok (.iload_n 2, 1) := by decide +kernel
theorem dX5_moves_9 : decode cX5_moves 9 = .ok (.iload_n 3, 1) := by decide +kernel
theorem dX5_moves_10 : decode cX5_moves 10 = .ok (.invokestatic 121, 3) := by decide +kernel
theorem dX5_moves_13 : decode cX5_moves 13 = .ok (.ifCond .ne 5, 3) := by decide +kernel
theorem dX5_moves_16 : decode cX5_moves 16 = .ok (.iconst (-1), 1) := by decide +kernel
theorem dX5_moves_17 : decode cX5_moves 17 = .ok (.ireturn, 1) := by decide +kernel
theorem dX5_moves_18 : decode cX5_moves 18 = .ok (.aload_n 0, 1) := by decide +kernel
theorem dX5_moves_19 : decode cX5_moves 19 = .ok (.iload_n 1, 1) := by decide +kernel
theorem dX5_moves_20 : decode cX5_moves 20 = .ok (.iconst 0, 1) := by decide +kernel
theorem dX5_moves_21 : decode cX5_moves 21 = .ok (.invokevirtual 147, 3) := by decide +kernel
theorem dX5_moves_24 : decode cX5_moves 24 = .ok (.iload_n 2, 1) := by decide +kernel
theorem dX5_moves_25 : decode cX5_moves 25 = .ok (.if_icmp .ne 16, 3) := by decide +kernel
theorem dX5_moves_28 : decode cX5_moves 28 = .ok (.aload_n 0, 1) := by decide +kernel
theorem dX5_moves_29 : decode cX5_moves 29 = .ok (.iload_n 1, 1) := by decide +kernel
theorem dX5_moves_30 : decode cX5_moves 30 = .ok (.iconst 1, 1) := by decide +kernel
theorem dX5_moves_31 : decode cX5_moves 31 = .ok (.invokevirtual 147, 3) := by decide +kernel
theorem dX5_moves_34 : decode cX5_moves 34 = .ok (.iload_n 3, 1) := by decide +kernel
theorem dX5_moves_35 : decode cX5_moves 35 = .ok (.if_icmp .ne 6, 3) := by decide +kernel
theorem dX5_moves_38 : decode cX5_moves 38 = .ok (.bipush (-2), 2) := by decide +kernel
theorem dX5_moves_40 : decode cX5_moves 40 = .ok (.ireturn, 1) := by decide +kernel
theorem dX5_moves_41 : decode cX5_moves 41 = .ok (.aload_n 0, 1) := by decide +kernel
theorem dX5_moves_42 : decode cX5_moves 42 = .ok (.invokevirtual 130, 3) := by decide +kernel
theorem dX5_moves_45 : decode cX5_moves 45 = .ok (.aload_n 0, 1) := by decide +kernel
theorem dX5_moves_46 : decode cX5_moves 46 = .ok (.getfield 7, 3) := by decide +kernel
theorem dX5_moves_49 : decode cX5_moves 49 = .ok (.bipush 42, 2) := by decide +kernel
theorem dX5_moves_51 : decode cX5_moves 51 = .ok (.iconst 3, 1) := by decide +kernel
theorem dX5_moves_52 : decode cX5_moves 52 = .ok (.iload_n 1, 1) := by decide +kernel
theorem dX5_moves_53 : decode cX5_moves 53 = .ok (.imul, 1) := by decide +kernel
theorem dX5_moves_54 : decode cX5_moves 54 = .ok (.iadd, 1) := by decide +kernel
theorem dX5_moves_55 : decode cX5_moves 55 = .ok (.iconst 0, 1) := by decide +kernel
theorem dX5_moves_56 : decode cX5_moves 56 = .ok (.iadd, 1) := by decide +kernel
theorem dX5_moves_57 : decode cX5_moves 57 = .ok (.iload_n 2, 1) := by decide +kernel
theorem dX5_moves_58 : decode cX5_moves 58 = .ok (.iastore, 1) := by decide +kernel
theorem dX5_moves_59 : decode cX5_moves 59 = .ok (.aload_n 0, 1) := by decide +kernel
theorem dX5_moves_60 : decode cX5_moves 60 = .ok (.getfield 7, 3) := by decide +kernel
theorem dX5_moves_63 : decode cX5_moves 63 = .ok (.bipush 42, 2) := by decide +kernel
theorem dX5_moves_65 : decode cX5_moves 65 = .ok (.iconst 3, 1) := by decide +kernel
theorem dX5_moves_66 : decode cX5_moves 66 = .ok (.iload_n 1, 1) := by decide +kernel
theorem dX5_moves_67 : decode cX5_moves 67 = .ok (.imul, 1) := by decide +kernel
theorem dX5_moves_68 : decode cX5_moves 68 = .ok (.iadd, 1) := by decide +kernel
theorem dX5_moves_69 : decode cX5_moves 69 = .ok (.iconst 1, 1) := by decide +kernel
theorem dX5_moves_70 : decode cX5_moves 70 = .ok (.iadd, 1) := by decide +kernel
theorem dX5_moves_71 : decode cX5_moves 71 = .ok (.iload_n 3, 1) := by decide +kernel
theorem dX5_moves_72 : decode cX5_moves 72 = .ok (.iastore, 1) := by decide +kernel
theorem dX5_moves_73 : decode cX5_moves 73 = .ok (.iconst 1, 1) := by decide +kernel
theorem dX5_moves_74 : decode cX5_moves 74 = .ok (.ireturn, 1) := by decide +kernel
theorem dX5_winds_0 : decode cX5_winds 0 = .ok (.iload_n 1, 1) := by decide +kernel
theorem dX5_winds_1 : decode cX5_winds 1 = .ok (.bipush (-99), 2) := by decide +kernel
theorem dX5_winds_3 : decode cX5_winds 3 = .ok (.bipush 99, 2) := by decide +kernel
theorem dX5_winds_5 : decode cX5_winds 5 = .ok (.invokestatic 57, 3) := by decide +kernel
theorem dX5_winds_8 : decode cX5_winds 8 = .ok (.ifCond .eq 14, 3) := by decide +kernel
theorem dX5_winds_11 : decode cX5_winds 11 = .ok (.iload_n 2, 1) := by decide +kernel
theorem dX5_winds_12 : decode cX5_winds 12 = .ok (.bipush (-99), 2) := by decide +kernel
theorem dX5_winds_14 : decode cX5_winds 14 = .ok (.bipush 99, 2) := by decide +kernel
theorem dX5_winds_16 : decode cX5_winds 16 = .ok (.invokestatic 57, 3) := by decide +kernel
theorem dX5_winds_19 : decode cX5_winds 19 = .ok (.ifCond .ne 5, 3) := by decide +kernel
theorem dX5_winds_22 : decode cX5_winds 22 = .ok (.iconst (-1), 1) := by decide +kernel
theorem dX5_winds_23 : decode cX5_winds 23 = .ok (.ireturn, 1) := by decide +kernel
theorem dX5_winds_24 : decode cX5_winds 24 = .ok (.aload_n 0, 1) := by decide +kernel
theorem dX5_winds_25 : decode cX5_winds 25 = .ok (.getfield 7, 3) := by decide +kernel
theorem dX5_winds_28 : decode cX5_winds 28 = .ok (.bipush 57, 2) := by decide +kernel
theorem dX5_winds_30 : decode cX5_winds 30 = .ok (.iaload, 1) := by decide +kernel
theorem dX5_winds_31 : decode cX5_winds 31 = .ok (.iload_n 1, 1) := by decide +kernel
theorem dX5_winds_32 : decode cX5_winds 32 = .ok (.if_icmp .ne 17, 3) := by decide +kernel
theorem dX5_winds_35 : decode cX5_winds 35 = .ok (.aload_n 0, 1) := by decide +kernel
theorem dX5_winds_36 : decode cX5_winds 36 = .ok (.getfield 7, 3) := by decide +kernel
theorem dX5_winds_39 : decode cX5_winds 39 = .ok (.bipush 58, 2) := by decide +kernel
theorem dX5_winds_41 : decode cX5_winds 41 = .ok (.iaload, 1) := by decide +kernel
theorem dX5_winds_42 : decode cX5_winds 42 = .ok (.iload_n 2, 1) := by decide +kernel
theorem dX5_winds_43 : decode cX5_winds 43 = .ok (.if_icmp .ne 6, 3) := by decide +kernel
theorem dX5_winds_46 : decode cX5_winds 46 = .ok (.bipush (-2), 2) := by decide +kernel
theorem dX5_winds_48 : decode cX5_winds 48 = .ok (.ireturn, 1) := by decide +kernel
theorem dX5_winds_49 : decode cX5_winds 49 = .ok (.aload_n 0, 1) := by decide +kernel
theorem dX5_winds_50 : decode cX5_winds 50 = .ok (.invokevirtual 130, 3) := by decide +kernel
theorem dX5_winds_53 : decode cX5_winds 53 = .ok (.aload_n 0, 1) := by decide +kernel
theorem dX5_winds_54 : decode cX5_winds 54 = .ok (.getfield 7, 3) := by decide +kernel
theorem dX5_winds_57 : decode cX5_winds 57 = .ok (.bipush 57, 2) := by decide +kernel
theorem dX5_winds_59 : decode cX5_winds 59 = .ok (.iload_n 1, 1) := by decide +kernel
theorem dX5_winds_60 : decode cX5_winds 60 = .ok (.iastore, 1) := by decide +kernel
theorem dX5_winds_61 : decode cX5_winds 61 = .ok (.aload_n 0, 1) := by decide +kernel
theorem dX5_winds_62 : decode cX5_winds 62 = .ok (.getfield 7, 3) := by decide +kernel
theorem dX5_winds_65 : decode cX5_winds 65 = .ok (.bipush 58, 2) := by decide +kernel
theorem dX5_winds_67 : decode cX5_winds 67 = .ok (.iload_n 2, 1) := by decide +kernel
theorem dX5_winds_68 : decode cX5_winds 68 = .ok (.iastore, 1) := by decide +kernel
theorem dX5_winds_69 : decode cX5_winds 69 = .ok (.iconst 1, 1) := by decide +kernel
theorem dX5_winds_70 : decode cX5_winds 70 = .ok (.ireturn, 1) := by decide +kernel
theorem dX5_undo_0 : decode cX5_undo 0 = .ok (.aload_n 0, 1) := by decide +kernel
theorem dX5_undo_1 : decode cX5_undo 1 = .ok (.getfield 111, 3) := by decide +kernel
theorem dX5_undo_4 : decode cX5_undo 4 = .ok (.ifCond .ne 6, 3) := by decide +kernel
theorem dX5_undo_7 : decode cX5_undo 7 = .ok (.bipush (-2), 2) := by decide +kernel
theorem dX5_undo_9 : decode cX5_undo 9 = .ok (.ireturn, 1) := by decide +kernel
theorem dX5_undo_10 : decode cX5_undo 10 = .ok (.aload_n 0, 1) := by decide +kernel
theorem dX5_undo_11 : decode cX5_undo 11 = .ok (.dup, 1) := by decide +kernel
theorem dX5_undo_12 : decode cX5_undo 12 = .ok (.getfield 111, 3) := by decide +kernel
theorem dX5_undo_15 : decode cX5_undo 15 = .ok (.iconst 1, 1) := by decide +kernel
theorem dX5_undo_16 : decode cX5_undo 16 = .ok (.isub, 1) := by decide +kernel
theorem dX5_undo_17 : decode cX5_undo 17 = .ok (.putfield 111, 3) := by decide +kernel
theorem dX5_undo_20 : decode cX5_undo 20 = .ok (.iconst 0, 1) := by decide +kernel
theorem dX5_undo_21 : decode cX5_undo 21 = .ok (.istore_n 1, 1) := by decide +kernel
theorem dX5_undo_22 : decode cX5_undo 22 = .ok (.iload_n 1, 1) := by decide +kernel
theorem dX5_undo_23 : decode cX5_undo 23 = .ok (.bipush 59, 2) := by decide +kernel
theorem dX5_undo_25 : decode cX5_undo 25 = .ok (.if_icmp .ge 29, 3) := by decide +kernel
theorem dX5_undo_28 : decode cX5_undo 28 = .ok (.aload_n 0, 1) := by decide +kernel
theorem dX5_undo_29 : decode cX5_undo 29 = .ok (.getfield 7, 3) := by decide +kernel
theorem dX5_undo_32 : decode cX5_undo 32 = .ok (.iload_n 1, 1) := by decide +kernel
theorem dX5_undo_33 : decode cX5_undo 33 = .ok (.aload_n 0, 1) := by decide +kernel
theorem dX5_undo_34 : decode cX5_undo 34 = .ok (.getfield 13, 3) := by decide +kernel
theorem dX5_undo_37 : decode cX5_undo 37 = .ok (.bipush 59, 2) := by decide +kernel
theorem dX5_undo_39 : decode cX5_undo 39 = .ok (.aload_n 0, 1) := by decide +kernel
theorem dX5_undo_40 : decode cX5_undo 40 = .ok (.getfield 111, 3) := by decide +kernel
theorem dX5_undo_43 : decode cX5_undo 43 = .ok (.imul, 1) := by decide +kernel
theorem dX5_undo_44 : decode cX5_undo 44 = .ok (.iload_n 1, 1) := by decide +kernel
theorem dX5_undo_45 : decode cX5_undo 45 = .ok (.iadd, 1) := by decide +kernel
theorem dX5_undo_46 : decode cX5_undo 46 = .ok (.iaload, 1) := by decide +kernel
theorem dX5_undo_47 : decode cX5_undo 47 = .ok (.iastore, 1) := by decide +kernel
theorem dX5_undo_48 : decode cX5_undo 48 = .ok (.iinc 1 1, 3) := by decide +kernel
theorem dX5_undo_51 : decode cX5_undo 51 = .ok (.goto (-29), 3) := by decide +kernel
theorem dX5_undo_54 : decode cX5_undo 54 = .ok (.aload_n 0, 1) := by decide +kernel
theorem dX5_undo_55 : decode cX5_undo 55 = .ok (.getfield 111, 3) := by decide +kernel
theorem dX5_undo_58 : decode cX5_undo 58 = .ok (.ireturn, 1) := by decide +kernel
theorem dX5_laysPiles_0 : decode cX5_laysPiles 0 = .ok (.aload_n 0, 1) := by decide +kernel
theorem dX5_laysPiles_1 : decode cX5_laysPiles 1 = .ok (.aload_n 0, 1) := by decide +kernel
theorem dX5_laysPiles_2 : decode cX5_laysPiles 2 = .ok (.getfield 7, 3) := by decide +kernel
theorem dX5_laysPiles_5 : decode cX5_laysPiles 5 = .ok (.iconst 0, 1) := by decide +kernel
theorem dX5_laysPiles_6 : decode cX5_laysPiles 6 = .ok (.iaload, 1) := by decide +kernel
theorem dX5_laysPiles_7 : decode cX5_laysPiles 7 = .ok (.putfield 150, 3) := by decide +kernel
theorem dX5_laysPiles_10 : decode cX5_laysPiles 10 = .ok (.aload_n 0, 1) := by decide +kernel
theorem dX5_laysPiles_11 : decode cX5_laysPiles 11 = .ok (.iconst 0, 1) := by decide +kernel
theorem dX5_laysPiles_12 : decode cX5_laysPiles 12 = .ok (.putfield 153, 3) := by decide +kernel
theorem dX5_laysPiles_15 : decode cX5_laysPiles 15 = .ok (.iconst 0, 1) := by decide +kernel
theorem dX5_laysPiles_16 : decode cX5_laysPiles 16 = .ok (.istore_n 1, 1) := by decide +kernel
theorem dX5_laysPiles_17 : decode cX5_laysPiles 17 = .ok (.iload_n 1, 1) := by decide +kernel
theorem dX5_laysPiles_18 : decode cX5_laysPiles 18 = .ok (.aload_n 0, 1) := by decide +kernel
theorem dX5_laysPiles_19 : decode cX5_laysPiles 19 = .ok (.getfield 150, 3) := by decide +kernel
theorem dX5_laysPiles_22 : decode cX5_laysPiles 22 = .ok (.if_icmp .ge 82, 3) := by decide +kernel
theorem dX5_laysPiles_25 : decode cX5_laysPiles 25 = .ok (.aload_n 0, 1) := by decide +kernel
theorem dX5_laysPiles_26 : decode cX5_laysPiles 26 = .ok (.getfield 36, 3) := by decide +kernel
theorem dX5_laysPiles_29 : decode cX5_laysPiles 29 = .ok (.iload_n 1, 1) := by decide +kernel
theorem dX5_laysPiles_30 : decode cX5_laysPiles 30 = .ok (.aload_n 0, 1) := by decide +kernel
theorem dX5_laysPiles_31 : decode cX5_laysPiles 31 = .ok (.iload_n 1, 1) := by decide +kernel
theorem dX5_laysPiles_32 : decode cX5_laysPiles 32 = .ok (.iconst 0, 1) := by decide +kernel
theorem dX5_laysPiles_33 : decode cX5_laysPiles 33 = .ok (.invokevirtual 117, 3) := by decide +kernel
theorem dX5_laysPiles_36 : decode cX5_laysPiles 36 = .ok (.iastore, 1) := by decide +kernel
theorem dX5_laysPiles_37 : decode cX5_laysPiles 37 = .ok (.aload_n 0, 1) := by decide +kernel
theorem dX5_laysPiles_38 : decode cX5_laysPiles 38 = .ok (.getfield 39, 3) := by decide +kernel
theorem dX5_laysPiles_41 : decode cX5_laysPiles 41 = .ok (.iload_n 1, 1) := by decide +kernel
theorem dX5_laysPiles_42 : decode cX5_laysPiles 42 = .ok (.aload_n 0, 1) := by decide +kernel
theorem dX5_laysPiles_43 : decode cX5_laysPiles 43 = .ok (.iload_n 1, 1) := by decide +kernel
theorem dX5_laysPiles_44 : decode cX5_laysPiles 44 = .ok (.iconst 1, 1) := by decide +kernel
theorem dX5_laysPiles_45 : decode cX5_laysPiles 45 = .ok (.invokevirtual 117, 3) := by decide +kernel
theorem dX5_laysPiles_48 : decode cX5_laysPiles 48 = .ok (.iastore, 1) := by decide +kernel
theorem dX5_laysPiles_49 : decode cX5_laysPiles 49 = .ok (.aload_n 0, 1) := by decide +kernel
theorem dX5_laysPiles_50 : decode cX5_laysPiles 50 = .ok (.getfield 42, 3) := by decide +kernel
theorem dX5_laysPiles_53 : decode cX5_laysPiles 53 = .ok (.iload_n 1, 1) := by decide +kernel
theorem dX5_laysPiles_54 : decode cX5_laysPiles 54 = .ok (.aload_n 0, 1) := by decide +kernel
theorem dX5_laysPiles_55 : decode cX5_laysPiles 55 = .ok (.iload_n 1, 1) := by decide +kernel
theorem dX5_laysPiles_56 : decode cX5_laysPiles 56 = .ok (.iconst 2, 1) := by decide +kernel
theorem dX5_laysPiles_57 : decode cX5_laysPiles 57 = .ok (.invokevirtual 117, 3) := by decide +kernel
theorem dX5_laysPiles_60 : decode cX5_laysPiles 60 = .ok (.iastore, 1) := by decide +kernel
theorem dX5_laysPiles_61 : decode cX5_laysPiles 61 = .ok (.aload_n 0, 1) := by decide +kernel
theorem dX5_laysPiles_62 : decode cX5_laysPiles 62 = .ok (.getfield 45, 3) := by decide +kernel
theorem dX5_laysPiles_65 : decode cX5_laysPiles 65 = .ok (.iload_n 1, 1) := by decide +kernel
theorem dX5_laysPiles_66 : decode cX5_laysPiles 66 = .ok (.aload_n 0, 1) := by decide +kernel
theorem dX5_laysPiles_67 : decode cX5_laysPiles 67 = .ok (.iload_n 1, 1) := by decide +kernel
theorem dX5_laysPiles_68 : decode cX5_laysPiles 68 = .ok (.iconst 3, 1) := by decide +kernel
theorem dX5_laysPiles_69 : decode cX5_laysPiles 69 = .ok (.invokevirtual 117, 3) := by decide +kernel
theorem dX5_laysPiles_72 : decode cX5_laysPiles 72 = .ok (.iastore, 1) := by decide +kernel
theorem dX5_laysPiles_73 : decode cX5_laysPiles 73 = .ok (.aload_n 0, 1) := by decide +kernel
theorem dX5_laysPiles_74 : decode cX5_laysPiles 74 = .ok (.dup, 1) := by decide +kernel
theorem dX5_laysPiles_75 : decode cX5_laysPiles 75 = .ok (.getfield 153, 3) := by decide +kernel
theorem dX5_laysPiles_78 : decode cX5_laysPiles 78 = .ok (.aload_n 0, 1) := by decide +kernel
theorem dX5_laysPiles_79 : decode cX5_laysPiles 79 = .ok (.iload_n 1, 1) := by decide +kernel
theorem dX5_laysPiles_80 : decode cX5_laysPiles 80 = .ok (.iconst 4, 1) := by decide +kernel
theorem dX5_laysPiles_81 : decode cX5_laysPiles 81 = .ok (.invokevirtual 117, 3) := by decide +kernel
theorem dX5_laysPiles_84 : decode cX5_laysPiles 84 = .ok (.ifCond .ne 9, 3) := by decide +kernel
theorem dX5_laysPiles_87 : decode cX5_laysPiles 87 = .ok (.iconst 1, 1) := by decide +kernel
theorem dX5_laysPiles_88 : decode cX5_laysPiles 88 = .ok (.iload_n 1, 1) := by decide +kernel
theorem dX5_laysPiles_89 : decode cX5_laysPiles 89 = .ok (.ishl, 1) := by decide +kernel
theorem dX5_laysPiles_90 : decode cX5_laysPiles 90 = .ok (.goto 4, 3) := by decide +kernel
theorem dX5_laysPiles_93 : decode cX5_laysPiles 93 = .ok (.iconst 0, 1) := by decide +kernel
theorem dX5_laysPiles_94 : decode cX5_laysPiles 94 = .ok (.ior, 1) := by decide +kernel
theorem dX5_laysPiles_95 : decode cX5_laysPiles 95 = .ok (.putfield 153, 3) := by decide +kernel
theorem dX5_laysPiles_98 : decode cX5_laysPiles 98 = .ok (.iinc 1 1, 3) := by decide +kernel
theorem dX5_laysPiles_101 : decode cX5_laysPiles 101 = .ok (.goto (-84), 3) := by decide +kernel
theorem dX5_laysPiles_104 : decode cX5_laysPiles 104 = .ok (.return_, 1) := by decide +kernel
theorem dX5_sumOf_0 : decode cX5_sumOf 0 = .ok (.iload_n 1, 1) := by decide +kernel
theorem dX5_sumOf_1 : decode cX5_sumOf 1 = .ok (.iconst 2, 1) := by decide +kernel
theorem dX5_sumOf_2 : decode cX5_sumOf 2 = .ok (.if_icmp .le 16, 3) := by decide +kernel
theorem dX5_sumOf_5 : decode cX5_sumOf 5 = .ok (.aload_n 0, 1) := by decide +kernel
theorem dX5_sumOf_6 : decode cX5_sumOf 6 = .ok (.getfield 7, 3) := by decide +kernel
theorem dX5_sumOf_9 : decode cX5_sumOf 9 = .ok (.bipush 57, 2) := by decide +kernel
theorem dX5_sumOf_11 : decode cX5_sumOf 11 = .ok (.iload_n 1, 1) := by decide +kernel
theorem dX5_sumOf_12 : decode cX5_sumOf 12 = .ok (.iadd, 1) := by decide +kernel
theorem dX5_sumOf_13 : decode cX5_sumOf 13 = .ok (.iconst 3, 1) := by decide +kernel
theorem dX5_sumOf_14 : decode cX5_sumOf 14 = .ok (.isub, 1) := by decide +kernel
theorem dX5_sumOf_15 : decode cX5_sumOf 15 = .ok (.iaload, 1) := by decide +kernel
theorem dX5_sumOf_16 : decode cX5_sumOf 16 = .ok (.i2l, 1) := by decide +kernel
theorem dX5_sumOf_17 : decode cX5_sumOf 17 = .ok (.lreturn, 1) := by decide +kernel
theorem dX5_sumOf_18 : decode cX5_sumOf 18 = .ok (.iload_n 1, 1) := by decide +kernel
theorem dX5_sumOf_19 : decode cX5_sumOf 19 = .ok (.ifCond .ne 7, 3) := by decide +kernel
theorem dX5_sumOf_22 : decode cX5_sumOf 22 = .ok (.lconst 0, 1) := by decide +kernel
theorem dX5_sumOf_23 : decode cX5_sumOf 23 = .ok (.goto 15, 3) := by decide +kernel
theorem dX5_sumOf_26 : decode cX5_sumOf 26 = .ok (.aload_n 0, 1) := by decide +kernel
theorem dX5_sumOf_27 : decode cX5_sumOf 27 = .ok (.getfield 7, 3) := by decide +kernel
theorem dX5_sumOf_30 : decode cX5_sumOf 30 = .ok (.bipush 57, 2) := by decide +kernel
theorem dX5_sumOf_32 : decode cX5_sumOf 32 = .ok (.iload_n 1, 1) := by decide +kernel
theorem dX5_sumOf_33 : decode cX5_sumOf 33 = .ok (.iadd, 1) := by decide +kernel
theorem dX5_sumOf_34 : decode cX5_sumOf 34 = .ok (.iconst 1, 1) := by decide +kernel
theorem dX5_sumOf_35 : decode cX5_sumOf 35 = .ok (.isub, 1) := by decide +kernel
theorem dX5_sumOf_36 : decode cX5_sumOf 36 = .ok (.iaload, 1) := by decide +kernel
theorem dX5_sumOf_37 : decode cX5_sumOf 37 = .ok (.i2l, 1) := by decide +kernel
theorem dX5_sumOf_38 : decode cX5_sumOf 38 = .ok (.lstore_n 2, 1) := by decide +kernel
theorem dX5_sumOf_39 : decode cX5_sumOf 39 = .ok (.iconst 0, 1) := by decide +kernel
theorem dX5_sumOf_40 : decode cX5_sumOf 40 = .ok (.istore 4, 2) := by decide +kernel
theorem dX5_sumOf_42 : decode cX5_sumOf 42 = .ok (.iload 4, 2) := by decide +kernel
theorem dX5_sumOf_44 : decode cX5_sumOf 44 = .ok (.aload_n 0, 1) := by decide +kernel
theorem dX5_sumOf_45 : decode cX5_sumOf 45 = .ok (.getfield 7, 3) := by decide +kernel
theorem dX5_sumOf_48 : decode cX5_sumOf 48 = .ok (.bipush 41, 2) := by decide +kernel
theorem dX5_sumOf_50 : decode cX5_sumOf 50 = .ok (.iaload, 1) := by decide +kernel
theorem dX5_sumOf_51 : decode cX5_sumOf 51 = .ok (.if_icmp .ge 38, 3) := by decide +kernel
theorem dX5_sumOf_54 : decode cX5_sumOf 54 = .ok (.lload_n 2, 1) := by decide +kernel
theorem dX5_sumOf_55 : decode cX5_sumOf 55 = .ok (.aload_n 0, 1) := by decide +kernel
theorem dX5_sumOf_56 : decode cX5_sumOf 56 = .ok (.iload 4, 2) := by decide +kernel
theorem dX5_sumOf_58 : decode cX5_sumOf 58 = .ok (.iconst 2, 1) := by decide +kernel
theorem dX5_sumOf_59 : decode cX5_sumOf 59 = .ok (.invokevirtual 147, 3) := by decide +kernel
theorem dX5_sumOf_62 : decode cX5_sumOf 62 = .ok (.iload_n 1, 1) := by decide +kernel
theorem dX5_sumOf_63 : decode cX5_sumOf 63 = .ok (.ifCond .ne 7, 3) := by decide +kernel
theorem dX5_sumOf_66 : decode cX5_sumOf 66 = .ok (.iconst 1, 1) := by decide +kernel
theorem dX5_sumOf_67 : decode cX5_sumOf 67 = .ok (.goto 12, 3) := by decide +kernel
theorem dX5_sumOf_70 : decode cX5_sumOf 70 = .ok (.aload_n 0, 1) := by decide +kernel
theorem dX5_sumOf_71 : decode cX5_sumOf 71 = .ok (.iload 4, 2) := by decide +kernel
theorem dX5_sumOf_73 : decode cX5_sumOf 73 = .ok (.iload_n 1, 1) := by decide +kernel
theorem dX5_sumOf_74 : decode cX5_sumOf 74 = .ok (.iconst 1, 1) := by decide +kernel
theorem dX5_sumOf_75 : decode cX5_sumOf 75 = .ok (.isub, 1) := by decide +kernel
theorem dX5_sumOf_76 : decode cX5_sumOf 76 = .ok (.invokevirtual 147, 3) := by decide +kernel
theorem dX5_sumOf_79 : decode cX5_sumOf 79 = .ok (.imul, 1) := by decide +kernel
theorem dX5_sumOf_80 : decode cX5_sumOf 80 = .ok (.i2l, 1) := by decide +kernel
theorem dX5_sumOf_81 : decode cX5_sumOf 81 = .ok (.ladd, 1) := by decide +kernel
theorem dX5_sumOf_82 : decode cX5_sumOf 82 = .ok (.lstore_n 2, 1) := by decide +kernel
theorem dX5_sumOf_83 : decode cX5_sumOf 83 = .ok (.iinc 4 1, 3) := by decide +kernel
theorem dX5_sumOf_86 : decode cX5_sumOf 86 = .ok (.goto (-44), 3) := by decide +kernel
theorem dX5_sumOf_89 : decode cX5_sumOf 89 = .ok (.lload_n 2, 1) := by decide +kernel
theorem dX5_sumOf_90 : decode cX5_sumOf 90 = .ok (.lreturn, 1) := by decide +kernel
theorem dX5_laysSums_0 : decode cX5_laysSums 0 = .ok (.aload_n 0, 1) := by decide +kernel
theorem dX5_laysSums_1 : decode cX5_laysSums 1 = .ok (.aload_n 0, 1) := by decide +kernel
theorem dX5_laysSums_2 : decode cX5_laysSums 2 = .ok (.iconst 0, 1) := by decide +kernel
theorem dX5_laysSums_3 : decode cX5_laysSums 3 = .ok (.invokevirtual 156, 3) := by decide +kernel
theorem dX5_laysSums_6 : decode cX5_laysSums 6 = .ok (.putfield 160, 3) := by decide +kernel
theorem dX5_laysSums_9 : decode cX5_laysSums 9 = .ok (.aload_n 0, 1) := by decide +kernel
theorem dX5_laysSums_10 : decode cX5_laysSums 10 = .ok (.aload_n 0, 1) := by decide +kernel
theorem dX5_laysSums_11 : decode cX5_laysSums 11 = .ok (.iconst 1, 1) := by decide +kernel
theorem dX5_laysSums_12 : decode cX5_laysSums 12 = .ok (.invokevirtual 156, 3) := by decide +kernel
theorem dX5_laysSums_15 : decode cX5_laysSums 15 = .ok (.putfield 164, 3) := by decide +kernel
theorem dX5_laysSums_18 : decode cX5_laysSums 18 = .ok (.aload_n 0, 1) := by decide +kernel
theorem dX5_laysSums_19 : decode cX5_laysSums 19 = .ok (.aload_n 0, 1) := by decide +kernel
theorem dX5_laysSums_20 : decode cX5_laysSums 20 = .ok (.iconst 2, 1) := by decide +kernel
theorem dX5_laysSums_21 : decode cX5_laysSums 21 = .ok (.invokevirtual 156, 3) := by decide +kernel
theorem dX5_laysSums_24 : decode cX5_laysSums 24 = .ok (.putfield 167, 3) := by decide +kernel
theorem dX5_laysSums_27 : decode cX5_laysSums 27 = .ok (.return_, 1) := by decide +kernel
theorem dX5_laysLoad_0 : decode cX5_laysLoad 0 = .ok (.aload_n 0, 1) := by decide +kernel
theorem dX5_laysLoad_1 : decode cX5_laysLoad 1 = .ok (.iload_n 1, 1) := by decide +kernel
theorem dX5_laysLoad_2 : decode cX5_laysLoad 2 = .ok (.i2l, 1) := by decide +kernel
theorem dX5_laysLoad_3 : decode cX5_laysLoad 3 = .ok (.putfield 160, 3) := by decide +kernel
theorem dX5_laysLoad_6 : decode cX5_laysLoad 6 = .ok (.aload_n 0, 1) := by decide +kernel
theorem dX5_laysLoad_7 : decode cX5_laysLoad 7 = .ok (.iload_n 1, 1) := by decide +kernel
theorem dX5_laysLoad_8 : decode cX5_laysLoad 8 = .ok (.iload_n 2, 1) := by decide +kernel
theorem dX5_laysLoad_9 : decode cX5_laysLoad 9 = .ok (.imul, 1) := by decide +kernel
theorem dX5_laysLoad_10 : decode cX5_laysLoad 10 = .ok (.i2l, 1) := by decide +kernel
theorem dX5_laysLoad_11 : decode cX5_laysLoad 11 = .ok (.putfield 164, 3) := by decide +kernel
theorem dX5_laysLoad_14 : decode cX5_laysLoad 14 = .ok (.aload_n 0, 1) := by decide +kernel
theorem dX5_laysLoad_15 : decode cX5_laysLoad 15 = .ok (.iload_n 1, 1) := by decide +kernel
theorem dX5_laysLoad_16 : decode cX5_laysLoad 16 = .ok (.iload_n 3, 1) := by decide +kernel
theorem dX5_laysLoad_17 : decode cX5_laysLoad 17 = .ok (.imul, 1) := by decide +kernel
theorem dX5_laysLoad_18 : decode cX5_laysLoad 18 = .ok (.i2l, 1) := by decide +kernel
theorem dX5_laysLoad_19 : decode cX5_laysLoad 19 = .ok (.putfield 167, 3) := by decide +kernel
theorem dX5_laysLoad_22 : decode cX5_laysLoad 22 = .ok (.return_, 1) := by decide +kernel
theorem dX5_det_0 : decode cX5_det 0 = .ok (.lload_n 0, 1) := by decide +kernel
theorem dX5_det_1 : decode cX5_det 1 = .ok (.lload 8, 2) := by decide +kernel
theorem dX5_det_3 : decode cX5_det 3 = .ok (.lload 16, 2) := by decide +kernel
theorem dX5_det_5 : decode cX5_det 5 = .ok (.lmul, 1) := by decide +kernel
theorem dX5_det_6 : decode cX5_det 6 = .ok (.lload 10, 2) := by decide +kernel
theorem dX5_det_8 : decode cX5_det 8 = .ok (.lload 14, 2) := by decide +kernel
theorem dX5_det_10 : decode cX5_det 10 = .ok (.lmul, 1) := by decide +kernel
theorem dX5_det_11 : decode cX5_det 11 = .ok (.lsub, 1) := by decide +kernel
theorem dX5_det_12 : decode cX5_det 12 = .ok (.lmul, 1) := by decide +kernel
theorem dX5_det_13 : decode cX5_det 13 = .ok (.lload_n 2, 1) := by decide +kernel
theorem dX5_det_14 : decode cX5_det 14 = .ok (.lload 6, 2) := by decide +kernel
theorem dX5_det_16 : decode cX5_det 16 = .ok (.lload 16, 2) := by decide +kernel
theorem dX5_det_18 : decode cX5_det 18 = .ok (.lmul, 1) := by decide +kernel
theorem dX5_det_19 : decode cX5_det 19 = .ok (.lload 10, 2) := by decide +kernel
theorem dX5_det_21 : decode cX5_det 21 = .ok (.lload 12, 2) := by decide +kernel
theorem dX5_det_23 : decode cX5_det 23 = .ok (.lmul, 1) := by decide +kernel
theorem dX5_det_24 : decode cX5_det 24 = .ok (.lsub, 1) := by decide +kernel
theorem dX5_det_25 : decode cX5_det 25 = .ok (.lmul, 1) := by decide +kernel
theorem dX5_det_26 : decode cX5_det 26 = .ok (.lsub, 1) := by decide +kernel
theorem dX5_det_27 : decode cX5_det 27 = .ok (.lload 4, 2) := by decide +kernel
theorem dX5_det_29 : decode cX5_det 29 = .ok (.lload 6, 2) := by decide +kernel
theorem dX5_det_31 : decode cX5_det 31 = .ok (.lload 14, 2) := by decide +kernel
theorem dX5_det_33 : decode cX5_det 33 = .ok (.lmul, 1) := by decide +kernel
theorem dX5_det_34 : decode cX5_det 34 = .ok (.lload 8, 2) := by decide +kernel
theorem dX5_det_36 : decode cX5_det 36 = .ok (.lload 12, 2) := by decide +kernel
theorem dX5_det_38 : decode cX5_det 38 = .ok (.lmul, 1) := by decide +kernel
theorem dX5_det_39 : decode cX5_det 39 = .ok (.lsub, 1) := by decide +kernel
theorem dX5_det_40 : decode cX5_det 40 = .ok (.lmul, 1) := by decide +kernel
theorem dX5_det_41 : decode cX5_det 41 = .ok (.ladd, 1) := by decide +kernel
theorem dX5_det_42 : decode cX5_det 42 = .ok (.lreturn, 1) := by decide +kernel
theorem dX5_isSteady_0 : decode cX5_isSteady 0 = .ok (.lconst 0, 1) := by decide +kernel
theorem dX5_isSteady_1 : decode cX5_isSteady 1 = .ok (.lstore_n 2, 1) := by decide +kernel
theorem dX5_isSteady_2 : decode cX5_isSteady 2 = .ok (.lconst 0, 1) := by decide +kernel
theorem dX5_isSteady_3 : decode cX5_isSteady 3 = .ok (.lstore 4, 2) := by decide +kernel
theorem dX5_isSteady_5 : decode cX5_isSteady 5 = .ok (.lconst 0, 1) := by decide +kernel
theorem dX5_isSteady_6 : decode cX5_isSteady 6 = .ok (.lstore 6, 2) := by decide +kernel
theorem dX5_isSteady_8 : decode cX5_isSteady 8 = .ok (.lconst 0, 1) := by decide +kernel
theorem dX5_isSteady_9 : decode cX5_isSteady 9 = .ok (.lstore 8, 2) := by decide +kernel
theorem dX5_isSteady_11 : decode cX5_isSteady 11 = .ok (.lconst 0, 1) := by decide +kernel
theorem dX5_isSteady_12 : decode cX5_isSteady 12 = .ok (.lstore 10, 2) := by decide +kernel
theorem dX5_isSteady_14 : decode cX5_isSteady 14 = .ok (.lconst 0, 1) := by decide +kernel
theorem dX5_isSteady_15 : decode cX5_isSteady 15 = .ok (.lstore 12, 2) := by decide +kernel
theorem dX5_isSteady_17 : decode cX5_isSteady 17 = .ok (.iconst 0, 1) := by decide +kernel
theorem dX5_isSteady_18 : decode cX5_isSteady 18 = .ok (.istore 14, 2) := by decide +kernel
theorem dX5_isSteady_20 : decode cX5_isSteady 20 = .ok (.iload 14, 2) := by decide +kernel
theorem dX5_isSteady_22 : decode cX5_isSteady 22 = .ok (.aload_n 0, 1) := by decide +kernel
theorem dX5_isSteady_23 : decode cX5_isSteady 23 = .ok (.getfield 150, 3) := by decide +kernel
theorem dX5_isSteady_26 : decode cX5_isSteady 26 = .ok (.if_icmp .ge 159, 3) := by decide +kernel
theorem dX5_isSteady_29 : decode cX5_isSteady 29 = .ok (.iload_n 1, 1) := by decide +kernel
theorem dX5_isSteady_30 : decode cX5_isSteady 30 = .ok (.iload 14, 2) := by decide +kernel
theorem dX5_isSteady_32 : decode cX5_isSteady 32 = .ok (.ishr, 1) := by decide +kernel
theorem dX5_isSteady_33 : decode cX5_isSteady 33 = .ok (.iconst 1, 1) := by decide +kernel
theorem dX5_isSteady_34 : decode cX5_isSteady 34 = .ok (.iand, 1) := by decide +kernel
theorem dX5_isSteady_35 : decode cX5_isSteady 35 = .ok (.iconst 1, 1) := by decide +kernel
theorem dX5_isSteady_36 : decode cX5_isSteady 36 = .ok (.if_icmp .ne 143, 3) := by decide +kernel
theorem dX5_isSteady_39 : decode cX5_isSteady 39 = .ok (.lload_n 2, 1) := by decide +kernel
theorem dX5_isSteady_40 : decode cX5_isSteady 40 = .ok (.aload_n 0, 1) := by decide +kernel
theorem dX5_isSteady_41 : decode cX5_isSteady 41 = .ok (.getfield 42, 3) := by decide +kernel
theorem dX5_isSteady_44 : decode cX5_isSteady 44 = .ok (.iload 14, 2) := by decide +kernel
theorem dX5_isSteady_46 : decode cX5_isSteady 46 = .ok (.iaload, 1) := by decide +kernel
theorem dX5_isSteady_47 : decode cX5_isSteady 47 = .ok (.i2l, 1) := by decide +kernel
theorem dX5_isSteady_48 : decode cX5_isSteady 48 = .ok (.ladd, 1) := by decide +kernel
theorem dX5_isSteady_49 : decode cX5_isSteady 49 = .ok (.lstore_n 2, 1) := by decide +kernel
theorem dX5_isSteady_50 : decode cX5_isSteady 50 = .ok (.lload 4, 2) := by decide +kernel
theorem dX5_isSteady_52 : decode cX5_isSteady 52 = .ok (.aload_n 0, 1) := by decide +kernel
theorem dX5_isSteady_53 : decode cX5_isSteady 53 = .ok (.getfield 42, 3) := by decide +kernel
theorem dX5_isSteady_56 : decode cX5_isSteady 56 = .ok (.iload 14, 2) := by decide +kernel
theorem dX5_isSteady_58 : decode cX5_isSteady 58 = .ok (.iaload, 1) := by decide +kernel
theorem dX5_isSteady_59 : decode cX5_isSteady 59 = .ok (.aload_n 0, 1) := by decide +kernel
theorem dX5_isSteady_60 : decode cX5_isSteady 60 = .ok (.getfield 36, 3) := by decide +kernel
theorem dX5_isSteady_63 : decode cX5_isSteady 63 = .ok (.iload 14, 2) := by decide +kernel
theorem dX5_isSteady_65 : decode cX5_isSteady 65 = .ok (.iaload, 1) := by decide +kernel
theorem dX5_isSteady_66 : decode cX5_isSteady 66 = .ok (.imul, 1) := by decide +kernel
theorem dX5_isSteady_67 : decode cX5_isSteady 67 = .ok (.i2l, 1) := by decide +kernel
theorem dX5_isSteady_68 : decode cX5_isSteady 68 = .ok (.ladd, 1) := by decide +kernel
theorem dX5_isSteady_69 : decode cX5_isSteady 69 = .ok (.lstore 4, 2) := by decide +kernel
theorem dX5_isSteady_71 : decode cX5_isSteady 71 = .ok (.lload 6, 2) := by decide +kernel
theorem dX5_isSteady_73 : decode cX5_isSteady 73 = .ok (.aload_n 0, 1) := by decide +kernel
theorem dX5_isSteady_74 : decode cX5_isSteady 74 = .ok (.getfield 42, 3) := by decide +kernel
theorem dX5_isSteady_77 : decode cX5_isSteady 77 = .ok (.iload 14, 2) := by decide +kernel
theorem dX5_isSteady_79 : decode cX5_isSteady 79 = .ok (.iaload, 1) := by decide +kernel
theorem dX5_isSteady_80 : decode cX5_isSteady 80 = .ok (.aload_n 0, 1) := by decide +kernel
theorem dX5_isSteady_81 : decode cX5_isSteady 81 = .ok (.getfield 39, 3) := by decide +kernel
theorem dX5_isSteady_84 : decode cX5_isSteady 84 = .ok (.iload 14, 2) := by decide +kernel
theorem dX5_isSteady_86 : decode cX5_isSteady 86 = .ok (.iaload, 1) := by decide +kernel
theorem dX5_isSteady_87 : decode cX5_isSteady 87 = .ok (.imul, 1) := by decide +kernel
theorem dX5_isSteady_88 : decode cX5_isSteady 88 = .ok (.i2l, 1) := by decide +kernel
theorem dX5_isSteady_89 : decode cX5_isSteady 89 = .ok (.ladd, 1) := by decide +kernel
theorem dX5_isSteady_90 : decode cX5_isSteady 90 = .ok (.lstore 6, 2) := by decide +kernel
theorem dX5_isSteady_92 : decode cX5_isSteady 92 = .ok (.lload 8, 2) := by decide +kernel
theorem dX5_isSteady_94 : decode cX5_isSteady 94 = .ok (.aload_n 0, 1) := by decide +kernel
theorem dX5_isSteady_95 : decode cX5_isSteady 95 = .ok (.getfield 42, 3) := by decide +kernel
theorem dX5_isSteady_98 : decode cX5_isSteady 98 = .ok (.iload 14, 2) := by decide +kernel
theorem dX5_isSteady_100 : decode cX5_isSteady 100 = .ok (.iaload, 1) := by decide +kernel
theorem dX5_isSteady_101 : decode cX5_isSteady 101 = .ok (.aload_n 0, 1) := by decide +kernel
theorem dX5_isSteady_102 : decode cX5_isSteady 102 = .ok (.getfield 36, 3) := by decide +kernel
theorem dX5_isSteady_105 : decode cX5_isSteady 105 = .ok (.iload 14, 2) := by decide +kernel
theorem dX5_isSteady_107 : decode cX5_isSteady 107 = .ok (.iaload, 1) := by decide +kernel
theorem dX5_isSteady_108 : decode cX5_isSteady 108 = .ok (.imul, 1) := by decide +kernel
theorem dX5_isSteady_109 : decode cX5_isSteady 109 = .ok (.aload_n 0, 1) := by decide +kernel
theorem dX5_isSteady_110 : decode cX5_isSteady 110 = .ok (.getfield 36, 3) := by decide +kernel
theorem dX5_isSteady_113 : decode cX5_isSteady 113 = .ok (.iload 14, 2) := by decide +kernel
theorem dX5_isSteady_115 : decode cX5_isSteady 115 = .ok (.iaload, 1) := by decide +kernel
theorem dX5_isSteady_116 : decode cX5_isSteady 116 = .ok (.imul, 1) := by decide +kernel
theorem dX5_isSteady_117 : decode cX5_isSteady 117 = .ok (.i2l, 1) := by decide +kernel
theorem dX5_isSteady_118 : decode cX5_isSteady 118 = .ok (.ladd, 1) := by decide +kernel
theorem dX5_isSteady_119 : decode cX5_isSteady 119 = .ok (.lstore 8, 2) := by decide +kernel
theorem dX5_isSteady_121 : decode cX5_isSteady 121 = .ok (.lload 10, 2) := by decide +kernel
theorem dX5_isSteady_123 : decode cX5_isSteady 123 = .ok (.aload_n 0, 1) := by decide +kernel
theorem dX5_isSteady_124 : decode cX5_isSteady 124 = .ok (.getfield 42, 3) := by decide +kernel
theorem dX5_isSteady_127 : decode cX5_isSteady 127 = .ok (.iload 14, 2) := by decide +kernel
theorem dX5_isSteady_129 : decode cX5_isSteady 129 = .ok (.iaload, 1) := by decide +kernel
theorem dX5_isSteady_130 : decode cX5_isSteady 130 = .ok (.aload_n 0, 1) := by decide +kernel
theorem dX5_isSteady_131 : decode cX5_isSteady 131 = .ok (.getfield 36, 3) := by decide +kernel
theorem dX5_isSteady_134 : decode cX5_isSteady 134 = .ok (.iload 14, 2) := by decide +kernel
theorem dX5_isSteady_136 : decode cX5_isSteady 136 = .ok (.iaload, 1) := by decide +kernel
theorem dX5_isSteady_137 : decode cX5_isSteady 137 = .ok (.imul, 1) := by decide +kernel
theorem dX5_isSteady_138 : decode cX5_isSteady 138 = .ok (.aload_n 0, 1) := by decide +kernel
theorem dX5_isSteady_139 : decode cX5_isSteady 139 = .ok (.getfield 39, 3) := by decide +kernel
theorem dX5_isSteady_142 : decode cX5_isSteady 142 = .ok (.iload 14, 2) := by decide +kernel
theorem dX5_isSteady_144 : decode cX5_isSteady 144 = .ok (.iaload, 1) := by decide +kernel
theorem dX5_isSteady_145 : decode cX5_isSteady 145 = .ok (.imul, 1) := by decide +kernel
theorem dX5_isSteady_146 : decode cX5_isSteady 146 = .ok (.i2l, 1) := by decide +kernel
theorem dX5_isSteady_147 : decode cX5_isSteady 147 = .ok (.ladd, 1) := by decide +kernel
theorem dX5_isSteady_148 : decode cX5_isSteady 148 = .ok (.lstore 10, 2) := by decide +kernel
theorem dX5_isSteady_150 : decode cX5_isSteady 150 = .ok (.lload 12, 2) := by decide +kernel
theorem dX5_isSteady_152 : decode cX5_isSteady 152 = .ok (.aload_n 0, 1) := by decide +kernel
theorem dX5_isSteady_153 : decode cX5_isSteady 153 = .ok (.getfield 42, 3) := by decide +kernel
theorem dX5_isSteady_156 : decode cX5_isSteady 156 = .ok (.iload 14, 2) := by decide +kernel
theorem dX5_isSteady_158 : decode cX5_isSteady 158 = .ok (.iaload, 1) := by decide +kernel
theorem dX5_isSteady_159 : decode cX5_isSteady 159 = .ok (.aload_n 0, 1) := by decide +kernel
theorem dX5_isSteady_160 : decode cX5_isSteady 160 = .ok (.getfield 39, 3) := by decide +kernel
theorem dX5_isSteady_163 : decode cX5_isSteady 163 = .ok (.iload 14, 2) := by decide +kernel
theorem dX5_isSteady_165 : decode cX5_isSteady 165 = .ok (.iaload, 1) := by decide +kernel
theorem dX5_isSteady_166 : decode cX5_isSteady 166 = .ok (.imul, 1) := by decide +kernel
theorem dX5_isSteady_167 : decode cX5_isSteady 167 = .ok (.aload_n 0, 1) := by decide +kernel
theorem dX5_isSteady_168 : decode cX5_isSteady 168 = .ok (.getfield 39, 3) := by decide +kernel
theorem dX5_isSteady_171 : decode cX5_isSteady 171 = .ok (.iload 14, 2) := by decide +kernel
theorem dX5_isSteady_173 : decode cX5_isSteady 173 = .ok (.iaload, 1) := by decide +kernel
theorem dX5_isSteady_174 : decode cX5_isSteady 174 = .ok (.imul, 1) := by decide +kernel
theorem dX5_isSteady_175 : decode cX5_isSteady 175 = .ok (.i2l, 1) := by decide +kernel
theorem dX5_isSteady_176 : decode cX5_isSteady 176 = .ok (.ladd, 1) := by decide +kernel
theorem dX5_isSteady_177 : decode cX5_isSteady 177 = .ok (.lstore 12, 2) := by decide +kernel
theorem dX5_isSteady_179 : decode cX5_isSteady 179 = .ok (.iinc 14 1, 3) := by decide +kernel
theorem dX5_isSteady_182 : decode cX5_isSteady 182 = .ok (.goto (-162), 3) := by decide +kernel
theorem dX5_isSteady_185 : decode cX5_isSteady 185 = .ok (.aload_n 0, 1) := by decide +kernel
theorem dX5_isSteady_186 : decode cX5_isSteady 186 = .ok (.lload_n 2, 1) := by decide +kernel
theorem dX5_isSteady_187 : decode cX5_isSteady 187 = .ok (.lload 4, 2) := by decide +kernel
theorem dX5_isSteady_189 : decode cX5_isSteady 189 = .ok (.lload 6, 2) := by decide +kernel
theorem dX5_isSteady_191 : decode cX5_isSteady 191 = .ok (.lload 4, 2) := by decide +kernel
theorem dX5_isSteady_193 : decode cX5_isSteady 193 = .ok (.lload 8, 2) := by decide +kernel
theorem dX5_isSteady_195 : decode cX5_isSteady 195 = .ok (.lload 10, 2) := by decide +kernel
theorem dX5_isSteady_197 : decode cX5_isSteady 197 = .ok (.lload 6, 2) := by decide +kernel
theorem dX5_isSteady_199 : decode cX5_isSteady 199 = .ok (.lload 10, 2) := by decide +kernel
theorem dX5_isSteady_201 : decode cX5_isSteady 201 = .ok (.lload 12, 2) := by decide +kernel
theorem dX5_isSteady_203 : decode cX5_isSteady 203 = .ok (.invokestatic 170, 3) := by decide +kernel
theorem dX5_isSteady_206 : decode cX5_isSteady 206 = .ok (.putfield 174, 3) := by decide +kernel
theorem dX5_isSteady_209 : decode cX5_isSteady 209 = .ok (.aload_n 0, 1) := by decide +kernel
theorem dX5_isSteady_210 : decode cX5_isSteady 210 = .ok (.aload_n 0, 1) := by decide +kernel
theorem dX5_isSteady_211 : decode cX5_isSteady 211 = .ok (.getfield 160, 3) := by decide +kernel
theorem dX5_isSteady_214 : decode cX5_isSteady 214 = .ok (.lload 4, 2) := by decide +kernel
theorem dX5_isSteady_216 : decode cX5_isSteady 216 = .ok (.lload 6, 2) := by decide +kernel
theorem dX5_isSteady_218 : decode cX5_isSteady 218 = .ok (.aload_n 0, 1) := by decide +kernel
theorem dX5_isSteady_219 : decode cX5_isSteady 219 = .ok (.getfield 164, 3) := by decide +kernel
theorem dX5_isSteady_222 : decode cX5_isSteady 222 = .ok (.lload 8, 2) := by decide +kernel
theorem dX5_isSteady_224 : decode cX5_isSteady 224 = .ok (.lload 10, 2) := by decide +kernel
theorem dX5_isSteady_226 : decode cX5_isSteady 226 = .ok (.aload_n 0, 1) := by decide +kernel
theorem dX5_isSteady_227 : decode cX5_isSteady 227 = .ok (.getfield 167, 3) := by decide +kernel
theorem dX5_isSteady_230 : decode cX5_isSteady 230 = .ok (.lload 10, 2) := by decide +kernel
theorem dX5_isSteady_232 : decode cX5_isSteady 232 = .ok (.lload 12, 2) := by decide +kernel
theorem dX5_isSteady_234 : decode cX5_isSteady 234 = .ok (.invokestatic 170, 3) := by decide +kernel
theorem dX5_isSteady_237 : decode cX5_isSteady 237 = .ok (.putfield 177, 3) := by decide +kernel
theorem dX5_isSteady_240 : decode cX5_isSteady 240 = .ok (.aload_n 0, 1) := by decide +kernel
theorem dX5_isSteady_241 : decode cX5_isSteady 241 = .ok (.lload_n 2, 1) := by decide +kernel
theorem dX5_isSteady_242 : decode cX5_isSteady 242 = .ok (.aload_n 0, 1) := by decide +kernel
theorem dX5_isSteady_243 : decode cX5_isSteady 243 = .ok (.getfield 160, 3) := by decide +kernel
theorem dX5_isSteady_246 : decode cX5_isSteady 246 = .ok (.lload 6, 2) := by decide +kernel
theorem dX5_isSteady_248 : decode cX5_isSteady 248 = .ok (.lload 4, 2) := by decide +kernel
theorem dX5_isSteady_250 : decode cX5_isSteady 250 = .ok (.aload_n 0, 1) := by decide +kernel
theorem dX5_isSteady_251 : decode cX5_isSteady 251 = .ok (.getfield 164, 3) := by decide +kernel
theorem dX5_isSteady_254 : decode cX5_isSteady 254 = .ok (.lload 10, 2) := by decide +kernel
theorem dX5_isSteady_256 : decode cX5_isSteady 256 = .ok (.lload 6, 2) := by decide +kernel
theorem dX5_isSteady_258 : decode cX5_isSteady 258 = .ok (.aload_n 0, 1) := by decide +kernel
theorem dX5_isSteady_259 : decode cX5_isSteady 259 = .ok (.getfield 167, 3) := by decide +kernel
theorem dX5_isSteady_262 : decode cX5_isSteady 262 = .ok (.lload 12, 2) := by decide +kernel
theorem dX5_isSteady_264 : decode cX5_isSteady 264 = .ok (.invokestatic 170, 3) := by decide +kernel
theorem dX5_isSteady_267 : decode cX5_isSteady 267 = .ok (.putfield 180, 3) := by decide +kernel
theorem dX5_isSteady_270 : decode cX5_isSteady 270 = .ok (.aload_n 0, 1) := by decide +kernel
theorem dX5_isSteady_271 : decode cX5_isSteady 271 = .ok (.lload_n 2, 1) := by decide +kernel
theorem dX5_isSteady_272 : decode cX5_isSteady 272 = .ok (.lload 4, 2) := by decide +kernel
theorem dX5_isSteady_274 : decode cX5_isSteady 274 = .ok (.aload_n 0, 1) := by decide +kernel
theorem dX5_isSteady_275 : decode cX5_isSteady 275 = .ok (.getfield 160, 3) := by decide +kernel
theorem dX5_isSteady_278 : decode cX5_isSteady 278 = .ok (.lload 4, 2) := by decide +kernel
theorem dX5_isSteady_280 : decode cX5_isSteady 280 = .ok (.lload 8, 2) := by decide +kernel
theorem dX5_isSteady_282 : decode cX5_isSteady 282 = .ok (.aload_n 0, 1) := by decide +kernel
theorem dX5_isSteady_283 : decode cX5_isSteady 283 = .ok (.getfield 164, 3) := by decide +kernel
theorem dX5_isSteady_286 : decode cX5_isSteady 286 = .ok (.lload 6, 2) := by decide +kernel
theorem dX5_isSteady_288 : decode cX5_isSteady 288 = .ok (.lload 10, 2) := by decide +kernel
theorem dX5_isSteady_290 : decode cX5_isSteady 290 = .ok (.aload_n 0, 1) := by decide +kernel
theorem dX5_isSteady_291 : decode cX5_isSteady 291 = .ok (.getfield 167, 3) := by decide +kernel
theorem dX5_isSteady_294 : decode cX5_isSteady 294 = .ok (.invokestatic 170, 3) := by decide +kernel
theorem dX5_isSteady_297 : decode cX5_isSteady 297 = .ok (.putfield 183, 3) := by decide +kernel
theorem dX5_isSteady_300 : decode cX5_isSteady 300 = .ok (.aload_n 0, 1) := by decide +kernel
theorem dX5_isSteady_301 : decode cX5_isSteady 301 = .ok (.getfield 174, 3) := by decide +kernel
theorem dX5_isSteady_304 : decode cX5_isSteady 304 = .ok (.lconst 0, 1) := by decide +kernel
theorem dX5_isSteady_305 : decode cX5_isSteady 305 = .ok (.lcmp, 1) := by decide +kernel
theorem dX5_isSteady_306 : decode cX5_isSteady 306 = .ok (.ifCond .ge 39, 3) := by decide +kernel
theorem dX5_isSteady_309 : decode cX5_isSteady 309 = .ok (.aload_n 0, 1) := by decide +kernel
theorem dX5_isSteady_310 : decode cX5_isSteady 310 = .ok (.aload_n 0, 1) := by decide +kernel
theorem dX5_isSteady_311 : decode cX5_isSteady 311 = .ok (.getfield 174, 3) := by decide +kernel
theorem dX5_isSteady_314 : decode cX5_isSteady 314 = .ok (.lneg, 1) := by decide +kernel
theorem dX5_isSteady_315 : decode cX5_isSteady 315 = .ok (.putfield 174, 3) := by decide +kernel
theorem dX5_isSteady_318 : decode cX5_isSteady 318 = .ok (.aload_n 0, 1) := by decide +kernel
theorem dX5_isSteady_319 : decode cX5_isSteady 319 = .ok (.aload_n 0, 1) := by decide +kernel
theorem dX5_isSteady_320 : decode cX5_isSteady 320 = .ok (.getfield 177, 3) := by decide +kernel
theorem dX5_isSteady_323 : decode cX5_isSteady 323 = .ok (.lneg, 1) := by decide +kernel
theorem dX5_isSteady_324 : decode cX5_isSteady 324 = .ok (.putfield 177, 3) := by decide +kernel
theorem dX5_isSteady_327 : decode cX5_isSteady 327 = .ok (.aload_n 0, 1) := by decide +kernel
theorem dX5_isSteady_328 : decode cX5_isSteady 328 = .ok (.aload_n 0, 1) := by decide +kernel
theorem dX5_isSteady_329 : decode cX5_isSteady 329 = .ok (.getfield 180, 3) := by decide +kernel
theorem dX5_isSteady_332 : decode cX5_isSteady 332 = .ok (.lneg, 1) := by decide +kernel
theorem dX5_isSteady_333 : decode cX5_isSteady 333 = .ok (.putfield 180, 3) := by decide +kernel
theorem dX5_isSteady_336 : decode cX5_isSteady 336 = .ok (.aload_n 0, 1) := by decide +kernel
theorem dX5_isSteady_337 : decode cX5_isSteady 337 = .ok (.aload_n 0, 1) := by decide +kernel
theorem dX5_isSteady_338 : decode cX5_isSteady 338 = .ok (.getfield 183, 3) := by decide +kernel
theorem dX5_isSteady_341 : decode cX5_isSteady 341 = .ok (.lneg, 1) := by decide +kernel
theorem dX5_isSteady_342 : decode cX5_isSteady 342 = .ok (.putfield 183, 3) := by decide +kernel
theorem dX5_isSteady_345 : decode cX5_isSteady 345 = .ok (.aload_n 0, 1) := by decide +kernel
theorem dX5_isSteady_346 : decode cX5_isSteady 346 = .ok (.getfield 174, 3) := by decide +kernel
theorem dX5_isSteady_349 : decode cX5_isSteady 349 = .ok (.lconst 0, 1) := by decide +kernel
theorem dX5_isSteady_350 : decode cX5_isSteady 350 = .ok (.lcmp, 1) := by decide +kernel
theorem dX5_isSteady_351 : decode cX5_isSteady 351 = .ok (.ifCond .eq 7, 3) := by decide +kernel
theorem dX5_isSteady_354 : decode cX5_isSteady 354 = .ok (.iconst 1, 1) := by decide +kernel
theorem dX5_isSteady_355 : decode cX5_isSteady 355 = .ok (.goto 4, 3) := by decide +kernel
theorem dX5_isSteady_358 : decode cX5_isSteady 358 = .ok (.iconst 0, 1) := by decide +kernel
theorem dX5_isSteady_359 : decode cX5_isSteady 359 = .ok (.ireturn, 1) := by decide +kernel
theorem dX5_pressAt_0 : decode cX5_pressAt 0 = .ok (.aload_n 0, 1) := by decide +kernel
theorem dX5_pressAt_1 : decode cX5_pressAt 1 = .ok (.getfield 177, 3) := by decide +kernel
theorem dX5_pressAt_4 : decode cX5_pressAt 4 = .ok (.aload_n 0, 1) := by decide +kernel
theorem dX5_pressAt_5 : decode cX5_pressAt 5 = .ok (.getfield 180, 3) := by decide +kernel
theorem dX5_pressAt_8 : decode cX5_pressAt 8 = .ok (.iload_n 1, 1) := by decide +kernel
theorem dX5_pressAt_9 : decode cX5_pressAt 9 = .ok (.i2l, 1) := by decide +kernel
theorem dX5_pressAt_10 : decode cX5_pressAt 10 = .ok (.lmul, 1) := by decide +kernel
theorem dX5_pressAt_11 : decode cX5_pressAt 11 = .ok (.ladd, 1) := by decide +kernel
theorem dX5_pressAt_12 : decode cX5_pressAt 12 = .ok (.aload_n 0, 1) := by decide +kernel
theorem dX5_pressAt_13 : decode cX5_pressAt 13 = .ok (.getfield 183, 3) := by decide +kernel
theorem dX5_pressAt_16 : decode cX5_pressAt 16 = .ok (.iload_n 2, 1) := by decide +kernel
theorem dX5_pressAt_17 : decode cX5_pressAt 17 = .ok (.i2l, 1) := by decide +kernel
theorem dX5_pressAt_18 : decode cX5_pressAt 18 = .ok (.lmul, 1) := by decide +kernel
theorem dX5_pressAt_19 : decode cX5_pressAt 19 = .ok (.ladd, 1) := by decide +kernel
theorem dX5_pressAt_20 : decode cX5_pressAt 20 = .ok (.lreturn, 1) := by decide +kernel
theorem dX5_bears_0 : decode cX5_bears 0 = .ok (.aload_n 0, 1) := by decide +kernel
theorem dX5_bears_1 : decode cX5_bears 1 = .ok (.getfield 186, 3) := by decide +kernel
theorem dX5_bears_4 : decode cX5_bears 4 = .ok (.iload_n 1, 1) := by decide +kernel
theorem dX5_bears_5 : decode cX5_bears 5 = .ok (.ishr, 1) := by decide +kernel
theorem dX5_bears_6 : decode cX5_bears 6 = .ok (.iconst 1, 1) := by decide +kernel
theorem dX5_bears_7 : decode cX5_bears 7 = .ok (.iand, 1) := by decide +kernel
theorem dX5_bears_8 : decode cX5_bears 8 = .ok (.iconst 1, 1) := by decide +kernel
theorem dX5_bears_9 : decode cX5_bears 9 = .ok (.if_icmp .ne 30, 3) := by decide +kernel
theorem dX5_bears_12 : decode cX5_bears 12 = .ok (.aload_n 0, 1) := by decide +kernel
theorem dX5_bears_13 : decode cX5_bears 13 = .ok (.getfield 42, 3) := by decide +kernel
theorem dX5_bears_16 : decode cX5_bears 16 = .ok (.iload_n 1, 1) := by decide +kernel
theorem dX5_bears_17 : decode cX5_bears 17 = .ok (.iaload, 1) := by decide +kernel
theorem dX5_bears_18 : decode cX5_bears 18 = .ok (.i2l, 1) := by decide +kernel
theorem dX5_bears_19 : decode cX5_bears 19 = .ok (.aload_n 0, 1) := by decide +kernel
theorem dX5_bears_20 : decode cX5_bears 20 = .ok (.aload_n 0, 1) := by decide +kernel
theorem dX5_bears_21 : decode cX5_bears 21 = .ok (.getfield 36, 3) := by decide +kernel
theorem dX5_bears_24 : decode cX5_bears 24 = .ok (.iload_n 1, 1) := by decide +kernel
theorem dX5_bears_25 : decode cX5_bears 25 = .ok (.iaload, 1) := by decide +kernel
theorem dX5_bears_26 : decode cX5_bears 26 = .ok (.aload_n 0, 1) := by decide +kernel
theorem dX5_bears_27 : decode cX5_bears 27 = .ok (.getfield 39, 3) := by decide +kernel
theorem dX5_bears_30 : decode cX5_bears 30 = .ok (.iload_n 1, 1) := by decide +kernel
theorem dX5_bears_31 : decode cX5_bears 31 = .ok (.iaload, 1) := by decide +kernel
theorem dX5_bears_32 : decode cX5_bears 32 = .ok (.invokevirtual 189, 3) := by decide +kernel
theorem dX5_bears_35 : decode cX5_bears 35 = .ok (.lmul, 1) := by decide +kernel
theorem dX5_bears_36 : decode cX5_bears 36 = .ok (.goto 4, 3) := by decide +kernel
theorem dX5_bears_39 : decode cX5_bears 39 = .ok (.lconst 0, 1) := by decide +kernel
theorem dX5_bears_40 : decode cX5_bears 40 = .ok (.lreturn, 1) := by decide +kernel
theorem dX5_goesOut_0 : decode cX5_goesOut 0 = .ok (.bipush (-9), 2) := by decide +kernel
theorem dX5_goesOut_2 : decode cX5_goesOut 2 = .ok (.istore_n 1, 1) := by decide +kernel
theorem dX5_goesOut_3 : decode cX5_goesOut 3 = .ok (.iconst 0, 1) := by decide +kernel
theorem dX5_goesOut_4 : decode cX5_goesOut 4 = .ok (.istore_n 2, 1) := by decide +kernel
theorem dX5_goesOut_5 : decode cX5_goesOut 5 = .ok (.iload_n 2, 1) := by decide +kernel
theorem dX5_goesOut_6 : decode cX5_goesOut 6 = .ok (.aload_n 0, 1) := by decide +kernel
theorem dX5_goesOut_7 : decode cX5_goesOut 7 = .ok (.getfield 150, 3) := by decide +kernel
theorem dX5_goesOut_10 : decode cX5_goesOut 10 = .ok (.if_icmp .ge 53, 3) := by decide +kernel
theorem dX5_goesOut_13 : decode cX5_goesOut 13 = .ok (.aload_n 0, 1) := by decide +kernel
theorem dX5_goesOut_14 : decode cX5_goesOut 14 = .ok (.getfield 186, 3) := by decide +kernel
theorem dX5_goesOut_17 : decode cX5_goesOut 17 = .ok (.iload_n 2, 1) := by decide +kernel
theorem dX5_goesOut_18 : decode cX5_goesOut 18 = .ok (.ishr, 1) := by decide +kernel
theorem dX5_goesOut_19 : decode cX5_goesOut 19 = .ok (.iconst 1, 1) := by decide +kernel
theorem dX5_goesOut_20 : decode cX5_goesOut 20 = .ok (.iand, 1) := by decide +kernel
theorem dX5_goesOut_21 : decode cX5_goesOut 21 = .ok (.iconst 1, 1) := by decide +kernel
theorem dX5_goesOut_22 : decode cX5_goesOut 22 = .ok (.if_icmp .ne 35, 3) := by decide +kernel
theorem dX5_goesOut_25 : decode cX5_goesOut 25 = .ok (.aload_n 0, 1) := by decide +kernel
theorem dX5_goesOut_26 : decode cX5_goesOut 26 = .ok (.iload_n 2, 1) := by decide +kernel
theorem dX5_goesOut_27 : decode cX5_goesOut 27 = .ok (.invokevirtual 193, 3) := by decide +kernel
theorem dX5_goesOut_30 : decode cX5_goesOut 30 = .ok (.lconst 0, 1) := by decide +kernel
theorem dX5_goesOut_31 : decode cX5_goesOut 31 = .ok (.lcmp, 1) := by decide +kernel
theorem dX5_goesOut_32 : decode cX5_goesOut 32 = .ok (.ifCond .ge 25, 3) := by decide +kernel
theorem dX5_goesOut_35 : decode cX5_goesOut 35 = .ok (.iload_n 1, 1) := by decide +kernel
theorem dX5_goesOut_36 : decode cX5_goesOut 36 = .ok (.bipush (-9), 2) := by decide +kernel
theorem dX5_goesOut_38 : decode cX5_goesOut 38 = .ok (.if_icmp .eq 17, 3) := by decide +kernel
theorem dX5_goesOut_41 : decode cX5_goesOut 41 = .ok (.aload_n 0, 1) := by decide +kernel
theorem dX5_goesOut_42 : decode cX5_goesOut 42 = .ok (.iload_n 2, 1) := by decide +kernel
theorem dX5_goesOut_43 : decode cX5_goesOut 43 = .ok (.invokevirtual 193, 3) := by decide +kernel
theorem dX5_goesOut_46 : decode cX5_goesOut 46 = .ok (.aload_n 0, 1) := by decide +kernel
theorem dX5_goesOut_47 : decode cX5_goesOut 47 = .ok (.iload_n 1, 1) := by decide +kernel
theorem dX5_goesOut_48 : decode cX5_goesOut 48 = .ok (.invokevirtual 193, 3) := by decide +kernel
theorem dX5_goesOut_51 : decode cX5_goesOut 51 = .ok (.lcmp, 1) := by decide +kernel
theorem dX5_goesOut_52 : decode cX5_goesOut 52 = .ok (.ifCond .ge 5, 3) := by decide +kernel
theorem dX5_goesOut_55 : decode cX5_goesOut 55 = .ok (.iload_n 2, 1) := by decide +kernel
theorem dX5_goesOut_56 : decode cX5_goesOut 56 = .ok (.istore_n 1, 1) := by decide +kernel
theorem dX5_goesOut_57 : decode cX5_goesOut 57 = .ok (.iinc 2 1, 3) := by decide +kernel
theorem dX5_goesOut_60 : decode cX5_goesOut 60 = .ok (.goto (-55), 3) := by decide +kernel
theorem dX5_goesOut_63 : decode cX5_goesOut 63 = .ok (.iload_n 1, 1) := by decide +kernel
theorem dX5_goesOut_64 : decode cX5_goesOut 64 = .ok (.ireturn, 1) := by decide +kernel
theorem dX5_comesIn_0 : decode cX5_comesIn 0 = .ok (.bipush (-9), 2) := by decide +kernel
theorem dX5_comesIn_2 : decode cX5_comesIn 2 = .ok (.istore_n 1, 1) := by decide +kernel
theorem dX5_comesIn_3 : decode cX5_comesIn 3 = .ok (.iconst 0, 1) := by decide +kernel
theorem dX5_comesIn_4 : decode cX5_comesIn 4 = .ok (.istore_n 2, 1) := by decide +kernel
theorem dX5_comesIn_5 : decode cX5_comesIn 5 = .ok (.iload_n 2, 1) := by decide +kernel
theorem dX5_comesIn_6 : decode cX5_comesIn 6 = .ok (.aload_n 0, 1) := by decide +kernel
theorem dX5_comesIn_7 : decode cX5_comesIn 7 = .ok (.getfield 150, 3) := by decide +kernel
theorem dX5_comesIn_10 : decode cX5_comesIn 10 = .ok (.if_icmp .ge 84, 3) := by decide +kernel
theorem dX5_comesIn_13 : decode cX5_comesIn 13 = .ok (.aload_n 0, 1) := by decide +kernel
theorem dX5_comesIn_14 : decode cX5_comesIn 14 = .ok (.aload_n 0, 1) := by decide +kernel
theorem dX5_comesIn_15 : decode cX5_comesIn 15 = .ok (.getfield 36, 3) := by decide +kernel
theorem dX5_comesIn_18 : decode cX5_comesIn 18 = .ok (.iload_n 2, 1) := by decide +kernel
theorem dX5_comesIn_19 : decode cX5_comesIn 19 = .ok (.iaload, 1) := by decide +kernel
theorem dX5_comesIn_20 : decode cX5_comesIn 20 = .ok (.aload_n 0, 1) := by decide +kernel
theorem dX5_comesIn_21 : decode cX5_comesIn 21 = .ok (.getfield 39, 3) := by decide +kernel
theorem dX5_comesIn_24 : decode cX5_comesIn 24 = .ok (.iload_n 2, 1) := by decide +kernel
theorem dX5_comesIn_25 : decode cX5_comesIn 25 = .ok (.iaload, 1) := by decide +kernel
theorem dX5_comesIn_26 : decode cX5_comesIn 26 = .ok (.invokevirtual 189, 3) := by decide +kernel
theorem dX5_comesIn_29 : decode cX5_comesIn 29 = .ok (.lstore_n 3, 1) := by decide +kernel
theorem dX5_comesIn_30 : decode cX5_comesIn 30 = .ok (.aload_n 0, 1) := by decide +kernel
theorem dX5_comesIn_31 : decode cX5_comesIn 31 = .ok (.getfield 153, 3) := by decide +kernel
theorem dX5_comesIn_34 : decode cX5_comesIn 34 = .ok (.iload_n 2, 1) := by decide +kernel
theorem dX5_comesIn_35 : decode cX5_comesIn 35 = .ok (.ishr, 1) := by decide +kernel
theorem dX5_comesIn_36 : decode cX5_comesIn 36 = .ok (.iconst 1, 1) := by decide +kernel
theorem dX5_comesIn_37 : decode cX5_comesIn 37 = .ok (.iand, 1) := by decide +kernel
theorem dX5_comesIn_38 : decode cX5_comesIn 38 = .ok (.iconst 1, 1) := by decide +kernel
theorem dX5_comesIn_39 : decode cX5_comesIn 39 = .ok (.if_icmp .ne 49, 3) := by decide +kernel
theorem dX5_comesIn_42 : decode cX5_comesIn 42 = .ok (.aload_n 0, 1) := by decide +kernel
theorem dX5_comesIn_43 : decode cX5_comesIn 43 = .ok (.getfield 186, 3) := by decide +kernel
theorem dX5_comesIn_46 : decode cX5_comesIn 46 = .ok (.iload_n 2, 1) := by decide +kernel
theorem dX5_comesIn_47 : decode cX5_comesIn 47 = .ok (.ishr, 1) := by decide +kernel
theorem dX5_comesIn_48 : decode cX5_comesIn 48 = .ok (.iconst 1, 1) := by decide +kernel
theorem dX5_comesIn_49 : decode cX5_comesIn 49 = .ok (.iand, 1) := by decide +kernel
theorem dX5_comesIn_50 : decode cX5_comesIn 50 = .ok (.ifCond .ne 38, 3) := by decide +kernel
theorem dX5_comesIn_53 : decode cX5_comesIn 53 = .ok (.lload_n 3, 1) := by decide +kernel
theorem dX5_comesIn_54 : decode cX5_comesIn 54 = .ok (.lconst 0, 1) := by decide +kernel
theorem dX5_comesIn_55 : decode cX5_comesIn 55 = .ok (.lcmp, 1) := by decide +kernel
theorem dX5_comesIn_56 : decode cX5_comesIn 56 = .ok (.ifCond .le 32, 3) := by decide +kernel
theorem dX5_comesIn_59 : decode cX5_comesIn 59 = .ok (.iload_n 1, 1) := by decide +kernel
theorem dX5_comesIn_60 : decode cX5_comesIn 60 = .ok (.bipush (-9), 2) := by decide +kernel
theorem dX5_comesIn_62 : decode cX5_comesIn 62 = .ok (.if_icmp .eq 24, 3) := by decide +kernel
theorem dX5_comesIn_65 : decode cX5_comesIn 65 = .ok (.lload_n 3, 1) := by decide +kernel
theorem dX5_comesIn_66 : decode cX5_comesIn 66 = .ok (.aload_n 0, 1) := by decide +kernel
theorem dX5_comesIn_67 : decode cX5_comesIn 67 = .ok (.aload_n 0, 1) := by decide +kernel
theorem dX5_comesIn_68 : decode cX5_comesIn 68 = .ok (.getfield 36, 3) := by decide +kernel
theorem dX5_comesIn_71 : decode cX5_comesIn 71 = .ok (.iload_n 1, 1) := by decide +kernel
theorem dX5_comesIn_72 : decode cX5_comesIn 72 = .ok (.iaload, 1) := by decide +kernel
theorem dX5_comesIn_73 : decode cX5_comesIn 73 = .ok (.aload_n 0, 1) := by decide +kernel
theorem dX5_comesIn_74 : decode cX5_comesIn 74 = .ok (.getfield 39, 3) := by decide +kernel
theorem dX5_comesIn_77 : decode cX5_comesIn 77 = .ok (.iload_n 1, 1) := by decide +kernel
theorem dX5_comesIn_78 : decode cX5_comesIn 78 = .ok (.iaload, 1) := by decide +kernel
theorem dX5_comesIn_79 : decode cX5_comesIn 79 = .ok (.invokevirtual 189, 3) := by decide +kernel
theorem dX5_comesIn_82 : decode cX5_comesIn 82 = .ok (.lcmp, 1) := by decide +kernel
theorem dX5_comesIn_83 : decode cX5_comesIn 83 = .ok (.ifCond .le 5, 3) := by decide +kernel
theorem dX5_comesIn_86 : decode cX5_comesIn 86 = .ok (.iload_n 2, 1) := by decide +kernel
theorem dX5_comesIn_87 : decode cX5_comesIn 87 = .ok (.istore_n 1, 1) := by decide +kernel
theorem dX5_comesIn_88 : decode cX5_comesIn 88 = .ok (.iinc 2 1, 3) := by decide +kernel
theorem dX5_comesIn_91 : decode cX5_comesIn 91 = .ok (.goto (-86), 3) := by decide +kernel
theorem dX5_comesIn_94 : decode cX5_comesIn 94 = .ok (.iload_n 1, 1) := by decide +kernel
theorem dX5_comesIn_95 : decode cX5_comesIn 95 = .ok (.ireturn, 1) := by decide +kernel
theorem dX5_shares_0 : decode cX5_shares 0 = .ok (.aload_n 0, 1) := by decide +kernel
theorem dX5_shares_1 : decode cX5_shares 1 = .ok (.aload_n 0, 1) := by decide +kernel
theorem dX5_shares_2 : decode cX5_shares 2 = .ok (.getfield 153, 3) := by decide +kernel
theorem dX5_shares_5 : decode cX5_shares 5 = .ok (.putfield 186, 3) := by decide +kernel
theorem dX5_shares_8 : decode cX5_shares 8 = .ok (.aload_n 0, 1) := by decide +kernel
theorem dX5_shares_9 : decode cX5_shares 9 = .ok (.iconst 0, 1) := by decide +kernel
theorem dX5_shares_10 : decode cX5_shares 10 = .ok (.putfield 196, 3) := by decide +kernel
theorem dX5_shares_13 : decode cX5_shares 13 = .ok (.aload_n 0, 1) := by decide +kernel
theorem dX5_shares_14 : decode cX5_shares 14 = .ok (.iconst 0, 1) := by decide +kernel
theorem dX5_shares_15 : decode cX5_shares 15 = .ok (.putfield 199, 3) := by decide +kernel
theorem dX5_shares_18 : decode cX5_shares 18 = .ok (.aload_n 0, 1) := by decide +kernel
theorem dX5_shares_19 : decode cX5_shares 19 = .ok (.getfield 196, 3) := by decide +kernel
theorem dX5_shares_22 : decode cX5_shares 22 = .ok (.bipush 40, 2) := by decide +kernel
theorem dX5_shares_24 : decode cX5_shares 24 = .ok (.if_icmp .ge 105, 3) := by decide +kernel
theorem dX5_shares_27 : decode cX5_shares 27 = .ok (.aload_n 0, 1) := by decide +kernel
theorem dX5_shares_28 : decode cX5_shares 28 = .ok (.getfield 199, 3) := by decide +kernel
theorem dX5_shares_31 : decode cX5_shares 31 = .ok (.ifCond .ne 98, 3) := by decide +kernel
theorem dX5_shares_34 : decode cX5_shares 34 = .ok (.aload_n 0, 1) := by decide +kernel
theorem dX5_shares_35 : decode cX5_shares 35 = .ok (.dup, 1) := by decide +kernel
theorem dX5_shares_36 : decode cX5_shares 36 = .ok (.getfield 196, 3) := by decide +kernel
theorem dX5_shares_39 : decode cX5_shares 39 = .ok (.iconst 1, 1) := by decide +kernel
theorem dX5_shares_40 : decode cX5_shares 40 = .ok (.iadd, 1) := by decide +kernel
theorem dX5_shares_41 : decode cX5_shares 41 = .ok (.putfield 196, 3) := by decide +kernel
theorem dX5_shares_44 : decode cX5_shares 44 = .ok (.aload_n 0, 1) := by decide +kernel
theorem dX5_shares_45 : decode cX5_shares 45 = .ok (.aload_n 0, 1) := by decide +kernel
theorem dX5_shares_46 : decode cX5_shares 46 = .ok (.getfield 186, 3) := by decide +kernel
theorem dX5_shares_49 : decode cX5_shares 49 = .ok (.invokevirtual 202, 3) := by decide +kernel
theorem dX5_shares_52 : decode cX5_shares 52 = .ok (.ifCond .ne 4, 3) := by decide +kernel
theorem dX5_shares_55 : decode cX5_shares 55 = .ok (.return_, 1) := by decide +kernel
theorem dX5_shares_56 : decode cX5_shares 56 = .ok (.aload_n 0, 1) := by decide +kernel
theorem dX5_shares_57 : decode cX5_shares 57 = .ok (.invokevirtual 205, 3) := by decide +kernel
theorem dX5_shares_60 : decode cX5_shares 60 = .ok (.istore_n 1, 1) := by decide +kernel
theorem dX5_shares_61 : decode cX5_shares 61 = .ok (.iload_n 1, 1) := by decide +kernel
theorem dX5_shares_62 : decode cX5_shares 62 = .ok (.bipush (-9), 2) := by decide +kernel
theorem dX5_shares_64 : decode cX5_shares 64 = .ok (.if_icmp .ne 10, 3) := by decide +kernel
theorem dX5_shares_67 : decode cX5_shares 67 = .ok (.aload_n 0, 1) := by decide +kernel
theorem dX5_shares_68 : decode cX5_shares 68 = .ok (.invokevirtual 208, 3) := by decide +kernel
theorem dX5_shares_71 : decode cX5_shares 71 = .ok (.goto 5, 3) := by decide +kernel
theorem dX5_shares_74 : decode cX5_shares 74 = .ok (.bipush (-9), 2) := by decide +kernel
theorem dX5_shares_76 : decode cX5_shares 76 = .ok (.istore_n 2, 1) := by decide +kernel
theorem dX5_shares_77 : decode cX5_shares 77 = .ok (.iload_n 1, 1) := by decide +kernel
theorem dX5_shares_78 : decode cX5_shares 78 = .ok (.bipush (-9), 2) := by decide +kernel
theorem dX5_shares_80 : decode cX5_shares 80 = .ok (.if_icmp .eq 20, 3) := by decide +kernel
theorem dX5_shares_83 : decode cX5_shares 83 = .ok (.aload_n 0, 1) := by decide +kernel
theorem dX5_shares_84 : decode cX5_shares 84 = .ok (.dup, 1) := by decide +kernel
theorem dX5_shares_85 : decode cX5_shares 85 = .ok (.getfield 186, 3) := by decide +kernel
theorem dX5_shares_88 : decode cX5_shares 88 = .ok (.iconst 1, 1) := by decide +kernel
theorem dX5_shares_89 : decode cX5_shares 89 = .ok (.iload_n 1, 1) := by decide +kernel
theorem dX5_shares_90 : decode cX5_shares 90 = .ok (.ishl, 1) := by decide +kernel
theorem dX5_shares_91 : decode cX5_shares 91 = .ok (.iconst (-1), 1) := by decide +kernel
theorem dX5_shares_92 : decode cX5_shares 92 = .ok (.ixor, 1) := by decide +kernel
theorem dX5_shares_93 : decode cX5_shares 93 = .ok (.iand, 1) := by decide +kernel
theorem dX5_shares_94 : decode cX5_shares 94 = .ok (.putfield 186, 3) := by decide +kernel
theorem dX5_shares_97 : decode cX5_shares 97 = .ok (.goto 29, 3) := by decide +kernel
theorem dX5_shares_100 : decode cX5_shares 100 = .ok (.iload_n 2, 1) := by decide +kernel
theorem dX5_shares_101 : decode cX5_shares 101 = .ok (.bipush (-9), 2) := by decide +kernel
theorem dX5_shares_103 : decode cX5_shares 103 = .ok (.if_icmp .eq 18, 3) := by decide +kernel
theorem dX5_shares_106 : decode cX5_shares 106 = .ok (.aload_n 0, 1) := by decide +kernel
theorem dX5_shares_107 : decode cX5_shares 107 = .ok (.dup, 1) := by decide +kernel
theorem dX5_shares_108 : decode cX5_shares 108 = .ok (.getfield 186, 3) := by decide +kernel
theorem dX5_shares_111 : decode cX5_shares 111 = .ok (.iconst 1, 1) := by decide +kernel
theorem dX5_shares_112 : decode cX5_shares 112 = .ok (.iload_n 2, 1) := by decide +kernel
theorem dX5_shares_113 : decode cX5_shares 113 = .ok (.ishl, 1) := by decide +kernel
theorem dX5_shares_114 : decode cX5_shares 114 = .ok (.ior, 1) := by decide +kernel
theorem dX5_shares_115 : decode cX5_shares 115 = .ok (.putfield 186, 3) := by decide +kernel
theorem dX5_shares_118 : decode cX5_shares 118 = .ok (.goto 8, 3) := by decide +kernel
theorem dX5_shares_121 : decode cX5_shares 121 = .ok (.aload_n 0, 1) := by decide +kernel
theorem dX5_shares_122 : decode cX5_shares 122 = .ok (.iconst 1, 1) := by decide +kernel
theorem dX5_shares_123 : decode cX5_shares 123 = .ok (.putfield 199, 3) := by decide +kernel
theorem dX5_shares_126 : decode cX5_shares 126 = .ok (.goto (-108), 3) := by decide +kernel
theorem dX5_shares_129 : decode cX5_shares 129 = .ok (.return_, 1) := by decide +kernel
theorem dX5_sharesNow_0 : decode cX5_sharesNow 0 = .ok (.aload_n 0, 1) := by decide +kernel
theorem dX5_sharesNow_1 : decode cX5_sharesNow 1 = .ok (.invokevirtual 211, 3) := by decide +kernel
theorem dX5_sharesNow_4 : decode cX5_sharesNow 4 = .ok (.aload_n 0, 1) := by decide +kernel
theorem dX5_sharesNow_5 : decode cX5_sharesNow 5 = .ok (.invokevirtual 214, 3) := by decide +kernel
theorem dX5_sharesNow_8 : decode cX5_sharesNow 8 = .ok (.aload_n 0, 1) := by decide +kernel
theorem dX5_sharesNow_9 : decode cX5_sharesNow 9 = .ok (.invokevirtual 217, 3) := by decide +kernel
theorem dX5_sharesNow_12 : decode cX5_sharesNow 12 = .ok (.return_, 1) := by decide +kernel
theorem dX5_common_0 : decode cX5_common 0 = .ok (.lload_n 0, 1) := by decide +kernel
theorem dX5_common_1 : decode cX5_common 1 = .ok (.lconst 0, 1) := by decide +kernel
theorem dX5_common_2 : decode cX5_common 2 = .ok (.lcmp, 1) := by decide +kernel
theorem dX5_common_3 : decode cX5_common 3 = .ok (.ifCond .ge 8, 3) := by decide +kernel
theorem dX5_common_6 : decode cX5_common 6 = .ok (.lload_n 0, 1) := by decide +kernel
theorem dX5_common_7 : decode cX5_common 7 = .ok (.lneg, 1) := by decide +kernel
theorem dX5_common_8 : decode cX5_common 8 = .ok (.goto 4, 3) := by decide +kernel
theorem dX5_common_11 : decode cX5_common 11 = .ok (.lload_n 0, 1) := by decide +kernel
theorem dX5_common_12 : decode cX5_common 12 = .ok (.lstore 4, 2) := by decide +kernel
theorem dX5_common_14 : decode cX5_common 14 = .ok (.lload_n 2, 1) := by decide +kernel
theorem dX5_common_15 : decode cX5_common 15 = .ok (.lstore 6, 2) := by decide +kernel
theorem dX5_common_17 : decode cX5_common 17 = .ok (.lload 6, 2) := by decide +kernel
theorem dX5_common_19 : decode cX5_common 19 = .ok (.lconst 0, 1) := by decide +kernel
theorem dX5_common_20 : decode cX5_common 20 = .ok (.lcmp, 1) := by decide +kernel
theorem dX5_common_21 : decode cX5_common 21 = .ok (.ifCond .eq 21, 3) := by decide +kernel
theorem dX5_common_24 : decode cX5_common 24 = .ok (.lload 4, 2) := by decide +kernel
theorem dX5_common_26 : decode cX5_common 26 = .ok (.lload 6, 2) := by decide +kernel
theorem dX5_common_28 : decode cX5_common 28 = .ok (.lrem, 1) := by decide +kernel
theorem dX5_common_29 : decode cX5_common 29 = .ok (.lstore 8, 2) := by decide +kernel
theorem dX5_common_31 : decode cX5_common 31 = .ok (.lload 6, 2) := by decide +kernel
theorem dX5_common_33 : decode cX5_common 33 = .ok (.lstore 4, 2) := by decide +kernel
theorem dX5_common_35 : decode cX5_common 35 = .ok (.lload 8, 2) := by decide +kernel
theorem dX5_common_37 : decode cX5_common 37 = .ok (.lstore 6, 2) := by decide +kernel
theorem dX5_common_39 : decode cX5_common 39 = .ok (.goto (-22), 3) := by decide +kernel
theorem dX5_common_42 : decode cX5_common 42 = .ok (.lload 4, 2) := by decide +kernel
theorem dX5_common_44 : decode cX5_common 44 = .ok (.lreturn, 1) := by decide +kernel
theorem dX5_part_0 : decode cX5_part 0 = .ok (.lload_n 0, 1) := by decide +kernel
theorem dX5_part_1 : decode cX5_part 1 = .ok (.lload_n 2, 1) := by decide +kernel
theorem dX5_part_2 : decode cX5_part 2 = .ok (.invokestatic 220, 3) := by decide +kernel
theorem dX5_part_5 : decode cX5_part 5 = .ok (.lstore 5, 2) := by decide +kernel
theorem dX5_part_7 : decode cX5_part 7 = .ok (.iload 4, 2) := by decide +kernel
theorem dX5_part_9 : decode cX5_part 9 = .ok (.ifCond .ne 7, 3) := by decide +kernel
theorem dX5_part_12 : decode cX5_part 12 = .ok (.lload_n 0, 1) := by decide +kernel
theorem dX5_part_13 : decode cX5_part 13 = .ok (.goto 4, 3) := by decide +kernel
theorem dX5_part_16 : decode cX5_part 16 = .ok (.lload_n 2, 1) := by decide +kernel
theorem dX5_part_17 : decode cX5_part 17 = .ok (.lload 5, 2) := by decide +kernel
theorem dX5_part_19 : decode cX5_part 19 = .ok (.ldiv, 1) := by decide +kernel
theorem dX5_part_20 : decode cX5_part 20 = .ok (.lreturn, 1) := by decide +kernel
theorem dX5_against_0 : decode cX5_against 0 = .ok (.lload_n 0, 1) := by decide +kernel
theorem dX5_against_1 : decode cX5_against 1 = .ok (.lstore 8, 2) := by decide +kernel
theorem dX5_against_3 : decode cX5_against 3 = .ok (.lload_n 2, 1) := by decide +kernel
theorem dX5_against_4 : decode cX5_against 4 = .ok (.lstore 10, 2) := by decide +kernel
theorem dX5_against_6 : decode cX5_against 6 = .ok (.lload 4, 2) := by decide +kernel
theorem dX5_against_8 : decode cX5_against 8 = .ok (.lstore 12, 2) := by decide +kernel
theorem dX5_against_10 : decode cX5_against 10 = .ok (.lload 6, 2) := by decide +kernel
theorem dX5_against_12 : decode cX5_against 12 = .ok (.lstore 14, 2) := by decide +kernel
theorem dX5_against_14 : decode cX5_against 14 = .ok (.iconst 1, 1) := by decide +kernel
theorem dX5_against_15 : decode cX5_against 15 = .ok (.istore 16, 2) := by decide +kernel
theorem dX5_against_17 : decode cX5_against 17 = .ok (.lload 8, 2) := by decide +kernel
theorem dX5_against_19 : decode cX5_against 19 = .ok (.lload 10, 2) := by decide +kernel
theorem dX5_against_21 : decode cX5_against 21 = .ok (.ldiv, 1) := by decide +kernel
theorem dX5_against_22 : decode cX5_against 22 = .ok (.lstore 17, 2) := by decide +kernel
theorem dX5_against_24 : decode cX5_against 24 = .ok (.lload 12, 2) := by decide +kernel
theorem dX5_against_26 : decode cX5_against 26 = .ok (.lload 14, 2) := by decide +kernel
theorem dX5_against_28 : decode cX5_against 28 = .ok (.ldiv, 1) := by decide +kernel
theorem dX5_against_29 : decode cX5_against 29 = .ok (.lstore 19, 2) := by decide +kernel
theorem dX5_against_31 : decode cX5_against 31 = .ok (.lload 17, 2) := by decide +kernel
theorem dX5_against_33 : decode cX5_against 33 = .ok (.lload 19, 2) := by decide +kernel
theorem dX5_against_35 : decode cX5_against 35 = .ok (.lcmp, 1) := by decide +kernel
theorem dX5_against_36 : decode cX5_against 36 = .ok (.ifCond .eq 20, 3) := by decide +kernel
theorem dX5_against_39 : decode cX5_against 39 = .ok (.lload 17, 2) := by decide +kernel
theorem dX5_against_41 : decode cX5_against 41 = .ok (.lload 19, 2) := by decide +kernel
theorem dX5_against_43 : decode cX5_against 43 = .ok (.lcmp, 1) := by decide +kernel
theorem dX5_against_44 : decode cX5_against 44 = .ok (.ifCond .ge 9, 3) := by decide +kernel
theorem dX5_against_47 : decode cX5_against 47 = .ok (.iload 16, 2) := by decide +kernel
theorem dX5_against_49 : decode cX5_against 49 = .ok (.ineg, 1) := by decide +kernel
theorem dX5_against_50 : decode cX5_against 50 = .ok (.goto 5, 3) := by decide +kernel
theorem dX5_against_53 : decode cX5_against 53 = .ok (.iload 16, 2) := by decide +kernel
theorem dX5_against_55 : decode cX5_against 55 = .ok (.ireturn, 1) := by decide +kernel
theorem dX5_against_56 : decode cX5_against 56 = .ok (.lload 8, 2) := by decide +kernel
theorem dX5_against_58 : decode cX5_against 58 = .ok (.lload 10, 2) := by decide +kernel
theorem dX5_against_60 : decode cX5_against 60 = .ok (.lrem, 1) := by decide +kernel
theorem dX5_against_61 : decode cX5_against 61 = .ok (.lstore 8, 2) := by decide +kernel
theorem dX5_against_63 : decode cX5_against 63 = .ok (.lload 12, 2) := by decide +kernel
theorem dX5_against_65 : decode cX5_against 65 = .ok (.lload 14, 2) := by decide +kernel
theorem dX5_against_67 : decode cX5_against 67 = .ok (.lrem, 1) := by decide +kernel
theorem dX5_against_68 : decode cX5_against 68 = .ok (.lstore 12, 2) := by decide +kernel
theorem dX5_against_70 : decode cX5_against 70 = .ok (.lload 8, 2) := by decide +kernel
theorem dX5_against_72 : decode cX5_against 72 = .ok (.lconst 0, 1) := by decide +kernel
theorem dX5_against_73 : decode cX5_against 73 = .ok (.lcmp, 1) := by decide +kernel
theorem dX5_against_74 : decode cX5_against 74 = .ok (.ifCond .eq 10, 3) := by decide +kernel
theorem dX5_against_77 : decode cX5_against 77 = .ok (.lload 12, 2) := by decide +kernel
theorem dX5_against_79 : decode cX5_against 79 = .ok (.lconst 0, 1) := by decide +kernel
theorem dX5_against_80 : decode cX5_against 80 = .ok (.lcmp, 1) := by decide +kernel
theorem dX5_against_81 : decode cX5_against 81 = .ok (.ifCond .ne 31, 3) := by decide +kernel
theorem dX5_against_84 : decode cX5_against 84 = .ok (.lload 8, 2) := by decide +kernel
theorem dX5_against_86 : decode cX5_against 86 = .ok (.lload 12, 2) := by decide +kernel
theorem dX5_against_88 : decode cX5_against 88 = .ok (.lcmp, 1) := by decide +kernel
theorem dX5_against_89 : decode cX5_against 89 = .ok (.ifCond .ne 7, 3) := by decide +kernel
theorem dX5_against_92 : decode cX5_against 92 = .ok (.iconst 0, 1) := by decide +kernel
theorem dX5_against_93 : decode cX5_against 93 = .ok (.goto 18, 3) := by decide +kernel
theorem dX5_against_96 : decode cX5_against 96 = .ok (.lload 8, 2) := by decide +kernel
theorem dX5_against_98 : decode cX5_against 98 = .ok (.lconst 0, 1) := by decide +kernel
theorem dX5_against_99 : decode cX5_against 99 = .ok (.lcmp, 1) := by decide +kernel
theorem dX5_against_100 : decode cX5_against 100 = .ok (.ifCond .ne 9, 3) := by decide +kernel
theorem dX5_against_103 : decode cX5_against 103 = .ok (.iload 16, 2) := by decide +kernel
theorem dX5_against_105 : decode cX5_against 105 = .ok (.ineg, 1) := by decide +kernel
theorem dX5_against_106 : decode cX5_against 106 = .ok (.goto 5, 3) := by decide +kernel
theorem dX5_against_109 : decode cX5_against 109 = .ok (.iload 16, 2) := by decide +kernel
theorem dX5_against_111 : decode cX5_against 111 = .ok (.ireturn, 1) := by decide +kernel
theorem dX5_against_112 : decode cX5_against 112 = .ok (.lload 8, 2) := by decide +kernel
theorem dX5_against_114 : decode cX5_against 114 = .ok (.lstore 21, 2) := by decide +kernel
theorem dX5_against_116 : decode cX5_against 116 = .ok (.lload 10, 2) := by decide +kernel
theorem dX5_against_118 : decode cX5_against 118 = .ok (.lstore 8, 2) := by decide +kernel
theorem dX5_against_120 : decode cX5_against 120 = .ok (.lload 21, 2) := by decide +kernel
theorem dX5_against_122 : decode cX5_against 122 = .ok (.lstore 10, 2) := by decide +kernel
theorem dX5_against_124 : decode cX5_against 124 = .ok (.lload 12, 2) := by decide +kernel
theorem dX5_against_126 : decode cX5_against 126 = .ok (.lstore 21, 2) := by decide +kernel
theorem dX5_against_128 : decode cX5_against 128 = .ok (.lload 14, 2) := by decide +kernel
theorem dX5_against_130 : decode cX5_against 130 = .ok (.lstore 12, 2) := by decide +kernel
theorem dX5_against_132 : decode cX5_against 132 = .ok (.lload 21, 2) := by decide +kernel
theorem dX5_against_134 : decode cX5_against 134 = .ok (.lstore 14, 2) := by decide +kernel
theorem dX5_against_136 : decode cX5_against 136 = .ok (.iload 16, 2) := by decide +kernel
theorem dX5_against_138 : decode cX5_against 138 = .ok (.ineg, 1) := by decide +kernel
theorem dX5_against_139 : decode cX5_against 139 = .ok (.istore 16, 2) := by decide +kernel
theorem dX5_against_141 : decode cX5_against 141 = .ok (.goto (-124), 3) := by decide +kernel
theorem dX5_laysMost_0 : decode cX5_laysMost 0 = .ok (.aload_n 0, 1) := by decide +kernel
theorem dX5_laysMost_1 : decode cX5_laysMost 1 = .ok (.bipush (-9), 2) := by decide +kernel
theorem dX5_laysMost_3 : decode cX5_laysMost 3 = .ok (.putfield 224, 3) := by decide +kernel
theorem dX5_laysMost_6 : decode cX5_laysMost 6 = .ok (.aload_n 0, 1) := by decide +kernel
theorem dX5_laysMost_7 : decode cX5_laysMost 7 = .ok (.getfield 199, 3) := by decide +kernel
theorem dX5_laysMost_10 : decode cX5_laysMost 10 = .ok (.ifCond .ne 5, 3) := by decide +kernel
theorem dX5_laysMost_13 : decode cX5_laysMost 13 = .ok (.iconst 0, 1) := by decide +kernel
theorem dX5_laysMost_14 : decode cX5_laysMost 14 = .ok (.ireturn, 1) := by decide +kernel
theorem dX5_laysMost_15 : decode cX5_laysMost 15 = .ok (.iconst 0, 1) := by decide +kernel
theorem dX5_laysMost_16 : decode cX5_laysMost 16 = .ok (.istore_n 1, 1) := by decide +kernel
theorem dX5_laysMost_17 : decode cX5_laysMost 17 = .ok (.iload_n 1, 1) := by decide +kernel
theorem dX5_laysMost_18 : decode cX5_laysMost 18 = .ok (.aload_n 0, 1) := by decide +kernel
theorem dX5_laysMost_19 : decode cX5_laysMost 19 = .ok (.getfield 150, 3) := by decide +kernel
theorem dX5_laysMost_22 : decode cX5_laysMost 22 = .ok (.if_icmp .ge 71, 3) := by decide +kernel
theorem dX5_laysMost_25 : decode cX5_laysMost 25 = .ok (.aload_n 0, 1) := by decide +kernel
theorem dX5_laysMost_26 : decode cX5_laysMost 26 = .ok (.getfield 153, 3) := by decide +kernel
theorem dX5_laysMost_29 : decode cX5_laysMost 29 = .ok (.iload_n 1, 1) := by decide +kernel
theorem dX5_laysMost_30 : decode cX5_laysMost 30 = .ok (.ishr, 1) := by decide +kernel
theorem dX5_laysMost_31 : decode cX5_laysMost 31 = .ok (.iconst 1, 1) := by decide +kernel
theorem dX5_laysMost_32 : decode cX5_laysMost 32 = .ok (.iand, 1) := by decide +kernel
theorem dX5_laysMost_33 : decode cX5_laysMost 33 = .ok (.iconst 1, 1) := by decide +kernel
theorem dX5_laysMost_34 : decode cX5_laysMost 34 = .ok (.if_icmp .ne 53, 3) := by decide +kernel
theorem dX5_laysMost_37 : decode cX5_laysMost 37 = .ok (.aload_n 0, 1) := by decide +kernel
theorem dX5_laysMost_38 : decode cX5_laysMost 38 = .ok (.getfield 224, 3) := by decide +kernel
theorem dX5_laysMost_41 : decode cX5_laysMost 41 = .ok (.bipush (-9), 2) := by decide +kernel
theorem dX5_laysMost_43 : decode cX5_laysMost 43 = .ok (.if_icmp .eq 39, 3) := by decide +kernel
theorem dX5_laysMost_46 : decode cX5_laysMost 46 = .ok (.aload_n 0, 1) := by decide +kernel
theorem dX5_laysMost_47 : decode cX5_laysMost 47 = .ok (.iload_n 1, 1) := by decide +kernel
theorem dX5_laysMost_48 : decode cX5_laysMost 48 = .ok (.invokevirtual 193, 3) := by decide +kernel
theorem dX5_laysMost_51 : decode cX5_laysMost 51 = .ok (.aload_n 0, 1) := by decide +kernel
theorem dX5_laysMost_52 : decode cX5_laysMost 52 = .ok (.getfield 45, 3) := by decide +kernel
theorem dX5_laysMost_55 : decode cX5_laysMost 55 = .ok (.aload_n 0, 1) := by decide +kernel
theorem dX5_laysMost_56 : decode cX5_laysMost 56 = .ok (.getfield 224, 3) := by decide +kernel
theorem dX5_laysMost_59 : decode cX5_laysMost 59 = .ok (.iaload, 1) := by decide +kernel
theorem dX5_laysMost_60 : decode cX5_laysMost 60 = .ok (.i2l, 1) := by decide +kernel
theorem dX5_laysMost_61 : decode cX5_laysMost 61 = .ok (.lmul, 1) := by decide +kernel
theorem dX5_laysMost_62 : decode cX5_laysMost 62 = .ok (.aload_n 0, 1) := by decide +kernel
theorem dX5_laysMost_63 : decode cX5_laysMost 63 = .ok (.aload_n 0, 1) := by decide +kernel
theorem dX5_laysMost_64 : decode cX5_laysMost 64 = .ok (.getfield 224, 3) := by decide +kernel
theorem dX5_laysMost_67 : decode cX5_laysMost 67 = .ok (.invokevirtual 193, 3) := by decide +kernel
theorem dX5_laysMost_70 : decode cX5_laysMost 70 = .ok (.aload_n 0, 1) := by decide +kernel
theorem dX5_laysMost_71 : decode cX5_laysMost 71 = .ok (.getfield 45, 3) := by decide +kernel
theorem dX5_laysMost_74 : decode cX5_laysMost 74 = .ok (.iload_n 1, 1) := by decide +kernel
theorem dX5_laysMost_75 : decode cX5_laysMost 75 = .ok (.iaload, 1) := by decide +kernel
theorem dX5_laysMost_76 : decode cX5_laysMost 76 = .ok (.i2l, 1) := by decide +kernel
theorem dX5_laysMost_77 : decode cX5_laysMost 77 = .ok (.lmul, 1) := by decide +kernel
theorem dX5_laysMost_78 : decode cX5_laysMost 78 = .ok (.lcmp, 1) := by decide +kernel
theorem dX5_laysMost_79 : decode cX5_laysMost 79 = .ok (.ifCond .le 8, 3) := by decide +kernel
theorem dX5_laysMost_82 : decode cX5_laysMost 82 = .ok (.aload_n 0, 1) := by decide +kernel
theorem dX5_laysMost_83 : decode cX5_laysMost 83 = .ok (.iload_n 1, 1) := by decide +kernel
theorem dX5_laysMost_84 : decode cX5_laysMost 84 = .ok (.putfield 224, 3) := by decide +kernel
theorem dX5_laysMost_87 : decode cX5_laysMost 87 = .ok (.iinc 1 1, 3) := by decide +kernel
theorem dX5_laysMost_90 : decode cX5_laysMost 90 = .ok (.goto (-73), 3) := by decide +kernel
theorem dX5_laysMost_93 : decode cX5_laysMost 93 = .ok (.aload_n 0, 1) := by decide +kernel
theorem dX5_laysMost_94 : decode cX5_laysMost 94 = .ok (.getfield 224, 3) := by decide +kernel
theorem dX5_laysMost_97 : decode cX5_laysMost 97 = .ok (.bipush (-9), 2) := by decide +kernel
theorem dX5_laysMost_99 : decode cX5_laysMost 99 = .ok (.if_icmp .ne 5, 3) := by decide +kernel
theorem dX5_laysMost_102 : decode cX5_laysMost 102 = .ok (.iconst 0, 1) := by decide +kernel
theorem dX5_laysMost_103 : decode cX5_laysMost 103 = .ok (.ireturn, 1) := by decide +kernel
theorem dX5_laysMost_104 : decode cX5_laysMost 104 = .ok (.aload_n 0, 1) := by decide +kernel
theorem dX5_laysMost_105 : decode cX5_laysMost 105 = .ok (.aload_n 0, 1) := by decide +kernel
theorem dX5_laysMost_106 : decode cX5_laysMost 106 = .ok (.aload_n 0, 1) := by decide +kernel
theorem dX5_laysMost_107 : decode cX5_laysMost 107 = .ok (.getfield 224, 3) := by decide +kernel
theorem dX5_laysMost_110 : decode cX5_laysMost 110 = .ok (.invokevirtual 193, 3) := by decide +kernel
theorem dX5_laysMost_113 : decode cX5_laysMost 113 = .ok (.putfield 227, 3) := by decide +kernel
theorem dX5_laysMost_116 : decode cX5_laysMost 116 = .ok (.aload_n 0, 1) := by decide +kernel
theorem dX5_laysMost_117 : decode cX5_laysMost 117 = .ok (.aload_n 0, 1) := by decide +kernel
theorem dX5_laysMost_118 : decode cX5_laysMost 118 = .ok (.getfield 174, 3) := by decide +kernel
theorem dX5_laysMost_121 : decode cX5_laysMost 121 = .ok (.aload_n 0, 1) := by decide +kernel
theorem dX5_laysMost_122 : decode cX5_laysMost 122 = .ok (.getfield 45, 3) := by decide +kernel
theorem dX5_laysMost_125 : decode cX5_laysMost 125 = .ok (.aload_n 0, 1) := by decide +kernel
theorem dX5_laysMost_126 : decode cX5_laysMost 126 = .ok (.getfield 224, 3) := by decide +kernel
theorem dX5_laysMost_129 : decode cX5_laysMost 129 = .ok (.iaload, 1) := by decide +kernel
theorem dX5_laysMost_130 : decode cX5_laysMost 130 = .ok (.i2l, 1) := by decide +kernel
theorem dX5_laysMost_131 : decode cX5_laysMost 131 = .ok (.lmul, 1) := by decide +kernel
theorem dX5_laysMost_132 : decode cX5_laysMost 132 = .ok (.putfield 230, 3) := by decide +kernel
theorem dX5_laysMost_135 : decode cX5_laysMost 135 = .ok (.iconst 1, 1) := by decide +kernel
theorem dX5_laysMost_136 : decode cX5_laysMost 136 = .ok (.ireturn, 1) := by decide +kernel
theorem dX5_tellsMost_0 : decode cX5_tellsMost 0 = .ok (.iload_n 1, 1) := by decide +kernel
theorem dX5_tellsMost_1 : decode cX5_tellsMost 1 = .ok (.iconst 2, 1) := by decide +kernel
theorem dX5_tellsMost_2 : decode cX5_tellsMost 2 = .ok (.if_icmp .ne 11, 3) := by decide +kernel
theorem dX5_tellsMost_5 : decode cX5_tellsMost 5 = .ok (.aload_n 0, 1) := by decide +kernel
theorem dX5_tellsMost_6 : decode cX5_tellsMost 6 = .ok (.getfield 224, 3) := by decide +kernel
theorem dX5_tellsMost_9 : decode cX5_tellsMost 9 = .ok (.i2l, 1) := by decide +kernel
theorem dX5_tellsMost_10 : decode cX5_tellsMost 10 = .ok (.goto 15, 3) := by decide +kernel
theorem dX5_tellsMost_13 : decode cX5_tellsMost 13 = .ok (.aload_n 0, 1) := by decide +kernel
theorem dX5_tellsMost_14 : decode cX5_tellsMost 14 = .ok (.getfield 227, 3) := by decide +kernel
theorem dX5_tellsMost_17 : decode cX5_tellsMost 17 = .ok (.aload_n 0, 1) := by decide +kernel
theorem dX5_tellsMost_18 : decode cX5_tellsMost 18 = .ok (.getfield 230, 3) := by decide +kernel
theorem dX5_tellsMost_21 : decode cX5_tellsMost 21 = .ok (.iload_n 1, 1) := by decide +kernel
theorem dX5_tellsMost_22 : decode cX5_tellsMost 22 = .ok (.invokestatic 233, 3) := by decide +kernel
theorem dX5_tellsMost_25 : decode cX5_tellsMost 25 = .ok (.lreturn, 1) := by decide +kernel
theorem dX5_pile_0 : decode cX5_pile 0 = .ok (.aload_n 0, 1) := by decide +kernel
theorem dX5_pile_1 : decode cX5_pile 1 = .ok (.iload_n 1, 1) := by decide +kernel
theorem dX5_pile_2 : decode cX5_pile 2 = .ok (.invokevirtual 133, 3) := by decide +kernel
theorem dX5_pile_5 : decode cX5_pile 5 = .ok (.ifCond .eq 12, 3) := by decide +kernel
theorem dX5_pile_8 : decode cX5_pile 8 = .ok (.iload_n 2, 1) := by decide +kernel
theorem dX5_pile_9 : decode cX5_pile 9 = .ok (.iconst 0, 1) := by decide +kernel
theorem dX5_pile_10 : decode cX5_pile 10 = .ok (.iconst 5, 1) := by decide +kernel
theorem dX5_pile_11 : decode cX5_pile 11 = .ok (.invokestatic 57, 3) := by decide +kernel
theorem dX5_pile_14 : decode cX5_pile 14 = .ok (.ifCond .ne 7, 3) := by decide +kernel
theorem dX5_pile_17 : decode cX5_pile 17 = .ok (.ldc2_w 237, 3) := by decide +kernel
theorem dX5_pile_20 : decode cX5_pile 20 = .ok (.lreturn, 1) := by decide +kernel
theorem dX5_pile_21 : decode cX5_pile 21 = .ok (.iload_n 2, 1) := by decide +kernel
theorem dX5_pile_22 : decode cX5_pile 22 = .ok (.iconst 4, 1) := by decide +kernel
theorem dX5_pile_23 : decode cX5_pile 23 = .ok (.if_icmp .ge 11, 3) := by decide +kernel
theorem dX5_pile_26 : decode cX5_pile 26 = .ok (.aload_n 0, 1) := by decide +kernel
theorem dX5_pile_27 : decode cX5_pile 27 = .ok (.iload_n 1, 1) := by decide +kernel
theorem dX5_pile_28 : decode cX5_pile 28 = .ok (.iload_n 2, 1) := by decide +kernel
theorem dX5_pile_29 : decode cX5_pile 29 = .ok (.invokevirtual 117, 3) := by decide +kernel
theorem dX5_pile_32 : decode cX5_pile 32 = .ok (.i2l, 1) := by decide +kernel
theorem dX5_pile_33 : decode cX5_pile 33 = .ok (.lreturn, 1) := by decide +kernel
theorem dX5_pile_34 : decode cX5_pile 34 = .ok (.iload_n 2, 1) := by decide +kernel
theorem dX5_pile_35 : decode cX5_pile 35 = .ok (.iconst 4, 1) := by decide +kernel
theorem dX5_pile_36 : decode cX5_pile 36 = .ok (.if_icmp .ne 13, 3) := by decide +kernel
theorem dX5_pile_39 : decode cX5_pile 39 = .ok (.iconst 1, 1) := by decide +kernel
theorem dX5_pile_40 : decode cX5_pile 40 = .ok (.aload_n 0, 1) := by decide +kernel
theorem dX5_pile_41 : decode cX5_pile 41 = .ok (.iload_n 1, 1) := by decide +kernel
theorem dX5_pile_42 : decode cX5_pile 42 = .ok (.iconst 4, 1) := by decide +kernel
theorem dX5_pile_43 : decode cX5_pile 43 = .ok (.invokevirtual 117, 3) := by decide +kernel
theorem dX5_pile_46 : decode cX5_pile 46 = .ok (.isub, 1) := by decide +kernel
theorem dX5_pile_47 : decode cX5_pile 47 = .ok (.i2l, 1) := by decide +kernel
theorem dX5_pile_48 : decode cX5_pile 48 = .ok (.lreturn, 1) := by decide +kernel
theorem dX5_pile_49 : decode cX5_pile 49 = .ok (.aload_n 0, 1) := by decide +kernel
theorem dX5_pile_50 : decode cX5_pile 50 = .ok (.invokevirtual 239, 3) := by decide +kernel
theorem dX5_pile_53 : decode cX5_pile 53 = .ok (.aload_n 0, 1) := by decide +kernel
theorem dX5_pile_54 : decode cX5_pile 54 = .ok (.getfield 199, 3) := by decide +kernel
theorem dX5_pile_57 : decode cX5_pile 57 = .ok (.ifCond .ne 9, 3) := by decide +kernel
theorem dX5_pile_60 : decode cX5_pile 60 = .ok (.ldc2_w 242, 3) := by decide +kernel
theorem dX5_pile_63 : decode cX5_pile 63 = .ok (.goto 12, 3) := by decide +kernel
theorem dX5_pile_66 : decode cX5_pile 66 = .ok (.aload_n 0, 1) := by decide +kernel
theorem dX5_pile_67 : decode cX5_pile 67 = .ok (.getfield 186, 3) := by decide +kernel
theorem dX5_pile_70 : decode cX5_pile 70 = .ok (.iload_n 1, 1) := by decide +kernel
theorem dX5_pile_71 : decode cX5_pile 71 = .ok (.ishr, 1) := by decide +kernel
theorem dX5_pile_72 : decode cX5_pile 72 = .ok (.iconst 1, 1) := by decide +kernel
theorem dX5_pile_73 : decode cX5_pile 73 = .ok (.iand, 1) := by decide +kernel
theorem dX5_pile_74 : decode cX5_pile 74 = .ok (.i2l, 1) := by decide +kernel
theorem dX5_pile_75 : decode cX5_pile 75 = .ok (.lreturn, 1) := by decide +kernel
theorem dX5_column_0 : decode cX5_column 0 = .ok (.aload_n 0, 1) := by decide +kernel
theorem dX5_column_1 : decode cX5_column 1 = .ok (.iload_n 1, 1) := by decide +kernel
theorem dX5_column_2 : decode cX5_column 2 = .ok (.invokevirtual 144, 3) := by decide +kernel
theorem dX5_column_5 : decode cX5_column 5 = .ok (.ifCond .eq 22, 3) := by decide +kernel
theorem dX5_column_8 : decode cX5_column 8 = .ok (.iload_n 2, 1) := by decide +kernel
theorem dX5_column_9 : decode cX5_column 9 = .ok (.iconst 0, 1) := by decide +kernel
theorem dX5_column_10 : decode cX5_column 10 = .ok (.iconst 2, 1) := by decide +kernel
theorem dX5_column_11 : decode cX5_column 11 = .ok (.invokestatic 57, 3) := by decide +kernel
theorem dX5_column_14 : decode cX5_column 14 = .ok (.ifCond .eq 13, 3) := by decide +kernel
theorem dX5_column_17 : decode cX5_column 17 = .ok (.aload_n 0, 1) := by decide +kernel
theorem dX5_column_18 : decode cX5_column 18 = .ok (.iload_n 1, 1) := by decide +kernel
theorem dX5_column_19 : decode cX5_column 19 = .ok (.iload_n 2, 1) := by decide +kernel
theorem dX5_column_20 : decode cX5_column 20 = .ok (.invokevirtual 147, 3) := by decide +kernel
theorem dX5_column_23 : decode cX5_column 23 = .ok (.i2l, 1) := by decide +kernel
theorem dX5_column_24 : decode cX5_column 24 = .ok (.goto 6, 3) := by decide +kernel
theorem dX5_column_27 : decode cX5_column 27 = .ok (.ldc2_w 237, 3) := by decide +kernel
theorem dX5_column_30 : decode cX5_column 30 = .ok (.lreturn, 1) := by decide +kernel
theorem dX5_sum_0 : decode cX5_sum 0 = .ok (.iload_n 1, 1) := by decide +kernel
theorem dX5_sum_1 : decode cX5_sum 1 = .ok (.iconst 0, 1) := by decide +kernel
theorem dX5_sum_2 : decode cX5_sum 2 = .ok (.iconst 4, 1) := by decide +kernel
theorem dX5_sum_3 : decode cX5_sum 3 = .ok (.invokestatic 57, 3) := by decide +kernel
theorem dX5_sum_6 : decode cX5_sum 6 = .ok (.ifCond .eq 11, 3) := by decide +kernel
theorem dX5_sum_9 : decode cX5_sum 9 = .ok (.aload_n 0, 1) := by decide +kernel
theorem dX5_sum_10 : decode cX5_sum 10 = .ok (.iload_n 1, 1) := by decide +kernel
theorem dX5_sum_11 : decode cX5_sum 11 = .ok (.invokevirtual 156, 3) := by decide +kernel
theorem dX5_sum_14 : decode cX5_sum 14 = .ok (.goto 6, 3) := by decide +kernel
theorem dX5_sum_17 : decode cX5_sum 17 = .ok (.ldc2_w 237, 3) := by decide +kernel
theorem dX5_sum_20 : decode cX5_sum 20 = .ok (.lreturn, 1) := by decide +kernel
theorem dX5_sharing_0 : decode cX5_sharing 0 = .ok (.iload_n 1, 1) := by decide +kernel
theorem dX5_sharing_1 : decode cX5_sharing 1 = .ok (.iconst 0, 1) := by decide +kernel
theorem dX5_sharing_2 : decode cX5_sharing 2 = .ok (.iconst 2, 1) := by decide +kernel
theorem dX5_sharing_3 : decode cX5_sharing 3 = .ok (.invokestatic 57, 3) := by decide +kernel
theorem dX5_sharing_6 : decode cX5_sharing 6 = .ok (.ifCond .ne 5, 3) := by decide +kernel
theorem dX5_sharing_9 : decode cX5_sharing 9 = .ok (.iconst (-1), 1) := by decide +kernel
theorem dX5_sharing_10 : decode cX5_sharing 10 = .ok (.ireturn, 1) := by decide +kernel
theorem dX5_sharing_11 : decode cX5_sharing 11 = .ok (.aload_n 0, 1) := by decide +kernel
theorem dX5_sharing_12 : decode cX5_sharing 12 = .ok (.invokevirtual 239, 3) := by decide +kernel
theorem dX5_sharing_15 : decode cX5_sharing 15 = .ok (.iload_n 1, 1) := by decide +kernel
theorem dX5_sharing_16 : decode cX5_sharing 16 = .ok (.ifCond .ne 10, 3) := by decide +kernel
theorem dX5_sharing_19 : decode cX5_sharing 19 = .ok (.aload_n 0, 1) := by decide +kernel
theorem dX5_sharing_20 : decode cX5_sharing 20 = .ok (.getfield 196, 3) := by decide +kernel
theorem dX5_sharing_23 : decode cX5_sharing 23 = .ok (.goto 46, 3) := by decide +kernel
theorem dX5_sharing_26 : decode cX5_sharing 26 = .ok (.iload_n 1, 1) := by decide +kernel
theorem dX5_sharing_27 : decode cX5_sharing 27 = .ok (.iconst 1, 1) := by decide +kernel
theorem dX5_sharing_28 : decode cX5_sharing 28 = .ok (.if_icmp .ne 18, 3) := by decide +kernel
theorem dX5_sharing_31 : decode cX5_sharing 31 = .ok (.aload_n 0, 1) := by decide +kernel
theorem dX5_sharing_32 : decode cX5_sharing 32 = .ok (.getfield 199, 3) := by decide +kernel
theorem dX5_sharing_35 : decode cX5_sharing 35 = .ok (.ifCond .eq 7, 3) := by decide +kernel
theorem dX5_sharing_38 : decode cX5_sharing 38 = .ok (.iconst 1, 1) := by decide +kernel
theorem dX5_sharing_39 : decode cX5_sharing 39 = .ok (.goto 30, 3) := by decide +kernel
theorem dX5_sharing_42 : decode cX5_sharing 42 = .ok (.iconst 0, 1) := by decide +kernel
theorem dX5_sharing_43 : decode cX5_sharing 43 = .ok (.goto 26, 3) := by decide +kernel
theorem dX5_sharing_46 : decode cX5_sharing 46 = .ok (.aload_n 0, 1) := by decide +kernel
theorem dX5_sharing_47 : decode cX5_sharing 47 = .ok (.getfield 199, 3) := by decide +kernel
theorem dX5_sharing_50 : decode cX5_sharing 50 = .ok (.ifCond .eq 17, 3) := by decide +kernel
theorem dX5_sharing_53 : decode cX5_sharing 53 = .ok (.aload_n 0, 1) := by decide +kernel
theorem dX5_sharing_54 : decode cX5_sharing 54 = .ok (.getfield 153, 3) := by decide +kernel
theorem dX5_sharing_57 : decode cX5_sharing 57 = .ok (.aload_n 0, 1) := by decide +kernel
theorem dX5_sharing_58 : decode cX5_sharing 58 = .ok (.getfield 186, 3) := by decide +kernel
theorem dX5_sharing_61 : decode cX5_sharing 61 = .ok (.iconst (-1), 1) := by decide +kernel
theorem dX5_sharing_62 : decode cX5_sharing 62 = .ok (.ixor, 1) := by decide +kernel
theorem dX5_sharing_63 : decode cX5_sharing 63 = .ok (.iand, 1) := by decide +kernel
theorem dX5_sharing_64 : decode cX5_sharing 64 = .ok (.goto 5, 3) := by decide +kernel
theorem dX5_sharing_67 : decode cX5_sharing 67 = .ok (.bipush (-9), 2) := by decide +kernel
theorem dX5_sharing_69 : decode cX5_sharing 69 = .ok (.ireturn, 1) := by decide +kernel
theorem dX5_share_0 : decode cX5_share 0 = .ok (.aload_n 0, 1) := by decide +kernel
theorem dX5_share_1 : decode cX5_share 1 = .ok (.iload_n 1, 1) := by decide +kernel
theorem dX5_share_2 : decode cX5_share 2 = .ok (.invokevirtual 133, 3) := by decide +kernel
theorem dX5_share_5 : decode cX5_share 5 = .ok (.ifCond .eq 12, 3) := by decide +kernel
theorem dX5_share_8 : decode cX5_share 8 = .ok (.iload_n 2, 1) := by decide +kernel
theorem dX5_share_9 : decode cX5_share 9 = .ok (.iconst 0, 1) := by decide +kernel
theorem dX5_share_10 : decode cX5_share 10 = .ok (.iconst 2, 1) := by decide +kernel
theorem dX5_share_11 : decode cX5_share 11 = .ok (.invokestatic 57, 3) := by decide +kernel
theorem dX5_share_14 : decode cX5_share 14 = .ok (.ifCond .ne 7, 3) := by decide +kernel
theorem dX5_share_17 : decode cX5_share 17 = .ok (.ldc2_w 237, 3) := by decide +kernel
theorem dX5_share_20 : decode cX5_share 20 = .ok (.lreturn, 1) := by decide +kernel
theorem dX5_share_21 : decode cX5_share 21 = .ok (.aload_n 0, 1) := by decide +kernel
theorem dX5_share_22 : decode cX5_share 22 = .ok (.invokevirtual 239, 3) := by decide +kernel
theorem dX5_share_25 : decode cX5_share 25 = .ok (.aload_n 0, 1) := by decide +kernel
theorem dX5_share_26 : decode cX5_share 26 = .ok (.getfield 199, 3) := by decide +kernel
theorem dX5_share_29 : decode cX5_share 29 = .ok (.ifCond .ne 9, 3) := by decide +kernel
theorem dX5_share_32 : decode cX5_share 32 = .ok (.ldc2_w 244, 3) := by decide +kernel
theorem dX5_share_35 : decode cX5_share 35 = .ok (.goto 34, 3) := by decide +kernel
theorem dX5_share_38 : decode cX5_share 38 = .ok (.iload_n 2, 1) := by decide +kernel
theorem dX5_share_39 : decode cX5_share 39 = .ok (.iconst 2, 1) := by decide +kernel
theorem dX5_share_40 : decode cX5_share 40 = .ok (.if_icmp .ne 16, 3) := by decide +kernel
theorem dX5_share_43 : decode cX5_share 43 = .ok (.aload_n 0, 1) := by decide +kernel
theorem dX5_share_44 : decode cX5_share 44 = .ok (.iload_n 1, 1) := by decide +kernel
theorem dX5_share_45 : decode cX5_share 45 = .ok (.invokevirtual 193, 3) := by decide +kernel
theorem dX5_share_48 : decode cX5_share 48 = .ok (.aload_n 0, 1) := by decide +kernel
theorem dX5_share_49 : decode cX5_share 49 = .ok (.getfield 174, 3) := by decide +kernel
theorem dX5_share_52 : decode cX5_share 52 = .ok (.ldiv, 1) := by decide +kernel
theorem dX5_share_53 : decode cX5_share 53 = .ok (.goto 16, 3) := by decide +kernel
theorem dX5_share_56 : decode cX5_share 56 = .ok (.aload_n 0, 1) := by decide +kernel
theorem dX5_share_57 : decode cX5_share 57 = .ok (.iload_n 1, 1) := by decide +kernel
theorem dX5_share_58 : decode cX5_share 58 = .ok (.invokevirtual 193, 3) := by decide +kernel
theorem dX5_share_61 : decode cX5_share 61 = .ok (.aload_n 0, 1) := by decide +kernel
theorem dX5_share_62 : decode cX5_share 62 = .ok (.getfield 174, 3) := by decide +kernel
theorem dX5_share_65 : decode cX5_share 65 = .ok (.iload_n 2, 1) := by decide +kernel
theorem dX5_share_66 : decode cX5_share 66 = .ok (.invokestatic 233, 3) := by decide +kernel
theorem dX5_share_69 : decode cX5_share 69 = .ok (.lreturn, 1) := by decide +kernel
theorem dX5_press_0 : decode cX5_press 0 = .ok (.iload_n 1, 1) := by decide +kernel
theorem dX5_press_1 : decode cX5_press 1 = .ok (.iload_n 2, 1) := by decide +kernel
theorem dX5_press_2 : decode cX5_press 2 = .ok (.invokestatic 121, 3) := by decide +kernel
theorem dX5_press_5 : decode cX5_press 5 = .ok (.ifCond .eq 12, 3) := by decide +kernel
theorem dX5_press_8 : decode cX5_press 8 = .ok (.iload_n 3, 1) := by decide +kernel
theorem dX5_press_9 : decode cX5_press 9 = .ok (.iconst 0, 1) := by decide +kernel
theorem dX5_press_10 : decode cX5_press 10 = .ok (.iconst 1, 1) := by decide +kernel
theorem dX5_press_11 : decode cX5_press 11 = .ok (.invokestatic 57, 3) := by decide +kernel
theorem dX5_press_14 : decode cX5_press 14 = .ok (.ifCond .ne 7, 3) := by decide +kernel
theorem dX5_press_17 : decode cX5_press 17 = .ok (.ldc2_w 237, 3) := by decide +kernel
theorem dX5_press_20 : decode cX5_press 20 = .ok (.lreturn, 1) := by decide +kernel
theorem dX5_press_21 : decode cX5_press 21 = .ok (.aload_n 0, 1) := by decide +kernel
theorem dX5_press_22 : decode cX5_press 22 = .ok (.invokevirtual 239, 3) := by decide +kernel
theorem dX5_press_25 : decode cX5_press 25 = .ok (.aload_n 0, 1) := by decide +kernel
theorem dX5_press_26 : decode cX5_press 26 = .ok (.getfield 199, 3) := by decide +kernel
theorem dX5_press_29 : decode cX5_press 29 = .ok (.ifCond .eq 20, 3) := by decide +kernel
theorem dX5_press_32 : decode cX5_press 32 = .ok (.aload_n 0, 1) := by decide +kernel
theorem dX5_press_33 : decode cX5_press 33 = .ok (.iload_n 1, 1) := by decide +kernel
theorem dX5_press_34 : decode cX5_press 34 = .ok (.iload_n 2, 1) := by decide +kernel
theorem dX5_press_35 : decode cX5_press 35 = .ok (.invokevirtual 189, 3) := by decide +kernel
theorem dX5_press_38 : decode cX5_press 38 = .ok (.aload_n 0, 1) := by decide +kernel
theorem dX5_press_39 : decode cX5_press 39 = .ok (.getfield 174, 3) := by decide +kernel
theorem dX5_press_42 : decode cX5_press 42 = .ok (.iload_n 3, 1) := by decide +kernel
theorem dX5_press_43 : decode cX5_press 43 = .ok (.invokestatic 233, 3) := by decide +kernel
theorem dX5_press_46 : decode cX5_press 46 = .ok (.goto 6, 3) := by decide +kernel
theorem dX5_press_49 : decode cX5_press 49 = .ok (.ldc2_w 244, 3) := by decide +kernel
theorem dX5_press_52 : decode cX5_press 52 = .ok (.lreturn, 1) := by decide +kernel
theorem dX5_most_0 : decode cX5_most 0 = .ok (.iload_n 1, 1) := by decide +kernel
theorem dX5_most_1 : decode cX5_most 1 = .ok (.iconst 0, 1) := by decide +kernel
theorem dX5_most_2 : decode cX5_most 2 = .ok (.iconst 2, 1) := by decide +kernel
theorem dX5_most_3 : decode cX5_most 3 = .ok (.invokestatic 57, 3) := by decide +kernel
theorem dX5_most_6 : decode cX5_most 6 = .ok (.ifCond .ne 7, 3) := by decide +kernel
theorem dX5_most_9 : decode cX5_most 9 = .ok (.ldc2_w 246, 3) := by decide +kernel
theorem dX5_most_12 : decode cX5_most 12 = .ok (.lreturn, 1) := by decide +kernel
theorem dX5_most_13 : decode cX5_most 13 = .ok (.aload_n 0, 1) := by decide +kernel
theorem dX5_most_14 : decode cX5_most 14 = .ok (.invokevirtual 239, 3) := by decide +kernel
theorem dX5_most_17 : decode cX5_most 17 = .ok (.aload_n 0, 1) := by decide +kernel
theorem dX5_most_18 : decode cX5_most 18 = .ok (.invokevirtual 248, 3) := by decide +kernel
theorem dX5_most_21 : decode cX5_most 21 = .ok (.ifCond .eq 11, 3) := by decide +kernel
theorem dX5_most_24 : decode cX5_most 24 = .ok (.aload_n 0, 1) := by decide +kernel
theorem dX5_most_25 : decode cX5_most 25 = .ok (.iload_n 1, 1) := by decide +kernel
theorem dX5_most_26 : decode cX5_most 26 = .ok (.invokevirtual 251, 3) := by decide +kernel
theorem dX5_most_29 : decode cX5_most 29 = .ok (.goto 6, 3) := by decide +kernel
theorem dX5_most_32 : decode cX5_most 32 = .ok (.ldc2_w 242, 3) := by decide +kernel
theorem dX5_most_35 : decode cX5_most 35 = .ok (.lreturn, 1) := by decide +kernel
theorem dX5_factor_0 : decode cX5_factor 0 = .ok (.iload_n 1, 1) := by decide +kernel
theorem dX5_factor_1 : decode cX5_factor 1 = .ok (.iconst 0, 1) := by decide +kernel
theorem dX5_factor_2 : decode cX5_factor 2 = .ok (.iconst 1, 1) := by decide +kernel
theorem dX5_factor_3 : decode cX5_factor 3 = .ok (.invokestatic 57, 3) := by decide +kernel
theorem dX5_factor_6 : decode cX5_factor 6 = .ok (.ifCond .ne 7, 3) := by decide +kernel
theorem dX5_factor_9 : decode cX5_factor 9 = .ok (.ldc2_w 246, 3) := by decide +kernel
theorem dX5_factor_12 : decode cX5_factor 12 = .ok (.lreturn, 1) := by decide +kernel
theorem dX5_factor_13 : decode cX5_factor 13 = .ok (.aload_n 0, 1) := by decide +kernel
theorem dX5_factor_14 : decode cX5_factor 14 = .ok (.invokevirtual 239, 3) := by decide +kernel
theorem dX5_factor_17 : decode cX5_factor 17 = .ok (.aload_n 0, 1) := by decide +kernel
theorem dX5_factor_18 : decode cX5_factor 18 = .ok (.invokevirtual 248, 3) := by decide +kernel
theorem dX5_factor_21 : decode cX5_factor 21 = .ok (.ifCond .eq 29, 3) := by decide +kernel
theorem dX5_factor_24 : decode cX5_factor 24 = .ok (.aload_n 0, 1) := by decide +kernel
theorem dX5_factor_25 : decode cX5_factor 25 = .ok (.getfield 227, 3) := by decide +kernel
theorem dX5_factor_28 : decode cX5_factor 28 = .ok (.lconst 0, 1) := by decide +kernel
theorem dX5_factor_29 : decode cX5_factor 29 = .ok (.lcmp, 1) := by decide +kernel
theorem dX5_factor_30 : decode cX5_factor 30 = .ok (.ifCond .eq 20, 3) := by decide +kernel
theorem dX5_factor_33 : decode cX5_factor 33 = .ok (.aload_n 0, 1) := by decide +kernel
theorem dX5_factor_34 : decode cX5_factor 34 = .ok (.getfield 227, 3) := by decide +kernel
theorem dX5_factor_37 : decode cX5_factor 37 = .ok (.aload_n 0, 1) := by decide +kernel
theorem dX5_factor_38 : decode cX5_factor 38 = .ok (.getfield 230, 3) := by decide +kernel
theorem dX5_factor_41 : decode cX5_factor 41 = .ok (.iconst 1, 1) := by decide +kernel
theorem dX5_factor_42 : decode cX5_factor 42 = .ok (.iload_n 1, 1) := by decide +kernel
theorem dX5_factor_43 : decode cX5_factor 43 = .ok (.isub, 1) := by decide +kernel
theorem dX5_factor_44 : decode cX5_factor 44 = .ok (.invokestatic 233, 3) := by decide +kernel
theorem dX5_factor_47 : decode cX5_factor 47 = .ok (.goto 6, 3) := by decide +kernel
theorem dX5_factor_50 : decode cX5_factor 50 = .ok (.ldc2_w 242, 3) := by decide +kernel
theorem dX5_factor_53 : decode cX5_factor 53 = .ok (.lreturn, 1) := by decide +kernel
theorem dX5_isKern_0 : decode cX5_isKern 0 = .ok (.aload_n 0, 1) := by decide +kernel
theorem dX5_isKern_1 : decode cX5_isKern 1 = .ok (.iconst 1, 1) := by decide +kernel
theorem dX5_isKern_2 : decode cX5_isKern 2 = .ok (.iload_n 1, 1) := by decide +kernel
theorem dX5_isKern_3 : decode cX5_isKern 3 = .ok (.iload_n 2, 1) := by decide +kernel
theorem dX5_isKern_4 : decode cX5_isKern 4 = .ok (.invokevirtual 254, 3) := by decide +kernel
theorem dX5_isKern_7 : decode cX5_isKern 7 = .ok (.aload_n 0, 1) := by decide +kernel
theorem dX5_isKern_8 : decode cX5_isKern 8 = .ok (.aload_n 0, 1) := by decide +kernel
theorem dX5_isKern_9 : decode cX5_isKern 9 = .ok (.getfield 153, 3) := by decide +kernel
theorem dX5_isKern_12 : decode cX5_isKern 12 = .ok (.putfield 186, 3) := by decide +kernel
theorem dX5_isKern_15 : decode cX5_isKern 15 = .ok (.aload_n 0, 1) := by decide +kernel
theorem dX5_isKern_16 : decode cX5_isKern 16 = .ok (.aload_n 0, 1) := by decide +kernel
theorem dX5_isKern_17 : decode cX5_isKern 17 = .ok (.getfield 153, 3) := by decide +kernel
theorem dX5_isKern_20 : decode cX5_isKern 20 = .ok (.invokevirtual 202, 3) := by decide +kernel
theorem dX5_isKern_23 : decode cX5_isKern 23 = .ok (.ifCond .ne 6, 3) := by decide +kernel
theorem dX5_isKern_26 : decode cX5_isKern 26 = .ok (.bipush (-9), 2) := by decide +kernel
theorem dX5_isKern_28 : decode cX5_isKern 28 = .ok (.ireturn, 1) := by decide +kernel
theorem dX5_isKern_29 : decode cX5_isKern 29 = .ok (.aload_n 0, 1) := by decide +kernel
theorem dX5_isKern_30 : decode cX5_isKern 30 = .ok (.invokevirtual 205, 3) := by decide +kernel
theorem dX5_isKern_33 : decode cX5_isKern 33 = .ok (.bipush (-9), 2) := by decide +kernel
theorem dX5_isKern_35 : decode cX5_isKern 35 = .ok (.if_icmp .ne 7, 3) := by decide +kernel
theorem dX5_isKern_38 : decode cX5_isKern 38 = .ok (.iconst 1, 1) := by decide +kernel
theorem dX5_isKern_39 : decode cX5_isKern 39 = .ok (.goto 4, 3) := by decide +kernel
theorem dX5_isKern_42 : decode cX5_isKern 42 = .ok (.iconst 0, 1) := by decide +kernel
theorem dX5_isKern_43 : decode cX5_isKern 43 = .ok (.ireturn, 1) := by decide +kernel
theorem dX5_kern_0 : decode cX5_kern 0 = .ok (.iload_n 1, 1) := by decide +kernel
theorem dX5_kern_1 : decode cX5_kern 1 = .ok (.iload_n 2, 1) := by decide +kernel
theorem dX5_kern_2 : decode cX5_kern 2 = .ok (.invokestatic 121, 3) := by decide +kernel
theorem dX5_kern_5 : decode cX5_kern 5 = .ok (.ifCond .ne 5, 3) := by decide +kernel
theorem dX5_kern_8 : decode cX5_kern 8 = .ok (.iconst (-1), 1) := by decide +kernel
theorem dX5_kern_9 : decode cX5_kern 9 = .ok (.ireturn, 1) := by decide +kernel
theorem dX5_kern_10 : decode cX5_kern 10 = .ok (.aload_n 0, 1) := by decide +kernel
theorem dX5_kern_11 : decode cX5_kern 11 = .ok (.invokevirtual 211, 3) := by decide +kernel
theorem dX5_kern_14 : decode cX5_kern 14 = .ok (.aload_n 0, 1) := by decide +kernel
theorem dX5_kern_15 : decode cX5_kern 15 = .ok (.iload_n 1, 1) := by decide +kernel
theorem dX5_kern_16 : decode cX5_kern 16 = .ok (.iload_n 2, 1) := by decide +kernel
theorem dX5_kern_17 : decode cX5_kern 17 = .ok (.invokevirtual 258, 3) := by decide +kernel
theorem dX5_kern_20 : decode cX5_kern 20 = .ok (.ireturn, 1) := by decide +kernel
theorem dX5_kerns_0 : decode cX5_kerns 0 = .ok (.iload_n 1, 1) := by decide +kernel
theorem dX5_kerns_1 : decode cX5_kerns 1 = .ok (.iconst 0, 1) := by decide +kernel
theorem dX5_kerns_2 : decode cX5_kerns 2 = .ok (.iconst 1, 1) := by decide +kernel
theorem dX5_kerns_3 : decode cX5_kerns 3 = .ok (.invokestatic 57, 3) := by decide +kernel
theorem dX5_kerns_6 : decode cX5_kerns 6 = .ok (.ifCond .ne 5, 3) := by decide +kernel
theorem dX5_kerns_9 : decode cX5_kerns 9 = .ok (.iconst (-1), 1) := by decide +kernel
theorem dX5_kerns_10 : decode cX5_kerns 10 = .ok (.ireturn, 1) := by decide +kernel
theorem dX5_kerns_11 : decode cX5_kerns 11 = .ok (.aload_n 0, 1) := by decide +kernel
theorem dX5_kerns_12 : decode cX5_kerns 12 = .ok (.invokevirtual 211, 3) := by decide +kernel
theorem dX5_kerns_15 : decode cX5_kerns 15 = .ok (.iconst 0, 1) := by decide +kernel
theorem dX5_kerns_16 : decode cX5_kerns 16 = .ok (.istore_n 2, 1) := by decide +kernel
theorem dX5_kerns_17 : decode cX5_kerns 17 = .ok (.bipush (-9), 2) := by decide +kernel
theorem dX5_kerns_19 : decode cX5_kerns 19 = .ok (.istore_n 3, 1) := by decide +kernel
theorem dX5_kerns_20 : decode cX5_kerns 20 = .ok (.iconst 0, 1) := by decide +kernel
theorem dX5_kerns_21 : decode cX5_kerns 21 = .ok (.istore 4, 2) := by decide +kernel
theorem dX5_kerns_23 : decode cX5_kerns 23 = .ok (.iload 4, 2) := by decide +kernel
theorem dX5_kerns_25 : decode cX5_kerns 25 = .ok (.sipush 361, 3) := by decide +kernel
theorem dX5_kerns_28 : decode cX5_kerns 28 = .ok (.if_icmp .ge 65, 3) := by decide +kernel
theorem dX5_kerns_31 : decode cX5_kerns 31 = .ok (.aload_n 0, 1) := by decide +kernel
theorem dX5_kerns_32 : decode cX5_kerns 32 = .ok (.iload 4, 2) := by decide +kernel
theorem dX5_kerns_34 : decode cX5_kerns 34 = .ok (.bipush 19, 2) := by decide +kernel
theorem dX5_kerns_36 : decode cX5_kerns 36 = .ok (.idiv, 1) := by decide +kernel
theorem dX5_kerns_37 : decode cX5_kerns 37 = .ok (.bipush 9, 2) := by decide +kernel
theorem dX5_kerns_39 : decode cX5_kerns 39 = .ok (.isub, 1) := by decide +kernel
theorem dX5_kerns_40 : decode cX5_kerns 40 = .ok (.iload 4, 2) := by decide +kernel
theorem dX5_kerns_42 : decode cX5_kerns 42 = .ok (.bipush 19, 2) := by decide +kernel
theorem dX5_kerns_44 : decode cX5_kerns 44 = .ok (.irem, 1) := by decide +kernel
theorem dX5_kerns_45 : decode cX5_kerns 45 = .ok (.bipush 9, 2) := by decide +kernel
theorem dX5_kerns_47 : decode cX5_kerns 47 = .ok (.isub, 1) := by decide +kernel
theorem dX5_kerns_48 : decode cX5_kerns 48 = .ok (.invokevirtual 258, 3) := by decide +kernel
theorem dX5_kerns_51 : decode cX5_kerns 51 = .ok (.istore 5, 2) := by decide +kernel
theorem dX5_kerns_53 : decode cX5_kerns 53 = .ok (.iload 5, 2) := by decide +kernel
theorem dX5_kerns_55 : decode cX5_kerns 55 = .ok (.bipush (-9), 2) := by decide +kernel
theorem dX5_kerns_57 : decode cX5_kerns 57 = .ok (.if_icmp .ne 6, 3) := by decide +kernel
theorem dX5_kerns_60 : decode cX5_kerns 60 = .ok (.bipush (-9), 2) := by decide +kernel
theorem dX5_kerns_62 : decode cX5_kerns 62 = .ok (.ireturn, 1) := by decide +kernel
theorem dX5_kerns_63 : decode cX5_kerns 63 = .ok (.iload_n 2, 1) := by decide +kernel
theorem dX5_kerns_64 : decode cX5_kerns 64 = .ok (.iload 5, 2) := by decide +kernel
theorem dX5_kerns_66 : decode cX5_kerns 66 = .ok (.iadd, 1) := by decide +kernel
theorem dX5_kerns_67 : decode cX5_kerns 67 = .ok (.istore_n 2, 1) := by decide +kernel
theorem dX5_kerns_68 : decode cX5_kerns 68 = .ok (.iload 5, 2) := by decide +kernel
theorem dX5_kerns_70 : decode cX5_kerns 70 = .ok (.iconst 1, 1) := by decide +kernel
theorem dX5_kerns_71 : decode cX5_kerns 71 = .ok (.if_icmp .ne 14, 3) := by decide +kernel
theorem dX5_kerns_74 : decode cX5_kerns 74 = .ok (.iload_n 3, 1) := by decide +kernel
theorem dX5_kerns_75 : decode cX5_kerns 75 = .ok (.bipush (-9), 2) := by decide +kernel
theorem dX5_kerns_77 : decode cX5_kerns 77 = .ok (.if_icmp .ne 8, 3) := by decide +kernel
theorem dX5_kerns_80 : decode cX5_kerns 80 = .ok (.iload 4, 2) := by decide +kernel
theorem dX5_kerns_82 : decode cX5_kerns 82 = .ok (.goto 4, 3) := by decide +kernel
theorem dX5_kerns_85 : decode cX5_kerns 85 = .ok (.iload_n 3, 1) := by decide +kernel
theorem dX5_kerns_86 : decode cX5_kerns 86 = .ok (.istore_n 3, 1) := by decide +kernel
theorem dX5_kerns_87 : decode cX5_kerns 87 = .ok (.iinc 4 1, 3) := by decide +kernel
theorem dX5_kerns_90 : decode cX5_kerns 90 = .ok (.goto (-67), 3) := by decide +kernel
theorem dX5_kerns_93 : decode cX5_kerns 93 = .ok (.iload_n 1, 1) := by decide +kernel
theorem dX5_kerns_94 : decode cX5_kerns 94 = .ok (.ifCond .ne 7, 3) := by decide +kernel
theorem dX5_kerns_97 : decode cX5_kerns 97 = .ok (.iload_n 2, 1) := by decide +kernel
theorem dX5_kerns_98 : decode cX5_kerns 98 = .ok (.goto 4, 3) := by decide +kernel
theorem dX5_kerns_101 : decode cX5_kerns 101 = .ok (.iload_n 3, 1) := by decide +kernel
theorem dX5_kerns_102 : decode cX5_kerns 102 = .ok (.ireturn, 1) := by decide +kernel
theorem dX5_laysWithout_0 : decode cX5_laysWithout 0 = .ok (.aload_n 0, 1) := by decide +kernel
theorem dX5_laysWithout_1 : decode cX5_laysWithout 1 = .ok (.invokevirtual 211, 3) := by decide +kernel
theorem dX5_laysWithout_4 : decode cX5_laysWithout 4 = .ok (.aload_n 0, 1) := by decide +kernel
theorem dX5_laysWithout_5 : decode cX5_laysWithout 5 = .ok (.invokevirtual 214, 3) := by decide +kernel
theorem dX5_laysWithout_8 : decode cX5_laysWithout 8 = .ok (.aload_n 0, 1) := by decide +kernel
theorem dX5_laysWithout_9 : decode cX5_laysWithout 9 = .ok (.dup, 1) := by decide +kernel
theorem dX5_laysWithout_10 : decode cX5_laysWithout 10 = .ok (.getfield 153, 3) := by decide +kernel
theorem dX5_laysWithout_13 : decode cX5_laysWithout 13 = .ok (.iconst 1, 1) := by decide +kernel
theorem dX5_laysWithout_14 : decode cX5_laysWithout 14 = .ok (.iload_n 1, 1) := by decide +kernel
theorem dX5_laysWithout_15 : decode cX5_laysWithout 15 = .ok (.ishl, 1) := by decide +kernel
theorem dX5_laysWithout_16 : decode cX5_laysWithout 16 = .ok (.iconst (-1), 1) := by decide +kernel
theorem dX5_laysWithout_17 : decode cX5_laysWithout 17 = .ok (.ixor, 1) := by decide +kernel
theorem dX5_laysWithout_18 : decode cX5_laysWithout 18 = .ok (.iand, 1) := by decide +kernel
theorem dX5_laysWithout_19 : decode cX5_laysWithout 19 = .ok (.putfield 153, 3) := by decide +kernel
theorem dX5_laysWithout_22 : decode cX5_laysWithout 22 = .ok (.aload_n 0, 1) := by decide +kernel
theorem dX5_laysWithout_23 : decode cX5_laysWithout 23 = .ok (.invokevirtual 217, 3) := by decide +kernel
theorem dX5_laysWithout_26 : decode cX5_laysWithout 26 = .ok (.aload_n 0, 1) := by decide +kernel
theorem dX5_laysWithout_27 : decode cX5_laysWithout 27 = .ok (.invokevirtual 248, 3) := by decide +kernel
theorem dX5_laysWithout_30 : decode cX5_laysWithout 30 = .ok (.ireturn, 1) := by decide +kernel
theorem dX5_without_0 : decode cX5_without 0 = .ok (.aload_n 0, 1) := by decide +kernel
theorem dX5_without_1 : decode cX5_without 1 = .ok (.iload_n 1, 1) := by decide +kernel
theorem dX5_without_2 : decode cX5_without 2 = .ok (.invokevirtual 133, 3) := by decide +kernel
theorem dX5_without_5 : decode cX5_without 5 = .ok (.ifCond .eq 12, 3) := by decide +kernel
theorem dX5_without_8 : decode cX5_without 8 = .ok (.iload_n 2, 1) := by decide +kernel
theorem dX5_without_9 : decode cX5_without 9 = .ok (.iconst 0, 1) := by decide +kernel
theorem dX5_without_10 : decode cX5_without 10 = .ok (.iconst 2, 1) := by decide +kernel
theorem dX5_without_11 : decode cX5_without 11 = .ok (.invokestatic 57, 3) := by decide +kernel
theorem dX5_without_14 : decode cX5_without 14 = .ok (.ifCond .ne 7, 3) := by decide +kernel
theorem dX5_without_17 : decode cX5_without 17 = .ok (.ldc2_w 246, 3) := by decide +kernel
theorem dX5_without_20 : decode cX5_without 20 = .ok (.lreturn, 1) := by decide +kernel
theorem dX5_without_21 : decode cX5_without 21 = .ok (.aload_n 0, 1) := by decide +kernel
theorem dX5_without_22 : decode cX5_without 22 = .ok (.iload_n 1, 1) := by decide +kernel
theorem dX5_without_23 : decode cX5_without 23 = .ok (.iconst 4, 1) := by decide +kernel
theorem dX5_without_24 : decode cX5_without 24 = .ok (.invokevirtual 117, 3) := by decide +kernel
theorem dX5_without_27 : decode cX5_without 27 = .ok (.iconst 1, 1) := by decide +kernel
theorem dX5_without_28 : decode cX5_without 28 = .ok (.if_icmp .ne 7, 3) := by decide +kernel
theorem dX5_without_31 : decode cX5_without 31 = .ok (.ldc2_w 261, 3) := by decide +kernel
theorem dX5_without_34 : decode cX5_without 34 = .ok (.lreturn, 1) := by decide +kernel
theorem dX5_without_35 : decode cX5_without 35 = .ok (.aload_n 0, 1) := by decide +kernel
theorem dX5_without_36 : decode cX5_without 36 = .ok (.iload_n 1, 1) := by decide +kernel
theorem dX5_without_37 : decode cX5_without 37 = .ok (.invokevirtual 263, 3) := by decide +kernel
theorem dX5_without_40 : decode cX5_without 40 = .ok (.ifCond .eq 11, 3) := by decide +kernel
theorem dX5_without_43 : decode cX5_without 43 = .ok (.aload_n 0, 1) := by decide +kernel
theorem dX5_without_44 : decode cX5_without 44 = .ok (.iload_n 2, 1) := by decide +kernel
theorem dX5_without_45 : decode cX5_without 45 = .ok (.invokevirtual 251, 3) := by decide +kernel
theorem dX5_without_48 : decode cX5_without 48 = .ok (.goto 6, 3) := by decide +kernel
theorem dX5_without_51 : decode cX5_without 51 = .ok (.ldc2_w 242, 3) := by decide +kernel
theorem dX5_without_54 : decode cX5_without 54 = .ok (.lreturn, 1) := by decide +kernel
theorem dX5_key_0 : decode cX5_key 0 = .ok (.bipush (-9), 2) := by decide +kernel
theorem dX5_key_2 : decode cX5_key 2 = .ok (.istore_n 1, 1) := by decide +kernel
theorem dX5_key_3 : decode cX5_key 3 = .ok (.lconst 0, 1) := by decide +kernel
theorem dX5_key_4 : decode cX5_key 4 = .ok (.lstore_n 2, 1) := by decide +kernel
theorem dX5_key_5 : decode cX5_key 5 = .ok (.lconst 0, 1) := by decide +kernel
theorem dX5_key_6 : decode cX5_key 6 = .ok (.lstore 4, 2) := by decide +kernel
theorem dX5_key_8 : decode cX5_key 8 = .ok (.iconst 0, 1) := by decide +kernel
theorem dX5_key_9 : decode cX5_key 9 = .ok (.istore 6, 2) := by decide +kernel
theorem dX5_key_11 : decode cX5_key 11 = .ok (.iload 6, 2) := by decide +kernel
theorem dX5_key_13 : decode cX5_key 13 = .ok (.aload_n 0, 1) := by decide +kernel
theorem dX5_key_14 : decode cX5_key 14 = .ok (.getfield 7, 3) := by decide +kernel
theorem dX5_key_17 : decode cX5_key 17 = .ok (.iconst 0, 1) := by decide +kernel
theorem dX5_key_18 : decode cX5_key 18 = .ok (.iaload, 1) := by decide +kernel
theorem dX5_key_19 : decode cX5_key 19 = .ok (.if_icmp .ge 68, 3) := by decide +kernel
theorem dX5_key_22 : decode cX5_key 22 = .ok (.aload_n 0, 1) := by decide +kernel
theorem dX5_key_23 : decode cX5_key 23 = .ok (.iload 6, 2) := by decide +kernel
theorem dX5_key_25 : decode cX5_key 25 = .ok (.iconst 4, 1) := by decide +kernel
theorem dX5_key_26 : decode cX5_key 26 = .ok (.invokevirtual 117, 3) := by decide +kernel
theorem dX5_key_29 : decode cX5_key 29 = .ok (.ifCond .ne 52, 3) := by decide +kernel
theorem dX5_key_32 : decode cX5_key 32 = .ok (.aload_n 0, 1) := by decide +kernel
theorem dX5_key_33 : decode cX5_key 33 = .ok (.iload 6, 2) := by decide +kernel
theorem dX5_key_35 : decode cX5_key 35 = .ok (.invokevirtual 263, 3) := by decide +kernel
theorem dX5_key_38 : decode cX5_key 38 = .ok (.ifCond .ne 6, 3) := by decide +kernel
theorem dX5_key_41 : decode cX5_key 41 = .ok (.iload 6, 2) := by decide +kernel
theorem dX5_key_43 : decode cX5_key 43 = .ok (.ireturn, 1) := by decide +kernel
theorem dX5_key_44 : decode cX5_key 44 = .ok (.iload_n 1, 1) := by decide +kernel
theorem dX5_key_45 : decode cX5_key 45 = .ok (.bipush (-9), 2) := by decide +kernel
theorem dX5_key_47 : decode cX5_key 47 = .ok (.if_icmp .eq 20, 3) := by decide +kernel
theorem dX5_key_50 : decode cX5_key 50 = .ok (.aload_n 0, 1) := by decide +kernel
theorem dX5_key_51 : decode cX5_key 51 = .ok (.getfield 227, 3) := by decide +kernel
theorem dX5_key_54 : decode cX5_key 54 = .ok (.aload_n 0, 1) := by decide +kernel
theorem dX5_key_55 : decode cX5_key 55 = .ok (.getfield 230, 3) := by decide +kernel
theorem dX5_key_58 : decode cX5_key 58 = .ok (.lload_n 2, 1) := by decide +kernel
theorem dX5_key_59 : decode cX5_key 59 = .ok (.lload 4, 2) := by decide +kernel
theorem dX5_key_61 : decode cX5_key 61 = .ok (.invokestatic 266, 3) := by decide +kernel
theorem dX5_key_64 : decode cX5_key 64 = .ok (.ifCond .le 17, 3) := by decide +kernel
theorem dX5_key_67 : decode cX5_key 67 = .ok (.iload 6, 2) := by decide +kernel
theorem dX5_key_69 : decode cX5_key 69 = .ok (.istore_n 1, 1) := by decide +kernel
theorem dX5_key_70 : decode cX5_key 70 = .ok (.aload_n 0, 1) := by decide +kernel
theorem dX5_key_71 : decode cX5_key 71 = .ok (.getfield 227, 3) := by decide +kernel
theorem dX5_key_74 : decode cX5_key 74 = .ok (.lstore_n 2, 1) := by decide +kernel
theorem dX5_key_75 : decode cX5_key 75 = .ok (.aload_n 0, 1) := by decide +kernel
theorem dX5_key_76 : decode cX5_key 76 = .ok (.getfield 230, 3) := by decide +kernel
theorem dX5_key_79 : decode cX5_key 79 = .ok (.lstore 4, 2) := by decide +kernel
theorem dX5_key_81 : decode cX5_key 81 = .ok (.iinc 6 1, 3) := by decide +kernel
theorem dX5_key_84 : decode cX5_key 84 = .ok (.goto (-73), 3) := by decide +kernel
theorem dX5_key_87 : decode cX5_key 87 = .ok (.iload_n 1, 1) := by decide +kernel
theorem dX5_key_88 : decode cX5_key 88 = .ok (.ireturn, 1) := by decide +kernel
theorem dX5_extra_0 : decode cX5_extra 0 = .ok (.iload_n 1, 1) := by decide +kernel
theorem dX5_extra_1 : decode cX5_extra 1 = .ok (.iload_n 2, 1) := by decide +kernel
theorem dX5_extra_2 : decode cX5_extra 2 = .ok (.invokestatic 124, 3) := by decide +kernel
theorem dX5_extra_5 : decode cX5_extra 5 = .ok (.ifCond .ne 5, 3) := by decide +kernel
theorem dX5_extra_8 : decode cX5_extra 8 = .ok (.iconst (-1), 1) := by decide +kernel
theorem dX5_extra_9 : decode cX5_extra 9 = .ok (.ireturn, 1) := by decide +kernel
theorem dX5_extra_10 : decode cX5_extra 10 = .ok (.bipush (-9), 2) := by decide +kernel
theorem dX5_extra_12 : decode cX5_extra 12 = .ok (.istore_n 3, 1) := by decide +kernel
theorem dX5_extra_13 : decode cX5_extra 13 = .ok (.lconst 0, 1) := by decide +kernel
theorem dX5_extra_14 : decode cX5_extra 14 = .ok (.lstore 4, 2) := by decide +kernel
theorem dX5_extra_16 : decode cX5_extra 16 = .ok (.lconst 0, 1) := by decide +kernel
theorem dX5_extra_17 : decode cX5_extra 17 = .ok (.lstore 6, 2) := by decide +kernel
theorem dX5_extra_19 : decode cX5_extra 19 = .ok (.iconst 0, 1) := by decide +kernel
theorem dX5_extra_20 : decode cX5_extra 20 = .ok (.istore 8, 2) := by decide +kernel
theorem dX5_extra_22 : decode cX5_extra 22 = .ok (.iload 8, 2) := by decide +kernel
theorem dX5_extra_24 : decode cX5_extra 24 = .ok (.sipush 361, 3) := by decide +kernel
theorem dX5_extra_27 : decode cX5_extra 27 = .ok (.if_icmp .ge 165, 3) := by decide +kernel
theorem dX5_extra_30 : decode cX5_extra 30 = .ok (.iload 8, 2) := by decide +kernel
theorem dX5_extra_32 : decode cX5_extra 32 = .ok (.bipush 19, 2) := by decide +kernel
theorem dX5_extra_34 : decode cX5_extra 34 = .ok (.idiv, 1) := by decide +kernel
theorem dX5_extra_35 : decode cX5_extra 35 = .ok (.bipush 9, 2) := by decide +kernel
theorem dX5_extra_37 : decode cX5_extra 37 = .ok (.isub, 1) := by decide +kernel
theorem dX5_extra_38 : decode cX5_extra 38 = .ok (.istore 9, 2) := by decide +kernel
theorem dX5_extra_40 : decode cX5_extra 40 = .ok (.iload 8, 2) := by decide +kernel
theorem dX5_extra_42 : decode cX5_extra 42 = .ok (.bipush 19, 2) := by decide +kernel
theorem dX5_extra_44 : decode cX5_extra 44 = .ok (.irem, 1) := by decide +kernel
theorem dX5_extra_45 : decode cX5_extra 45 = .ok (.bipush 9, 2) := by decide +kernel
theorem dX5_extra_47 : decode cX5_extra 47 = .ok (.isub, 1) := by decide +kernel
theorem dX5_extra_48 : decode cX5_extra 48 = .ok (.istore 10, 2) := by decide +kernel
theorem dX5_extra_50 : decode cX5_extra 50 = .ok (.aload_n 0, 1) := by decide +kernel
theorem dX5_extra_51 : decode cX5_extra 51 = .ok (.iload 9, 2) := by decide +kernel
theorem dX5_extra_53 : decode cX5_extra 53 = .ok (.iload 10, 2) := by decide +kernel
theorem dX5_extra_55 : decode cX5_extra 55 = .ok (.invokevirtual 127, 3) := by decide +kernel
theorem dX5_extra_58 : decode cX5_extra 58 = .ok (.ifCond .ne 128, 3) := by decide +kernel
theorem dX5_extra_61 : decode cX5_extra 61 = .ok (.aload_n 0, 1) := by decide +kernel
theorem dX5_extra_62 : decode cX5_extra 62 = .ok (.invokevirtual 211, 3) := by decide +kernel
theorem dX5_extra_65 : decode cX5_extra 65 = .ok (.aload_n 0, 1) := by decide +kernel
theorem dX5_extra_66 : decode cX5_extra 66 = .ok (.invokevirtual 214, 3) := by decide +kernel
theorem dX5_extra_69 : decode cX5_extra 69 = .ok (.aload_n 0, 1) := by decide +kernel
theorem dX5_extra_70 : decode cX5_extra 70 = .ok (.getfield 36, 3) := by decide +kernel
theorem dX5_extra_73 : decode cX5_extra 73 = .ok (.aload_n 0, 1) := by decide +kernel
theorem dX5_extra_74 : decode cX5_extra 74 = .ok (.getfield 150, 3) := by decide +kernel
theorem dX5_extra_77 : decode cX5_extra 77 = .ok (.iload 9, 2) := by decide +kernel
theorem dX5_extra_79 : decode cX5_extra 79 = .ok (.iastore, 1) := by decide +kernel
theorem dX5_extra_80 : decode cX5_extra 80 = .ok (.aload_n 0, 1) := by decide +kernel
theorem dX5_extra_81 : decode cX5_extra 81 = .ok (.getfield 39, 3) := by decide +kernel
theorem dX5_extra_84 : decode cX5_extra 84 = .ok (.aload_n 0, 1) := by decide +kernel
theorem dX5_extra_85 : decode cX5_extra 85 = .ok (.getfield 150, 3) := by decide +kernel
theorem dX5_extra_88 : decode cX5_extra 88 = .ok (.iload 10, 2) := by decide +kernel
theorem dX5_extra_90 : decode cX5_extra 90 = .ok (.iastore, 1) := by decide +kernel
theorem dX5_extra_91 : decode cX5_extra 91 = .ok (.aload_n 0, 1) := by decide +kernel
theorem dX5_extra_92 : decode cX5_extra 92 = .ok (.getfield 42, 3) := by decide +kernel
theorem dX5_extra_95 : decode cX5_extra 95 = .ok (.aload_n 0, 1) := by decide +kernel
theorem dX5_extra_96 : decode cX5_extra 96 = .ok (.getfield 150, 3) := by decide +kernel
theorem dX5_extra_99 : decode cX5_extra 99 = .ok (.iload_n 1, 1) := by decide +kernel
theorem dX5_extra_100 : decode cX5_extra 100 = .ok (.iastore, 1) := by decide +kernel
theorem dX5_extra_101 : decode cX5_extra 101 = .ok (.aload_n 0, 1) := by decide +kernel
theorem dX5_extra_102 : decode cX5_extra 102 = .ok (.getfield 45, 3) := by decide +kernel
theorem dX5_extra_105 : decode cX5_extra 105 = .ok (.aload_n 0, 1) := by decide +kernel
theorem dX5_extra_106 : decode cX5_extra 106 = .ok (.getfield 150, 3) := by decide +kernel
theorem dX5_extra_109 : decode cX5_extra 109 = .ok (.iload_n 2, 1) := by decide +kernel
theorem dX5_extra_110 : decode cX5_extra 110 = .ok (.iastore, 1) := by decide +kernel
theorem dX5_extra_111 : decode cX5_extra 111 = .ok (.aload_n 0, 1) := by decide +kernel
theorem dX5_extra_112 : decode cX5_extra 112 = .ok (.dup, 1) := by decide +kernel
theorem dX5_extra_113 : decode cX5_extra 113 = .ok (.getfield 153, 3) := by decide +kernel
theorem dX5_extra_116 : decode cX5_extra 116 = .ok (.iconst 1, 1) := by decide +kernel
theorem dX5_extra_117 : decode cX5_extra 117 = .ok (.aload_n 0, 1) := by decide +kernel
theorem dX5_extra_118 : decode cX5_extra 118 = .ok (.getfield 150, 3) := by decide +kernel
theorem dX5_extra_121 : decode cX5_extra 121 = .ok (.ishl, 1) := by decide +kernel
theorem dX5_extra_122 : decode cX5_extra 122 = .ok (.ior, 1) := by decide +kernel
theorem dX5_extra_123 : decode cX5_extra 123 = .ok (.putfield 153, 3) := by decide +kernel
theorem dX5_extra_126 : decode cX5_extra 126 = .ok (.aload_n 0, 1) := by decide +kernel
theorem dX5_extra_127 : decode cX5_extra 127 = .ok (.dup, 1) := by decide +kernel
theorem dX5_extra_128 : decode cX5_extra 128 = .ok (.getfield 150, 3) := by decide +kernel
theorem dX5_extra_131 : decode cX5_extra 131 = .ok (.iconst 1, 1) := by decide +kernel
theorem dX5_extra_132 : decode cX5_extra 132 = .ok (.iadd, 1) := by decide +kernel
theorem dX5_extra_133 : decode cX5_extra 133 = .ok (.putfield 150, 3) := by decide +kernel
theorem dX5_extra_136 : decode cX5_extra 136 = .ok (.aload_n 0, 1) := by decide +kernel
theorem dX5_extra_137 : decode cX5_extra 137 = .ok (.invokevirtual 217, 3) := by decide +kernel
theorem dX5_extra_140 : decode cX5_extra 140 = .ok (.aload_n 0, 1) := by decide +kernel
theorem dX5_extra_141 : decode cX5_extra 141 = .ok (.invokevirtual 248, 3) := by decide +kernel
theorem dX5_extra_144 : decode cX5_extra 144 = .ok (.ifCond .eq 42, 3) := by decide +kernel
theorem dX5_extra_147 : decode cX5_extra 147 = .ok (.iload_n 3, 1) := by decide +kernel
theorem dX5_extra_148 : decode cX5_extra 148 = .ok (.bipush (-9), 2) := by decide +kernel
theorem dX5_extra_150 : decode cX5_extra 150 = .ok (.if_icmp .eq 21, 3) := by decide +kernel
theorem dX5_extra_153 : decode cX5_extra 153 = .ok (.aload_n 0, 1) := by decide +kernel
theorem dX5_extra_154 : decode cX5_extra 154 = .ok (.getfield 227, 3) := by decide +kernel
theorem dX5_extra_157 : decode cX5_extra 157 = .ok (.aload_n 0, 1) := by decide +kernel
theorem dX5_extra_158 : decode cX5_extra 158 = .ok (.getfield 230, 3) := by decide +kernel
theorem dX5_extra_161 : decode cX5_extra 161 = .ok (.lload 4, 2) := by decide +kernel
theorem dX5_extra_163 : decode cX5_extra 163 = .ok (.lload 6, 2) := by decide +kernel
theorem dX5_extra_165 : decode cX5_extra 165 = .ok (.invokestatic 266, 3) := by decide +kernel
theorem dX5_extra_168 : decode cX5_extra 168 = .ok (.ifCond .ge 18, 3) := by decide +kernel
theorem dX5_extra_171 : decode cX5_extra 171 = .ok (.iload 8, 2) := by decide +kernel
theorem dX5_extra_173 : decode cX5_extra 173 = .ok (.istore_n 3, 1) := by decide +kernel
theorem dX5_extra_174 : decode cX5_extra 174 = .ok (.aload_n 0, 1) := by decide +kernel
theorem dX5_extra_175 : decode cX5_extra 175 = .ok (.getfield 227, 3) := by decide +kernel
theorem dX5_extra_178 : decode cX5_extra 178 = .ok (.lstore 4, 2) := by decide +kernel
theorem dX5_extra_180 : decode cX5_extra 180 = .ok (.aload_n 0, 1) := by decide +kernel
theorem dX5_extra_181 : decode cX5_extra 181 = .ok (.getfield 230, 3) := by decide +kernel
theorem dX5_extra_184 : decode cX5_extra 184 = .ok (.lstore 6, 2) := by decide +kernel
theorem dX5_extra_186 : decode cX5_extra 186 = .ok (.iinc 8 1, 3) := by decide +kernel
theorem dX5_extra_189 : decode cX5_extra 189 = .ok (.goto (-167), 3) := by decide +kernel
theorem dX5_extra_192 : decode cX5_extra 192 = .ok (.iload_n 3, 1) := by decide +kernel
theorem dX5_extra_193 : decode cX5_extra 193 = .ok (.ireturn, 1) := by decide +kernel
theorem dX5_odds_0 : decode cX5_odds 0 = .ok (.iload_n 1, 1) := by decide +kernel
theorem dX5_odds_1 : decode cX5_odds 1 = .ok (.iconst 0, 1) := by decide +kernel
theorem dX5_odds_2 : decode cX5_odds 2 = .ok (.bipush 10, 2) := by decide +kernel
theorem dX5_odds_4 : decode cX5_odds 4 = .ok (.invokestatic 57, 3) := by decide +kernel
theorem dX5_odds_7 : decode cX5_odds 7 = .ok (.ifCond .eq 12, 3) := by decide +kernel
theorem dX5_odds_10 : decode cX5_odds 10 = .ok (.iload_n 2, 1) := by decide +kernel
theorem dX5_odds_11 : decode cX5_odds 11 = .ok (.iconst 0, 1) := by decide +kernel
theorem dX5_odds_12 : decode cX5_odds 12 = .ok (.iconst 1, 1) := by decide +kernel
theorem dX5_odds_13 : decode cX5_odds 13 = .ok (.invokestatic 57, 3) := by decide +kernel
theorem dX5_odds_16 : decode cX5_odds 16 = .ok (.ifCond .ne 5, 3) := by decide +kernel
theorem dX5_odds_19 : decode cX5_odds 19 = .ok (.iconst (-1), 1) := by decide +kernel
theorem dX5_odds_20 : decode cX5_odds 20 = .ok (.ireturn, 1) := by decide +kernel
theorem dX5_odds_21 : decode cX5_odds 21 = .ok (.aload_n 0, 1) := by decide +kernel
theorem dX5_odds_22 : decode cX5_odds 22 = .ok (.invokevirtual 211, 3) := by decide +kernel
theorem dX5_odds_25 : decode cX5_odds 25 = .ok (.aload_n 0, 1) := by decide +kernel
theorem dX5_odds_26 : decode cX5_odds 26 = .ok (.invokevirtual 214, 3) := by decide +kernel
theorem dX5_odds_29 : decode cX5_odds 29 = .ok (.aload_n 0, 1) := by decide +kernel
theorem dX5_odds_30 : decode cX5_odds 30 = .ok (.getfield 153, 3) := by decide +kernel
theorem dX5_odds_33 : decode cX5_odds 33 = .ok (.istore_n 3, 1) := by decide +kernel
theorem dX5_odds_34 : decode cX5_odds 34 = .ok (.lconst 0, 1) := by decide +kernel
theorem dX5_odds_35 : decode cX5_odds 35 = .ok (.lstore 4, 2) := by decide +kernel
theorem dX5_odds_37 : decode cX5_odds 37 = .ok (.lconst 1, 1) := by decide +kernel
theorem dX5_odds_38 : decode cX5_odds 38 = .ok (.lstore 6, 2) := by decide +kernel
theorem dX5_odds_40 : decode cX5_odds 40 = .ok (.iconst 0, 1) := by decide +kernel
theorem dX5_odds_41 : decode cX5_odds 41 = .ok (.istore 8, 2) := by decide +kernel
theorem dX5_odds_43 : decode cX5_odds 43 = .ok (.iload 8, 2) := by decide +kernel
theorem dX5_odds_45 : decode cX5_odds 45 = .ok (.aload_n 0, 1) := by decide +kernel
theorem dX5_odds_46 : decode cX5_odds 46 = .ok (.getfield 150, 3) := by decide +kernel
theorem dX5_odds_49 : decode cX5_odds 49 = .ok (.if_icmp .ge 31, 3) := by decide +kernel
theorem dX5_odds_52 : decode cX5_odds 52 = .ok (.lload 6, 2) := by decide +kernel
theorem dX5_odds_54 : decode cX5_odds 54 = .ok (.iload_n 3, 1) := by decide +kernel
theorem dX5_odds_55 : decode cX5_odds 55 = .ok (.iload 8, 2) := by decide +kernel
theorem dX5_odds_57 : decode cX5_odds 57 = .ok (.ishr, 1) := by decide +kernel
theorem dX5_odds_58 : decode cX5_odds 58 = .ok (.iconst 1, 1) := by decide +kernel
theorem dX5_odds_59 : decode cX5_odds 59 = .ok (.iand, 1) := by decide +kernel
theorem dX5_odds_60 : decode cX5_odds 60 = .ok (.iconst 1, 1) := by decide +kernel
theorem dX5_odds_61 : decode cX5_odds 61 = .ok (.if_icmp .ne 9, 3) := by decide +kernel
theorem dX5_odds_64 : decode cX5_odds 64 = .ok (.ldc2_w 270, 3) := by decide +kernel
theorem dX5_odds_67 : decode cX5_odds 67 = .ok (.goto 4, 3) := by decide +kernel
theorem dX5_odds_70 : decode cX5_odds 70 = .ok (.lconst 1, 1) := by decide +kernel
theorem dX5_odds_71 : decode cX5_odds 71 = .ok (.lmul, 1) := by decide +kernel
theorem dX5_odds_72 : decode cX5_odds 72 = .ok (.lstore 6, 2) := by decide +kernel
theorem dX5_odds_74 : decode cX5_odds 74 = .ok (.iinc 8 1, 3) := by decide +kernel
theorem dX5_odds_77 : decode cX5_odds 77 = .ok (.goto (-34), 3) := by decide +kernel
theorem dX5_odds_80 : decode cX5_odds 80 = .ok (.iconst 0, 1) := by decide +kernel
theorem dX5_odds_81 : decode cX5_odds 81 = .ok (.istore 8, 2) := by decide +kernel
theorem dX5_odds_83 : decode cX5_odds 83 = .ok (.iload 8, 2) := by decide +kernel
theorem dX5_odds_85 : decode cX5_odds 85 = .ok (.iconst 1, 1) := by decide +kernel
theorem dX5_odds_86 : decode cX5_odds 86 = .ok (.aload_n 0, 1) := by decide +kernel
theorem dX5_odds_87 : decode cX5_odds 87 = .ok (.getfield 150, 3) := by decide +kernel
theorem dX5_odds_90 : decode cX5_odds 90 = .ok (.ishl, 1) := by decide +kernel
theorem dX5_odds_91 : decode cX5_odds 91 = .ok (.if_icmp .ge 118, 3) := by decide +kernel
theorem dX5_odds_94 : decode cX5_odds 94 = .ok (.iload 8, 2) := by decide +kernel
theorem dX5_odds_96 : decode cX5_odds 96 = .ok (.iload_n 3, 1) := by decide +kernel
theorem dX5_odds_97 : decode cX5_odds 97 = .ok (.iconst (-1), 1) := by decide +kernel
theorem dX5_odds_98 : decode cX5_odds 98 = .ok (.ixor, 1) := by decide +kernel
theorem dX5_odds_99 : decode cX5_odds 99 = .ok (.iand, 1) := by decide +kernel
theorem dX5_odds_100 : decode cX5_odds 100 = .ok (.ifCond .ne 103, 3) := by decide +kernel
theorem dX5_odds_103 : decode cX5_odds 103 = .ok (.lconst 1, 1) := by decide +kernel
theorem dX5_odds_104 : decode cX5_odds 104 = .ok (.lstore 9, 2) := by decide +kernel
theorem dX5_odds_106 : decode cX5_odds 106 = .ok (.iconst 0, 1) := by decide +kernel
theorem dX5_odds_107 : decode cX5_odds 107 = .ok (.istore 11, 2) := by decide +kernel
theorem dX5_odds_109 : decode cX5_odds 109 = .ok (.iload 11, 2) := by decide +kernel
theorem dX5_odds_111 : decode cX5_odds 111 = .ok (.aload_n 0, 1) := by decide +kernel
theorem dX5_odds_112 : decode cX5_odds 112 = .ok (.getfield 150, 3) := by decide +kernel
theorem dX5_odds_115 : decode cX5_odds 115 = .ok (.if_icmp .ge 48, 3) := by decide +kernel
theorem dX5_odds_118 : decode cX5_odds 118 = .ok (.lload 9, 2) := by decide +kernel
theorem dX5_odds_120 : decode cX5_odds 120 = .ok (.iload_n 3, 1) := by decide +kernel
theorem dX5_odds_121 : decode cX5_odds 121 = .ok (.iload 11, 2) := by decide +kernel
theorem dX5_odds_123 : decode cX5_odds 123 = .ok (.ishr, 1) := by decide +kernel
theorem dX5_odds_124 : decode cX5_odds 124 = .ok (.iconst 1, 1) := by decide +kernel
theorem dX5_odds_125 : decode cX5_odds 125 = .ok (.iand, 1) := by decide +kernel
theorem dX5_odds_126 : decode cX5_odds 126 = .ok (.ifCond .ne 7, 3) := by decide +kernel
theorem dX5_odds_129 : decode cX5_odds 129 = .ok (.lconst 1, 1) := by decide +kernel
theorem dX5_odds_130 : decode cX5_odds 130 = .ok (.goto 24, 3) := by decide +kernel
theorem dX5_odds_133 : decode cX5_odds 133 = .ok (.iload 8, 2) := by decide +kernel
theorem dX5_odds_135 : decode cX5_odds 135 = .ok (.iload 11, 2) := by decide +kernel
theorem dX5_odds_137 : decode cX5_odds 137 = .ok (.ishr, 1) := by decide +kernel
theorem dX5_odds_138 : decode cX5_odds 138 = .ok (.iconst 1, 1) := by decide +kernel
theorem dX5_odds_139 : decode cX5_odds 139 = .ok (.iand, 1) := by decide +kernel
theorem dX5_odds_140 : decode cX5_odds 140 = .ok (.iconst 1, 1) := by decide +kernel
theorem dX5_odds_141 : decode cX5_odds 141 = .ok (.if_icmp .ne 11, 3) := by decide +kernel
theorem dX5_odds_144 : decode cX5_odds 144 = .ok (.bipush 10, 2) := by decide +kernel
theorem dX5_odds_146 : decode cX5_odds 146 = .ok (.iload_n 1, 1) := by decide +kernel
theorem dX5_odds_147 : decode cX5_odds 147 = .ok (.isub, 1) := by decide +kernel
theorem dX5_odds_148 : decode cX5_odds 148 = .ok (.i2l, 1) := by decide +kernel
theorem dX5_odds_149 : decode cX5_odds 149 = .ok (.goto 5, 3) := by decide +kernel
theorem dX5_odds_152 : decode cX5_odds 152 = .ok (.iload_n 1, 1) := by decide +kernel
theorem dX5_odds_153 : decode cX5_odds 153 = .ok (.i2l, 1) := by decide +kernel
theorem dX5_odds_154 : decode cX5_odds 154 = .ok (.lmul, 1) := by decide +kernel
theorem dX5_odds_155 : decode cX5_odds 155 = .ok (.lstore 9, 2) := by decide +kernel
theorem dX5_odds_157 : decode cX5_odds 157 = .ok (.iinc 11 1, 3) := by decide +kernel
theorem dX5_odds_160 : decode cX5_odds 160 = .ok (.goto (-51), 3) := by decide +kernel
theorem dX5_odds_163 : decode cX5_odds 163 = .ok (.aload_n 0, 1) := by decide +kernel
theorem dX5_odds_164 : decode cX5_odds 164 = .ok (.iload 8, 2) := by decide +kernel
theorem dX5_odds_166 : decode cX5_odds 166 = .ok (.putfield 153, 3) := by decide +kernel
theorem dX5_odds_169 : decode cX5_odds 169 = .ok (.aload_n 0, 1) := by decide +kernel
theorem dX5_odds_170 : decode cX5_odds 170 = .ok (.invokevirtual 217, 3) := by decide +kernel
theorem dX5_odds_173 : decode cX5_odds 173 = .ok (.lload 4, 2) := by decide +kernel
theorem dX5_odds_175 : decode cX5_odds 175 = .ok (.aload_n 0, 1) := by decide +kernel
theorem dX5_odds_176 : decode cX5_odds 176 = .ok (.invokevirtual 248, 3) := by decide +kernel
theorem dX5_odds_179 : decode cX5_odds 179 = .ok (.ifCond .eq 20, 3) := by decide +kernel
theorem dX5_odds_182 : decode cX5_odds 182 = .ok (.aload_n 0, 1) := by decide +kernel
theorem dX5_odds_183 : decode cX5_odds 183 = .ok (.getfield 227, 3) := by decide +kernel
theorem dX5_odds_186 : decode cX5_odds 186 = .ok (.aload_n 0, 1) := by decide +kernel
theorem dX5_odds_187 : decode cX5_odds 187 = .ok (.getfield 230, 3) := by decide +kernel
theorem dX5_odds_190 : decode cX5_odds 190 = .ok (.lcmp, 1) := by decide +kernel
theorem dX5_odds_191 : decode cX5_odds 191 = .ok (.ifCond .gt 8, 3) := by decide +kernel
theorem dX5_odds_194 : decode cX5_odds 194 = .ok (.lload 9, 2) := by decide +kernel
theorem dX5_odds_196 : decode cX5_odds 196 = .ok (.goto 4, 3) := by decide +kernel
theorem dX5_odds_199 : decode cX5_odds 199 = .ok (.lconst 0, 1) := by decide +kernel
theorem dX5_odds_200 : decode cX5_odds 200 = .ok (.ladd, 1) := by decide +kernel
theorem dX5_odds_201 : decode cX5_odds 201 = .ok (.lstore 4, 2) := by decide +kernel
theorem dX5_odds_203 : decode cX5_odds 203 = .ok (.iinc 8 1, 3) := by decide +kernel
theorem dX5_odds_206 : decode cX5_odds 206 = .ok (.goto (-123), 3) := by decide +kernel
theorem dX5_odds_209 : decode cX5_odds 209 = .ok (.lload 4, 2) := by decide +kernel
theorem dX5_odds_211 : decode cX5_odds 211 = .ok (.lload 6, 2) := by decide +kernel
theorem dX5_odds_213 : decode cX5_odds 213 = .ok (.iload_n 2, 1) := by decide +kernel
theorem dX5_odds_214 : decode cX5_odds 214 = .ok (.invokestatic 233, 3) := by decide +kernel
theorem dX5_odds_217 : decode cX5_odds 217 = .ok (.l2i, 1) := by decide +kernel
theorem dX5_odds_218 : decode cX5_odds 218 = .ok (.ireturn, 1) := by decide +kernel
theorem dX5_hunts_0 : decode cX5_hunts 0 = .ok (.iload_n 1, 1) := by decide +kernel
theorem dX5_hunts_1 : decode cX5_hunts 1 = .ok (.iconst 1, 1) := by decide +kernel
theorem dX5_hunts_2 : decode cX5_hunts 2 = .ok (.bipush 99, 2) := by decide +kernel
theorem dX5_hunts_4 : decode cX5_hunts 4 = .ok (.invokestatic 57, 3) := by decide +kernel
theorem dX5_hunts_7 : decode cX5_hunts 7 = .ok (.ifCond .ne 5, 3) := by decide +kernel
theorem dX5_hunts_10 : decode cX5_hunts 10 = .ok (.iconst (-1), 1) := by decide +kernel
theorem dX5_hunts_11 : decode cX5_hunts 11 = .ok (.ireturn, 1) := by decide +kernel
theorem dX5_hunts_12 : decode cX5_hunts 12 = .ok (.aload_n 0, 1) := by decide +kernel
theorem dX5_hunts_13 : decode cX5_hunts 13 = .ok (.getfield 114, 3) := by decide +kernel
theorem dX5_hunts_16 : decode cX5_hunts 16 = .ok (.istore_n 2, 1) := by decide +kernel
theorem dX5_hunts_17 : decode cX5_hunts 17 = .ok (.aload_n 0, 1) := by decide +kernel
theorem dX5_hunts_18 : decode cX5_hunts 18 = .ok (.iload_n 1, 1) := by decide +kernel
theorem dX5_hunts_19 : decode cX5_hunts 19 = .ok (.putfield 23, 3) := by decide +kernel
theorem dX5_hunts_22 : decode cX5_hunts 22 = .ok (.aload_n 0, 1) := by decide +kernel
theorem dX5_hunts_23 : decode cX5_hunts 23 = .ok (.iconst 0, 1) := by decide +kernel
theorem dX5_hunts_24 : decode cX5_hunts 24 = .ok (.putfield 114, 3) := by decide +kernel
theorem dX5_hunts_27 : decode cX5_hunts 27 = .ok (.iload_n 2, 1) := by decide +kernel
theorem dX5_hunts_28 : decode cX5_hunts 28 = .ok (.ireturn, 1) := by decide +kernel
theorem dX5_sees_0 : decode cX5_sees 0 = .ok (.aload_n 0, 1) := by decide +kernel
theorem dX5_sees_1 : decode cX5_sees 1 = .ok (.iload_n 1, 1) := by decide +kernel
theorem dX5_sees_2 : decode cX5_sees 2 = .ok (.invokevirtual 133, 3) := by decide +kernel
theorem dX5_sees_5 : decode cX5_sees 5 = .ok (.ifCond .eq 14, 3) := by decide +kernel
theorem dX5_sees_8 : decode cX5_sees 8 = .ok (.iload_n 2, 1) := by decide +kernel
theorem dX5_sees_9 : decode cX5_sees 9 = .ok (.iconst 0, 1) := by decide +kernel
theorem dX5_sees_10 : decode cX5_sees 10 = .ok (.sipush 999, 3) := by decide +kernel
theorem dX5_sees_13 : decode cX5_sees 13 = .ok (.invokestatic 57, 3) := by decide +kernel
theorem dX5_sees_16 : decode cX5_sees 16 = .ok (.ifCond .ne 5, 3) := by decide +kernel
theorem dX5_sees_19 : decode cX5_sees 19 = .ok (.iconst (-1), 1) := by decide +kernel
theorem dX5_sees_20 : decode cX5_sees 20 = .ok (.ireturn, 1) := by decide +kernel
theorem dX5_sees_21 : decode cX5_sees 21 = .ok (.aload_n 0, 1) := by decide +kernel
theorem dX5_sees_22 : decode cX5_sees 22 = .ok (.getfield 114, 3) := by decide +kernel
theorem dX5_sees_25 : decode cX5_sees 25 = .ok (.bipush 6, 2) := by decide +kernel
theorem dX5_sees_27 : decode cX5_sees 27 = .ok (.if_icmp .ne 6, 3) := by decide +kernel
theorem dX5_sees_30 : decode cX5_sees 30 = .ok (.bipush (-3), 2) := by decide +kernel
theorem dX5_sees_32 : decode cX5_sees 32 = .ok (.ireturn, 1) := by decide +kernel
theorem dX5_sees_33 : decode cX5_sees 33 = .ok (.aload_n 0, 1) := by decide +kernel
theorem dX5_sees_34 : decode cX5_sees 34 = .ok (.getfield 27, 3) := by decide +kernel
theorem dX5_sees_37 : decode cX5_sees 37 = .ok (.iconst 2, 1) := by decide +kernel
theorem dX5_sees_38 : decode cX5_sees 38 = .ok (.aload_n 0, 1) := by decide +kernel
theorem dX5_sees_39 : decode cX5_sees 39 = .ok (.getfield 114, 3) := by decide +kernel
theorem dX5_sees_42 : decode cX5_sees 42 = .ok (.imul, 1) := by decide +kernel
theorem dX5_sees_43 : decode cX5_sees 43 = .ok (.iload_n 1, 1) := by decide +kernel
theorem dX5_sees_44 : decode cX5_sees 44 = .ok (.iastore, 1) := by decide +kernel
theorem dX5_sees_45 : decode cX5_sees 45 = .ok (.aload_n 0, 1) := by decide +kernel
theorem dX5_sees_46 : decode cX5_sees 46 = .ok (.getfield 27, 3) := by decide +kernel
theorem dX5_sees_49 : decode cX5_sees 49 = .ok (.iconst 2, 1) := by decide +kernel
theorem dX5_sees_50 : decode cX5_sees 50 = .ok (.aload_n 0, 1) := by decide +kernel
theorem dX5_sees_51 : decode cX5_sees 51 = .ok (.getfield 114, 3) := by decide +kernel
theorem dX5_sees_54 : decode cX5_sees 54 = .ok (.imul, 1) := by decide +kernel
theorem dX5_sees_55 : decode cX5_sees 55 = .ok (.iconst 1, 1) := by decide +kernel
theorem dX5_sees_56 : decode cX5_sees 56 = .ok (.iadd, 1) := by decide +kernel
theorem dX5_sees_57 : decode cX5_sees 57 = .ok (.iload_n 2, 1) := by decide +kernel
theorem dX5_sees_58 : decode cX5_sees 58 = .ok (.iastore, 1) := by decide +kernel
theorem dX5_sees_59 : decode cX5_sees 59 = .ok (.aload_n 0, 1) := by decide +kernel
theorem dX5_sees_60 : decode cX5_sees 60 = .ok (.dup, 1) := by decide +kernel
theorem dX5_sees_61 : decode cX5_sees 61 = .ok (.getfield 114, 3) := by decide +kernel
theorem dX5_sees_64 : decode cX5_sees 64 = .ok (.iconst 1, 1) := by decide +kernel
theorem dX5_sees_65 : decode cX5_sees 65 = .ok (.iadd, 1) := by decide +kernel
theorem dX5_sees_66 : decode cX5_sees 66 = .ok (.putfield 114, 3) := by decide +kernel
theorem dX5_sees_69 : decode cX5_sees 69 = .ok (.aload_n 0, 1) := by decide +kernel
theorem dX5_sees_70 : decode cX5_sees 70 = .ok (.getfield 114, 3) := by decide +kernel
theorem dX5_sees_73 : decode cX5_sees 73 = .ok (.ireturn, 1) := by decide +kernel
theorem dX5_forget_0 : decode cX5_forget 0 = .ok (.aload_n 0, 1) := by decide +kernel
theorem dX5_forget_1 : decode cX5_forget 1 = .ok (.getfield 114, 3) := by decide +kernel
theorem dX5_forget_4 : decode cX5_forget 4 = .ok (.istore_n 1, 1) := by decide +kernel
theorem dX5_forget_5 : decode cX5_forget 5 = .ok (.aload_n 0, 1) := by decide +kernel
theorem dX5_forget_6 : decode cX5_forget 6 = .ok (.iconst 0, 1) := by decide +kernel
theorem dX5_forget_7 : decode cX5_forget 7 = .ok (.putfield 114, 3) := by decide +kernel
theorem dX5_forget_10 : decode cX5_forget 10 = .ok (.iload_n 1, 1) := by decide +kernel
theorem dX5_forget_11 : decode cX5_forget 11 = .ok (.ireturn, 1) := by decide +kernel
theorem dX5_isSo_0 : decode cX5_isSo 0 = .ok (.aload_n 0, 1) := by decide +kernel
theorem dX5_isSo_1 : decode cX5_isSo 1 = .ok (.getfield 199, 3) := by decide +kernel
theorem dX5_isSo_4 : decode cX5_isSo 4 = .ok (.istore_n 1, 1) := by decide +kernel
theorem dX5_isSo_5 : decode cX5_isSo 5 = .ok (.iconst 0, 1) := by decide +kernel
theorem dX5_isSo_6 : decode cX5_isSo 6 = .ok (.istore_n 2, 1) := by decide +kernel
theorem dX5_isSo_7 : decode cX5_isSo 7 = .ok (.iload_n 2, 1) := by decide +kernel
theorem dX5_isSo_8 : decode cX5_isSo 8 = .ok (.aload_n 0, 1) := by decide +kernel
theorem dX5_isSo_9 : decode cX5_isSo 9 = .ok (.getfield 114, 3) := by decide +kernel
theorem dX5_isSo_12 : decode cX5_isSo 12 = .ok (.if_icmp .ge 53, 3) := by decide +kernel
theorem dX5_isSo_15 : decode cX5_isSo 15 = .ok (.iload_n 1, 1) := by decide +kernel
theorem dX5_isSo_16 : decode cX5_isSo 16 = .ok (.ifCond .eq 49, 3) := by decide +kernel
theorem dX5_isSo_19 : decode cX5_isSo 19 = .ok (.aload_n 0, 1) := by decide +kernel
theorem dX5_isSo_20 : decode cX5_isSo 20 = .ok (.getfield 27, 3) := by decide +kernel
theorem dX5_isSo_23 : decode cX5_isSo 23 = .ok (.iconst 2, 1) := by decide +kernel
theorem dX5_isSo_24 : decode cX5_isSo 24 = .ok (.iload_n 2, 1) := by decide +kernel
theorem dX5_isSo_25 : decode cX5_isSo 25 = .ok (.imul, 1) := by decide +kernel
theorem dX5_isSo_26 : decode cX5_isSo 26 = .ok (.iaload, 1) := by decide +kernel
theorem dX5_isSo_27 : decode cX5_isSo 27 = .ok (.istore_n 3, 1) := by decide +kernel
theorem dX5_isSo_28 : decode cX5_isSo 28 = .ok (.aload_n 0, 1) := by decide +kernel
theorem dX5_isSo_29 : decode cX5_isSo 29 = .ok (.iload_n 3, 1) := by decide +kernel
theorem dX5_isSo_30 : decode cX5_isSo 30 = .ok (.invokevirtual 193, 3) := by decide +kernel
theorem dX5_isSo_33 : decode cX5_isSo 33 = .ok (.aload_n 0, 1) := by decide +kernel
theorem dX5_isSo_34 : decode cX5_isSo 34 = .ok (.getfield 174, 3) := by decide +kernel
theorem dX5_isSo_37 : decode cX5_isSo 37 = .ok (.ldiv, 1) := by decide +kernel
theorem dX5_isSo_38 : decode cX5_isSo 38 = .ok (.aload_n 0, 1) := by decide +kernel
theorem dX5_isSo_39 : decode cX5_isSo 39 = .ok (.getfield 27, 3) := by decide +kernel
theorem dX5_isSo_42 : decode cX5_isSo 42 = .ok (.iconst 2, 1) := by decide +kernel
theorem dX5_isSo_43 : decode cX5_isSo 43 = .ok (.iload_n 2, 1) := by decide +kernel
theorem dX5_isSo_44 : decode cX5_isSo 44 = .ok (.imul, 1) := by decide +kernel
theorem dX5_isSo_45 : decode cX5_isSo 45 = .ok (.iconst 1, 1) := by decide +kernel
theorem dX5_isSo_46 : decode cX5_isSo 46 = .ok (.iadd, 1) := by decide +kernel
theorem dX5_isSo_47 : decode cX5_isSo 47 = .ok (.iaload, 1) := by decide +kernel
theorem dX5_isSo_48 : decode cX5_isSo 48 = .ok (.i2l, 1) := by decide +kernel
theorem dX5_isSo_49 : decode cX5_isSo 49 = .ok (.lcmp, 1) := by decide +kernel
theorem dX5_isSo_50 : decode cX5_isSo 50 = .ok (.ifCond .ne 7, 3) := by decide +kernel
theorem dX5_isSo_53 : decode cX5_isSo 53 = .ok (.iconst 1, 1) := by decide +kernel
theorem dX5_isSo_54 : decode cX5_isSo 54 = .ok (.goto 4, 3) := by decide +kernel
theorem dX5_isSo_57 : decode cX5_isSo 57 = .ok (.iconst 0, 1) := by decide +kernel
theorem dX5_isSo_58 : decode cX5_isSo 58 = .ok (.istore_n 1, 1) := by decide +kernel
theorem dX5_isSo_59 : decode cX5_isSo 59 = .ok (.iinc 2 1, 3) := by decide +kernel
theorem dX5_isSo_62 : decode cX5_isSo 62 = .ok (.goto (-55), 3) := by decide +kernel
theorem dX5_isSo_65 : decode cX5_isSo 65 = .ok (.iload_n 1, 1) := by decide +kernel
theorem dX5_isSo_66 : decode cX5_isSo 66 = .ok (.ireturn, 1) := by decide +kernel
theorem dX5_laysSpots_0 : decode cX5_laysSpots 0 = .ok (.aload_n 0, 1) := by decide +kernel
theorem dX5_laysSpots_1 : decode cX5_laysSpots 1 = .ok (.invokevirtual 211, 3) := by decide +kernel
theorem dX5_laysSpots_4 : decode cX5_laysSpots 4 = .ok (.aload_n 0, 1) := by decide +kernel
theorem dX5_laysSpots_5 : decode cX5_laysSpots 5 = .ok (.iconst 0, 1) := by decide +kernel
theorem dX5_laysSpots_6 : decode cX5_laysSpots 6 = .ok (.putfield 272, 3) := by decide +kernel
theorem dX5_laysSpots_9 : decode cX5_laysSpots 9 = .ok (.aload_n 0, 1) := by decide +kernel
theorem dX5_laysSpots_10 : decode cX5_laysSpots 10 = .ok (.bipush (-9), 2) := by decide +kernel
theorem dX5_laysSpots_12 : decode cX5_laysSpots 12 = .ok (.putfield 275, 3) := by decide +kernel
theorem dX5_laysSpots_15 : decode cX5_laysSpots 15 = .ok (.iconst 0, 1) := by decide +kernel
theorem dX5_laysSpots_16 : decode cX5_laysSpots 16 = .ok (.istore_n 1, 1) := by decide +kernel
theorem dX5_laysSpots_17 : decode cX5_laysSpots 17 = .ok (.iload_n 1, 1) := by decide +kernel
theorem dX5_laysSpots_18 : decode cX5_laysSpots 18 = .ok (.sipush 361, 3) := by decide +kernel
theorem dX5_laysSpots_21 : decode cX5_laysSpots 21 = .ok (.if_icmp .ge 123, 3) := by decide +kernel
theorem dX5_laysSpots_24 : decode cX5_laysSpots 24 = .ok (.aload_n 0, 1) := by decide +kernel
theorem dX5_laysSpots_25 : decode cX5_laysSpots 25 = .ok (.aload_n 0, 1) := by decide +kernel
theorem dX5_laysSpots_26 : decode cX5_laysSpots 26 = .ok (.getfield 23, 3) := by decide +kernel
theorem dX5_laysSpots_29 : decode cX5_laysSpots 29 = .ok (.iload_n 1, 1) := by decide +kernel
theorem dX5_laysSpots_30 : decode cX5_laysSpots 30 = .ok (.bipush 19, 2) := by decide +kernel
theorem dX5_laysSpots_32 : decode cX5_laysSpots 32 = .ok (.idiv, 1) := by decide +kernel
theorem dX5_laysSpots_33 : decode cX5_laysSpots 33 = .ok (.bipush 9, 2) := by decide +kernel
theorem dX5_laysSpots_35 : decode cX5_laysSpots 35 = .ok (.isub, 1) := by decide +kernel
theorem dX5_laysSpots_36 : decode cX5_laysSpots 36 = .ok (.iload_n 1, 1) := by decide +kernel
theorem dX5_laysSpots_37 : decode cX5_laysSpots 37 = .ok (.bipush 19, 2) := by decide +kernel
theorem dX5_laysSpots_39 : decode cX5_laysSpots 39 = .ok (.irem, 1) := by decide +kernel
theorem dX5_laysSpots_40 : decode cX5_laysSpots 40 = .ok (.bipush 9, 2) := by decide +kernel
theorem dX5_laysSpots_42 : decode cX5_laysSpots 42 = .ok (.isub, 1) := by decide +kernel
theorem dX5_laysSpots_43 : decode cX5_laysSpots 43 = .ok (.invokevirtual 254, 3) := by decide +kernel
theorem dX5_laysSpots_46 : decode cX5_laysSpots 46 = .ok (.aload_n 0, 1) := by decide +kernel
theorem dX5_laysSpots_47 : decode cX5_laysSpots 47 = .ok (.invokevirtual 217, 3) := by decide +kernel
theorem dX5_laysSpots_50 : decode cX5_laysSpots 50 = .ok (.aload_n 0, 1) := by decide +kernel
theorem dX5_laysSpots_51 : decode cX5_laysSpots 51 = .ok (.getfield 48, 3) := by decide +kernel
theorem dX5_laysSpots_54 : decode cX5_laysSpots 54 = .ok (.iload_n 1, 1) := by decide +kernel
theorem dX5_laysSpots_55 : decode cX5_laysSpots 55 = .ok (.aload_n 0, 1) := by decide +kernel
theorem dX5_laysSpots_56 : decode cX5_laysSpots 56 = .ok (.invokevirtual 278, 3) := by decide +kernel
theorem dX5_laysSpots_59 : decode cX5_laysSpots 59 = .ok (.bastore, 1) := by decide +kernel
theorem dX5_laysSpots_60 : decode cX5_laysSpots 60 = .ok (.aload_n 0, 1) := by decide +kernel
theorem dX5_laysSpots_61 : decode cX5_laysSpots 61 = .ok (.getfield 48, 3) := by decide +kernel
theorem dX5_laysSpots_64 : decode cX5_laysSpots 64 = .ok (.iload_n 1, 1) := by decide +kernel
theorem dX5_laysSpots_65 : decode cX5_laysSpots 65 = .ok (.baload, 1) := by decide +kernel
theorem dX5_laysSpots_66 : decode cX5_laysSpots 66 = .ok (.ifCond .eq 72, 3) := by decide +kernel
theorem dX5_laysSpots_69 : decode cX5_laysSpots 69 = .ok (.aload_n 0, 1) := by decide +kernel
theorem dX5_laysSpots_70 : decode cX5_laysSpots 70 = .ok (.dup, 1) := by decide +kernel
theorem dX5_laysSpots_71 : decode cX5_laysSpots 71 = .ok (.getfield 272, 3) := by decide +kernel
theorem dX5_laysSpots_74 : decode cX5_laysSpots 74 = .ok (.iconst 1, 1) := by decide +kernel
theorem dX5_laysSpots_75 : decode cX5_laysSpots 75 = .ok (.iadd, 1) := by decide +kernel
theorem dX5_laysSpots_76 : decode cX5_laysSpots 76 = .ok (.putfield 272, 3) := by decide +kernel
theorem dX5_laysSpots_79 : decode cX5_laysSpots 79 = .ok (.aload_n 0, 1) := by decide +kernel
theorem dX5_laysSpots_80 : decode cX5_laysSpots 80 = .ok (.aload_n 0, 1) := by decide +kernel
theorem dX5_laysSpots_81 : decode cX5_laysSpots 81 = .ok (.getfield 275, 3) := by decide +kernel
theorem dX5_laysSpots_84 : decode cX5_laysSpots 84 = .ok (.bipush (-9), 2) := by decide +kernel
theorem dX5_laysSpots_86 : decode cX5_laysSpots 86 = .ok (.if_icmp .ne 7, 3) := by decide +kernel
theorem dX5_laysSpots_89 : decode cX5_laysSpots 89 = .ok (.iload_n 1, 1) := by decide +kernel
theorem dX5_laysSpots_90 : decode cX5_laysSpots 90 = .ok (.goto 7, 3) := by decide +kernel
theorem dX5_laysSpots_93 : decode cX5_laysSpots 93 = .ok (.aload_n 0, 1) := by decide +kernel
theorem dX5_laysSpots_94 : decode cX5_laysSpots 94 = .ok (.getfield 275, 3) := by decide +kernel
theorem dX5_laysSpots_97 : decode cX5_laysSpots 97 = .ok (.putfield 275, 3) := by decide +kernel
theorem dX5_laysSpots_100 : decode cX5_laysSpots 100 = .ok (.iconst 0, 1) := by decide +kernel
theorem dX5_laysSpots_101 : decode cX5_laysSpots 101 = .ok (.istore_n 2, 1) := by decide +kernel
theorem dX5_laysSpots_102 : decode cX5_laysSpots 102 = .ok (.iload_n 2, 1) := by decide +kernel
theorem dX5_laysSpots_103 : decode cX5_laysSpots 103 = .ok (.aload_n 0, 1) := by decide +kernel
theorem dX5_laysSpots_104 : decode cX5_laysSpots 104 = .ok (.getfield 150, 3) := by decide +kernel
theorem dX5_laysSpots_107 : decode cX5_laysSpots 107 = .ok (.if_icmp .ge 31, 3) := by decide +kernel
theorem dX5_laysSpots_110 : decode cX5_laysSpots 110 = .ok (.aload_n 0, 1) := by decide +kernel
theorem dX5_laysSpots_111 : decode cX5_laysSpots 111 = .ok (.getfield 51, 3) := by decide +kernel
theorem dX5_laysSpots_114 : decode cX5_laysSpots 114 = .ok (.bipush 8, 2) := by decide +kernel
theorem dX5_laysSpots_116 : decode cX5_laysSpots 116 = .ok (.iload_n 1, 1) := by decide +kernel
theorem dX5_laysSpots_117 : decode cX5_laysSpots 117 = .ok (.imul, 1) := by decide +kernel
theorem dX5_laysSpots_118 : decode cX5_laysSpots 118 = .ok (.iload_n 2, 1) := by decide +kernel
theorem dX5_laysSpots_119 : decode cX5_laysSpots 119 = .ok (.iadd, 1) := by decide +kernel
theorem dX5_laysSpots_120 : decode cX5_laysSpots 120 = .ok (.aload_n 0, 1) := by decide +kernel
theorem dX5_laysSpots_121 : decode cX5_laysSpots 121 = .ok (.iload_n 2, 1) := by decide +kernel
theorem dX5_laysSpots_122 : decode cX5_laysSpots 122 = .ok (.invokevirtual 193, 3) := by decide +kernel
theorem dX5_laysSpots_125 : decode cX5_laysSpots 125 = .ok (.aload_n 0, 1) := by decide +kernel
theorem dX5_laysSpots_126 : decode cX5_laysSpots 126 = .ok (.getfield 174, 3) := by decide +kernel
theorem dX5_laysSpots_129 : decode cX5_laysSpots 129 = .ok (.ldiv, 1) := by decide +kernel
theorem dX5_laysSpots_130 : decode cX5_laysSpots 130 = .ok (.l2i, 1) := by decide +kernel
theorem dX5_laysSpots_131 : decode cX5_laysSpots 131 = .ok (.iastore, 1) := by decide +kernel
theorem dX5_laysSpots_132 : decode cX5_laysSpots 132 = .ok (.iinc 2 1, 3) := by decide +kernel
theorem dX5_laysSpots_135 : decode cX5_laysSpots 135 = .ok (.goto (-33), 3) := by decide +kernel
theorem dX5_laysSpots_138 : decode cX5_laysSpots 138 = .ok (.iinc 1 1, 3) := by decide +kernel
theorem dX5_laysSpots_141 : decode cX5_laysSpots 141 = .ok (.goto (-124), 3) := by decide +kernel
theorem dX5_laysSpots_144 : decode cX5_laysSpots 144 = .ok (.return_, 1) := by decide +kernel
theorem dX5_spots_0 : decode cX5_spots 0 = .ok (.iload_n 1, 1) := by decide +kernel
theorem dX5_spots_1 : decode cX5_spots 1 = .ok (.iconst 0, 1) := by decide +kernel
theorem dX5_spots_2 : decode cX5_spots 2 = .ok (.iconst 1, 1) := by decide +kernel
theorem dX5_spots_3 : decode cX5_spots 3 = .ok (.invokestatic 57, 3) := by decide +kernel
theorem dX5_spots_6 : decode cX5_spots 6 = .ok (.ifCond .ne 5, 3) := by decide +kernel
theorem dX5_spots_9 : decode cX5_spots 9 = .ok (.iconst (-1), 1) := by decide +kernel
theorem dX5_spots_10 : decode cX5_spots 10 = .ok (.ireturn, 1) := by decide +kernel
theorem dX5_spots_11 : decode cX5_spots 11 = .ok (.aload_n 0, 1) := by decide +kernel
theorem dX5_spots_12 : decode cX5_spots 12 = .ok (.invokevirtual 281, 3) := by decide +kernel
theorem dX5_spots_15 : decode cX5_spots 15 = .ok (.iload_n 1, 1) := by decide +kernel
theorem dX5_spots_16 : decode cX5_spots 16 = .ok (.ifCond .ne 10, 3) := by decide +kernel
theorem dX5_spots_19 : decode cX5_spots 19 = .ok (.aload_n 0, 1) := by decide +kernel
theorem dX5_spots_20 : decode cX5_spots 20 = .ok (.getfield 272, 3) := by decide +kernel
theorem dX5_spots_23 : decode cX5_spots 23 = .ok (.goto 7, 3) := by decide +kernel
theorem dX5_spots_26 : decode cX5_spots 26 = .ok (.aload_n 0, 1) := by decide +kernel
theorem dX5_spots_27 : decode cX5_spots 27 = .ok (.getfield 275, 3) := by decide +kernel
theorem dX5_spots_30 : decode cX5_spots 30 = .ok (.ireturn, 1) := by decide +kernel
theorem dX5_mostAlike_0 : decode cX5_mostAlike 0 = .ok (.iconst 0, 1) := by decide +kernel
theorem dX5_mostAlike_1 : decode cX5_mostAlike 1 = .ok (.istore_n 2, 1) := by decide +kernel
theorem dX5_mostAlike_2 : decode cX5_mostAlike 2 = .ok (.iload_n 2, 1) := by decide +kernel
theorem dX5_mostAlike_3 : decode cX5_mostAlike 3 = .ok (.bipush 100, 2) := by decide +kernel
theorem dX5_mostAlike_5 : decode cX5_mostAlike 5 = .ok (.if_icmp .ge 16, 3) := by decide +kernel
theorem dX5_mostAlike_8 : decode cX5_mostAlike 8 = .ok (.aload_n 0, 1) := by decide +kernel
theorem dX5_mostAlike_9 : decode cX5_mostAlike 9 = .ok (.getfield 54, 3) := by decide +kernel
theorem dX5_mostAlike_12 : decode cX5_mostAlike 12 = .ok (.iload_n 2, 1) := by decide +kernel
theorem dX5_mostAlike_13 : decode cX5_mostAlike 13 = .ok (.iconst 0, 1) := by decide +kernel
theorem dX5_mostAlike_14 : decode cX5_mostAlike 14 = .ok (.iastore, 1) := by decide +kernel
theorem dX5_mostAlike_15 : decode cX5_mostAlike 15 = .ok (.iinc 2 1, 3) := by decide +kernel
theorem dX5_mostAlike_18 : decode cX5_mostAlike 18 = .ok (.goto (-16), 3) := by decide +kernel
theorem dX5_mostAlike_21 : decode cX5_mostAlike 21 = .ok (.iconst 0, 1) := by decide +kernel
theorem dX5_mostAlike_22 : decode cX5_mostAlike 22 = .ok (.istore_n 2, 1) := by decide +kernel
theorem dX5_mostAlike_23 : decode cX5_mostAlike 23 = .ok (.iconst 0, 1) := by decide +kernel
theorem dX5_mostAlike_24 : decode cX5_mostAlike 24 = .ok (.istore_n 3, 1) := by decide +kernel
theorem dX5_mostAlike_25 : decode cX5_mostAlike 25 = .ok (.iload_n 3, 1) := by decide +kernel
theorem dX5_mostAlike_26 : decode cX5_mostAlike 26 = .ok (.sipush 361, 3) := by decide +kernel
theorem dX5_mostAlike_29 : decode cX5_mostAlike 29 = .ok (.if_icmp .ge 65, 3) := by decide +kernel
theorem dX5_mostAlike_32 : decode cX5_mostAlike 32 = .ok (.aload_n 0, 1) := by decide +kernel
theorem dX5_mostAlike_33 : decode cX5_mostAlike 33 = .ok (.getfield 48, 3) := by decide +kernel
theorem dX5_mostAlike_36 : decode cX5_mostAlike 36 = .ok (.iload_n 3, 1) := by decide +kernel
theorem dX5_mostAlike_37 : decode cX5_mostAlike 37 = .ok (.baload, 1) := by decide +kernel
theorem dX5_mostAlike_38 : decode cX5_mostAlike 38 = .ok (.ifCond .eq 50, 3) := by decide +kernel
theorem dX5_mostAlike_41 : decode cX5_mostAlike 41 = .ok (.aload_n 0, 1) := by decide +kernel
theorem dX5_mostAlike_42 : decode cX5_mostAlike 42 = .ok (.getfield 51, 3) := by decide +kernel
theorem dX5_mostAlike_45 : decode cX5_mostAlike 45 = .ok (.bipush 8, 2) := by decide +kernel
theorem dX5_mostAlike_47 : decode cX5_mostAlike 47 = .ok (.iload_n 3, 1) := by decide +kernel
theorem dX5_mostAlike_48 : decode cX5_mostAlike 48 = .ok (.imul, 1) := by decide +kernel
theorem dX5_mostAlike_49 : decode cX5_mostAlike 49 = .ok (.iload_n 1, 1) := by decide +kernel
theorem dX5_mostAlike_50 : decode cX5_mostAlike 50 = .ok (.iadd, 1) := by decide +kernel
theorem dX5_mostAlike_51 : decode cX5_mostAlike 51 = .ok (.iaload, 1) := by decide +kernel
theorem dX5_mostAlike_52 : decode cX5_mostAlike 52 = .ok (.istore 4, 2) := by decide +kernel
theorem dX5_mostAlike_54 : decode cX5_mostAlike 54 = .ok (.aload_n 0, 1) := by decide +kernel
theorem dX5_mostAlike_55 : decode cX5_mostAlike 55 = .ok (.getfield 54, 3) := by decide +kernel
theorem dX5_mostAlike_58 : decode cX5_mostAlike 58 = .ok (.iload 4, 2) := by decide +kernel
theorem dX5_mostAlike_60 : decode cX5_mostAlike 60 = .ok (.dup2, 1) := by decide +kernel
theorem dX5_mostAlike_61 : decode cX5_mostAlike 61 = .ok (.iaload, 1) := by decide +kernel
theorem dX5_mostAlike_62 : decode cX5_mostAlike 62 = .ok (.iconst 1, 1) := by decide +kernel
theorem dX5_mostAlike_63 : decode cX5_mostAlike 63 = .ok (.iadd, 1) := by decide +kernel
theorem dX5_mostAlike_64 : decode cX5_mostAlike 64 = .ok (.iastore, 1) := by decide +kernel
theorem dX5_mostAlike_65 : decode cX5_mostAlike 65 = .ok (.aload_n 0, 1) := by decide +kernel
theorem dX5_mostAlike_66 : decode cX5_mostAlike 66 = .ok (.getfield 54, 3) := by decide +kernel
theorem dX5_mostAlike_69 : decode cX5_mostAlike 69 = .ok (.iload 4, 2) := by decide +kernel
theorem dX5_mostAlike_71 : decode cX5_mostAlike 71 = .ok (.iaload, 1) := by decide +kernel
theorem dX5_mostAlike_72 : decode cX5_mostAlike 72 = .ok (.iload_n 2, 1) := by decide +kernel
theorem dX5_mostAlike_73 : decode cX5_mostAlike 73 = .ok (.if_icmp .le 13, 3) := by decide +kernel
theorem dX5_mostAlike_76 : decode cX5_mostAlike 76 = .ok (.aload_n 0, 1) := by decide +kernel
theorem dX5_mostAlike_77 : decode cX5_mostAlike 77 = .ok (.getfield 54, 3) := by decide +kernel
theorem dX5_mostAlike_80 : decode cX5_mostAlike 80 = .ok (.iload 4, 2) := by decide +kernel
theorem dX5_mostAlike_82 : decode cX5_mostAlike 82 = .ok (.iaload, 1) := by decide +kernel
theorem dX5_mostAlike_83 : decode cX5_mostAlike 83 = .ok (.goto 4, 3) := by decide +kernel
theorem dX5_mostAlike_86 : decode cX5_mostAlike 86 = .ok (.iload_n 2, 1) := by decide +kernel
theorem dX5_mostAlike_87 : decode cX5_mostAlike 87 = .ok (.istore_n 2, 1) := by decide +kernel
theorem dX5_mostAlike_88 : decode cX5_mostAlike 88 = .ok (.iinc 3 1, 3) := by decide +kernel
theorem dX5_mostAlike_91 : decode cX5_mostAlike 91 = .ok (.goto (-66), 3) := by decide +kernel
theorem dX5_mostAlike_94 : decode cX5_mostAlike 94 = .ok (.iload_n 2, 1) := by decide +kernel
theorem dX5_mostAlike_95 : decode cX5_mostAlike 95 = .ok (.ireturn, 1) := by decide +kernel
theorem dX5_ask_0 : decode cX5_ask 0 = .ok (.aload_n 0, 1) := by decide +kernel
theorem dX5_ask_1 : decode cX5_ask 1 = .ok (.invokevirtual 281, 3) := by decide +kernel
theorem dX5_ask_4 : decode cX5_ask 4 = .ok (.aload_n 0, 1) := by decide +kernel
theorem dX5_ask_5 : decode cX5_ask 5 = .ok (.getfield 272, 3) := by decide +kernel
theorem dX5_ask_8 : decode cX5_ask 8 = .ok (.iconst 2, 1) := by decide +kernel
theorem dX5_ask_9 : decode cX5_ask 9 = .ok (.if_icmp .ge 6, 3) := by decide +kernel
theorem dX5_ask_12 : decode cX5_ask 12 = .ok (.bipush (-9), 2) := by decide +kernel
theorem dX5_ask_14 : decode cX5_ask 14 = .ok (.ireturn, 1) := by decide +kernel
theorem dX5_ask_15 : decode cX5_ask 15 = .ok (.bipush (-9), 2) := by decide +kernel
theorem dX5_ask_17 : decode cX5_ask 17 = .ok (.istore_n 1, 1) := by decide +kernel
theorem dX5_ask_18 : decode cX5_ask 18 = .ok (.iconst 0, 1) := by decide +kernel
theorem dX5_ask_19 : decode cX5_ask 19 = .ok (.istore_n 2, 1) := by decide +kernel
theorem dX5_ask_20 : decode cX5_ask 20 = .ok (.iconst 0, 1) := by decide +kernel
theorem dX5_ask_21 : decode cX5_ask 21 = .ok (.istore_n 3, 1) := by decide +kernel
theorem dX5_ask_22 : decode cX5_ask 22 = .ok (.iload_n 3, 1) := by decide +kernel
theorem dX5_ask_23 : decode cX5_ask 23 = .ok (.aload_n 0, 1) := by decide +kernel
theorem dX5_ask_24 : decode cX5_ask 24 = .ok (.getfield 150, 3) := by decide +kernel
theorem dX5_ask_27 : decode cX5_ask 27 = .ok (.if_icmp .ge 58, 3) := by decide +kernel
theorem dX5_ask_30 : decode cX5_ask 30 = .ok (.aload_n 0, 1) := by decide +kernel
theorem dX5_ask_31 : decode cX5_ask 31 = .ok (.getfield 153, 3) := by decide +kernel
theorem dX5_ask_34 : decode cX5_ask 34 = .ok (.iload_n 3, 1) := by decide +kernel
theorem dX5_ask_35 : decode cX5_ask 35 = .ok (.ishr, 1) := by decide +kernel
theorem dX5_ask_36 : decode cX5_ask 36 = .ok (.iconst 1, 1) := by decide +kernel
theorem dX5_ask_37 : decode cX5_ask 37 = .ok (.iand, 1) := by decide +kernel
theorem dX5_ask_38 : decode cX5_ask 38 = .ok (.iconst 1, 1) := by decide +kernel
theorem dX5_ask_39 : decode cX5_ask 39 = .ok (.if_icmp .ne 40, 3) := by decide +kernel
theorem dX5_ask_42 : decode cX5_ask 42 = .ok (.aload_n 0, 1) := by decide +kernel
theorem dX5_ask_43 : decode cX5_ask 43 = .ok (.iload_n 3, 1) := by decide +kernel
theorem dX5_ask_44 : decode cX5_ask 44 = .ok (.invokevirtual 284, 3) := by decide +kernel
theorem dX5_ask_47 : decode cX5_ask 47 = .ok (.istore 4, 2) := by decide +kernel
theorem dX5_ask_49 : decode cX5_ask 49 = .ok (.iload_n 1, 1) := by decide +kernel
theorem dX5_ask_50 : decode cX5_ask 50 = .ok (.bipush (-9), 2) := by decide +kernel
theorem dX5_ask_52 : decode cX5_ask 52 = .ok (.if_icmp .eq 9, 3) := by decide +kernel
theorem dX5_ask_55 : decode cX5_ask 55 = .ok (.iload 4, 2) := by decide +kernel
theorem dX5_ask_57 : decode cX5_ask 57 = .ok (.iload_n 2, 1) := by decide +kernel
theorem dX5_ask_58 : decode cX5_ask 58 = .ok (.if_icmp .ge 7, 3) := by decide +kernel
theorem dX5_ask_61 : decode cX5_ask 61 = .ok (.iload_n 3, 1) := by decide +kernel
theorem dX5_ask_62 : decode cX5_ask 62 = .ok (.goto 4, 3) := by decide +kernel
theorem dX5_ask_65 : decode cX5_ask 65 = .ok (.iload_n 1, 1) := by decide +kernel
theorem dX5_ask_66 : decode cX5_ask 66 = .ok (.istore_n 1, 1) := by decide +kernel
theorem dX5_ask_67 : decode cX5_ask 67 = .ok (.iload_n 1, 1) := by decide +kernel
theorem dX5_ask_68 : decode cX5_ask 68 = .ok (.iload_n 3, 1) := by decide +kernel
theorem dX5_ask_69 : decode cX5_ask 69 = .ok (.if_icmp .ne 8, 3) := by decide +kernel
theorem dX5_ask_72 : decode cX5_ask 72 = .ok (.iload 4, 2) := by decide +kernel
theorem dX5_ask_74 : decode cX5_ask 74 = .ok (.goto 4, 3) := by decide +kernel
theorem dX5_ask_77 : decode cX5_ask 77 = .ok (.iload_n 2, 1) := by decide +kernel
theorem dX5_ask_78 : decode cX5_ask 78 = .ok (.istore_n 2, 1) := by decide +kernel
theorem dX5_ask_79 : decode cX5_ask 79 = .ok (.iinc 3 1, 3) := by decide +kernel
theorem dX5_ask_82 : decode cX5_ask 82 = .ok (.goto (-60), 3) := by decide +kernel
theorem dX5_ask_85 : decode cX5_ask 85 = .ok (.iload_n 1, 1) := by decide +kernel
theorem dX5_ask_86 : decode cX5_ask 86 = .ok (.ireturn, 1) := by decide +kernel
theorem dX5_keep_0 : decode cX5_keep 0 = .ok (.iload_n 1, 1) := by decide +kernel
theorem dX5_keep_1 : decode cX5_keep 1 = .ok (.iconst 0, 1) := by decide +kernel
theorem dX5_keep_2 : decode cX5_keep 2 = .ok (.iconst 1, 1) := by decide +kernel
theorem dX5_keep_3 : decode cX5_keep 3 = .ok (.invokestatic 57, 3) := by decide +kernel
theorem dX5_keep_6 : decode cX5_keep 6 = .ok (.ifCond .ne 5, 3) := by decide +kernel
theorem dX5_keep_9 : decode cX5_keep 9 = .ok (.iconst (-1), 1) := by decide +kernel
theorem dX5_keep_10 : decode cX5_keep 10 = .ok (.ireturn, 1) := by decide +kernel
theorem dX5_keep_11 : decode cX5_keep 11 = .ok (.iconst 0, 1) := by decide +kernel
theorem dX5_keep_12 : decode cX5_keep 12 = .ok (.istore_n 2, 1) := by decide +kernel
theorem dX5_keep_13 : decode cX5_keep 13 = .ok (.iload_n 2, 1) := by decide +kernel
theorem dX5_keep_14 : decode cX5_keep 14 = .ok (.bipush 59, 2) := by decide +kernel
theorem dX5_keep_16 : decode cX5_keep 16 = .ok (.if_icmp .ge 26, 3) := by decide +kernel
theorem dX5_keep_19 : decode cX5_keep 19 = .ok (.aload_n 0, 1) := by decide +kernel
theorem dX5_keep_20 : decode cX5_keep 20 = .ok (.getfield 16, 3) := by decide +kernel
theorem dX5_keep_23 : decode cX5_keep 23 = .ok (.bipush 59, 2) := by decide +kernel
theorem dX5_keep_25 : decode cX5_keep 25 = .ok (.iload_n 1, 1) := by decide +kernel
theorem dX5_keep_26 : decode cX5_keep 26 = .ok (.imul, 1) := by decide +kernel
theorem dX5_keep_27 : decode cX5_keep 27 = .ok (.iload_n 2, 1) := by decide +kernel
theorem dX5_keep_28 : decode cX5_keep 28 = .ok (.iadd, 1) := by decide +kernel
theorem dX5_keep_29 : decode cX5_keep 29 = .ok (.aload_n 0, 1) := by decide +kernel
theorem dX5_keep_30 : decode cX5_keep 30 = .ok (.getfield 7, 3) := by decide +kernel
theorem dX5_keep_33 : decode cX5_keep 33 = .ok (.iload_n 2, 1) := by decide +kernel
theorem dX5_keep_34 : decode cX5_keep 34 = .ok (.iaload, 1) := by decide +kernel
theorem dX5_keep_35 : decode cX5_keep 35 = .ok (.iastore, 1) := by decide +kernel
theorem dX5_keep_36 : decode cX5_keep 36 = .ok (.iinc 2 1, 3) := by decide +kernel
theorem dX5_keep_39 : decode cX5_keep 39 = .ok (.goto (-26), 3) := by decide +kernel
theorem dX5_keep_42 : decode cX5_keep 42 = .ok (.aload_n 0, 1) := by decide +kernel
theorem dX5_keep_43 : decode cX5_keep 43 = .ok (.getfield 19, 3) := by decide +kernel
theorem dX5_keep_46 : decode cX5_keep 46 = .ok (.iload_n 1, 1) := by decide +kernel
theorem dX5_keep_47 : decode cX5_keep 47 = .ok (.iconst 1, 1) := by decide +kernel
theorem dX5_keep_48 : decode cX5_keep 48 = .ok (.bastore, 1) := by decide +kernel
theorem dX5_keep_49 : decode cX5_keep 49 = .ok (.aload_n 0, 1) := by decide +kernel
theorem dX5_keep_50 : decode cX5_keep 50 = .ok (.getfield 7, 3) := by decide +kernel
theorem dX5_keep_53 : decode cX5_keep 53 = .ok (.iconst 0, 1) := by decide +kernel
theorem dX5_keep_54 : decode cX5_keep 54 = .ok (.iaload, 1) := by decide +kernel
theorem dX5_keep_55 : decode cX5_keep 55 = .ok (.ireturn, 1) := by decide +kernel
theorem dX5_back_0 : decode cX5_back 0 = .ok (.iload_n 1, 1) := by decide +kernel
theorem dX5_back_1 : decode cX5_back 1 = .ok (.iconst 0, 1) := by decide +kernel
theorem dX5_back_2 : decode cX5_back 2 = .ok (.iconst 1, 1) := by decide +kernel
theorem dX5_back_3 : decode cX5_back 3 = .ok (.invokestatic 57, 3) := by decide +kernel
theorem dX5_back_6 : decode cX5_back 6 = .ok (.ifCond .ne 5, 3) := by decide +kernel
theorem dX5_back_9 : decode cX5_back 9 = .ok (.iconst (-1), 1) := by decide +kernel
theorem dX5_back_10 : decode cX5_back 10 = .ok (.ireturn, 1) := by decide +kernel
theorem dX5_back_11 : decode cX5_back 11 = .ok (.aload_n 0, 1) := by decide +kernel
theorem dX5_back_12 : decode cX5_back 12 = .ok (.getfield 19, 3) := by decide +kernel
theorem dX5_back_15 : decode cX5_back 15 = .ok (.iload_n 1, 1) := by decide +kernel
theorem dX5_back_16 : decode cX5_back 16 = .ok (.baload, 1) := by decide +kernel
theorem dX5_back_17 : decode cX5_back 17 = .ok (.ifCond .ne 6, 3) := by decide +kernel
theorem dX5_back_20 : decode cX5_back 20 = .ok (.bipush (-2), 2) := by decide +kernel
theorem dX5_back_22 : decode cX5_back 22 = .ok (.ireturn, 1) := by decide +kernel
theorem dX5_back_23 : decode cX5_back 23 = .ok (.iconst 0, 1) := by decide +kernel
theorem dX5_back_24 : decode cX5_back 24 = .ok (.istore_n 2, 1) := by decide +kernel
theorem dX5_back_25 : decode cX5_back 25 = .ok (.iload_n 2, 1) := by decide +kernel
theorem dX5_back_26 : decode cX5_back 26 = .ok (.bipush 59, 2) := by decide +kernel
theorem dX5_back_28 : decode cX5_back 28 = .ok (.if_icmp .ge 26, 3) := by decide +kernel
theorem dX5_back_31 : decode cX5_back 31 = .ok (.aload_n 0, 1) := by decide +kernel
theorem dX5_back_32 : decode cX5_back 32 = .ok (.getfield 7, 3) := by decide +kernel
theorem dX5_back_35 : decode cX5_back 35 = .ok (.iload_n 2, 1) := by decide +kernel
theorem dX5_back_36 : decode cX5_back 36 = .ok (.aload_n 0, 1) := by decide +kernel
theorem dX5_back_37 : decode cX5_back 37 = .ok (.getfield 16, 3) := by decide +kernel
theorem dX5_back_40 : decode cX5_back 40 = .ok (.bipush 59, 2) := by decide +kernel
theorem dX5_back_42 : decode cX5_back 42 = .ok (.iload_n 1, 1) := by decide +kernel
theorem dX5_back_43 : decode cX5_back 43 = .ok (.imul, 1) := by decide +kernel
theorem dX5_back_44 : decode cX5_back 44 = .ok (.iload_n 2, 1) := by decide +kernel
theorem dX5_back_45 : decode cX5_back 45 = .ok (.iadd, 1) := by decide +kernel
theorem dX5_back_46 : decode cX5_back 46 = .ok (.iaload, 1) := by decide +kernel
theorem dX5_back_47 : decode cX5_back 47 = .ok (.iastore, 1) := by decide +kernel
theorem dX5_back_48 : decode cX5_back 48 = .ok (.iinc 2 1, 3) := by decide +kernel
theorem dX5_back_51 : decode cX5_back 51 = .ok (.goto (-26), 3) := by decide +kernel
theorem dX5_back_54 : decode cX5_back 54 = .ok (.aload_n 0, 1) := by decide +kernel
theorem dX5_back_55 : decode cX5_back 55 = .ok (.iconst 0, 1) := by decide +kernel
theorem dX5_back_56 : decode cX5_back 56 = .ok (.putfield 111, 3) := by decide +kernel
theorem dX5_back_59 : decode cX5_back 59 = .ok (.aload_n 0, 1) := by decide +kernel
theorem dX5_back_60 : decode cX5_back 60 = .ok (.getfield 7, 3) := by decide +kernel
theorem dX5_back_63 : decode cX5_back 63 = .ok (.iconst 0, 1) := by decide +kernel
theorem dX5_back_64 : decode cX5_back 64 = .ok (.iaload, 1) := by decide +kernel
theorem dX5_back_65 : decode cX5_back 65 = .ok (.ireturn, 1) := by decide +kernel
theorem dX5_count_0 : decode cX5_count 0 = .ok (.iload_n 1, 1) := by decide +kernel
theorem dX5_count_1 : decode cX5_count 1 = .ok (.tableswitch 83 0 6 #[43, 50, 55, 63, 68, 73, 78], 43) := by decide +kernel
theorem dX5_count_44 : decode cX5_count 44 = .ok (.aload_n 0, 1) := by decide +kernel
theorem dX5_count_45 : decode cX5_count 45 = .ok (.getfield 7, 3) := by decide +kernel
theorem dX5_count_48 : decode cX5_count 48 = .ok (.iconst 0, 1) := by decide +kernel
theorem dX5_count_49 : decode cX5_count 49 = .ok (.iaload, 1) := by decide +kernel
theorem dX5_count_50 : decode cX5_count 50 = .ok (.ireturn, 1) := by decide +kernel
theorem dX5_count_51 : decode cX5_count 51 = .ok (.aload_n 0, 1) := by decide +kernel
theorem dX5_count_52 : decode cX5_count 52 = .ok (.invokevirtual 137, 3) := by decide +kernel
theorem dX5_count_55 : decode cX5_count 55 = .ok (.ireturn, 1) := by decide +kernel
theorem dX5_count_56 : decode cX5_count 56 = .ok (.aload_n 0, 1) := by decide +kernel
theorem dX5_count_57 : decode cX5_count 57 = .ok (.getfield 7, 3) := by decide +kernel
theorem dX5_count_60 : decode cX5_count 60 = .ok (.bipush 41, 2) := by decide +kernel
theorem dX5_count_62 : decode cX5_count 62 = .ok (.iaload, 1) := by decide +kernel
theorem dX5_count_63 : decode cX5_count 63 = .ok (.ireturn, 1) := by decide +kernel
theorem dX5_count_64 : decode cX5_count 64 = .ok (.aload_n 0, 1) := by decide +kernel
theorem dX5_count_65 : decode cX5_count 65 = .ok (.getfield 23, 3) := by decide +kernel
theorem dX5_count_68 : decode cX5_count 68 = .ok (.ireturn, 1) := by decide +kernel
theorem dX5_count_69 : decode cX5_count 69 = .ok (.aload_n 0, 1) := by decide +kernel
theorem dX5_count_70 : decode cX5_count 70 = .ok (.getfield 114, 3) := by decide +kernel
theorem dX5_count_73 : decode cX5_count 73 = .ok (.ireturn, 1) := by decide +kernel
theorem dX5_count_74 : decode cX5_count 74 = .ok (.aload_n 0, 1) := by decide +kernel
theorem dX5_count_75 : decode cX5_count 75 = .ok (.getfield 61, 3) := by decide +kernel
theorem dX5_count_78 : decode cX5_count 78 = .ok (.ireturn, 1) := by decide +kernel
theorem dX5_count_79 : decode cX5_count 79 = .ok (.aload_n 0, 1) := by decide +kernel
theorem dX5_count_80 : decode cX5_count 80 = .ok (.getfield 111, 3) := by decide +kernel
theorem dX5_count_83 : decode cX5_count 83 = .ok (.ireturn, 1) := by decide +kernel
theorem dX5_count_84 : decode cX5_count 84 = .ok (.iconst (-1), 1) := by decide +kernel
theorem dX5_count_85 : decode cX5_count 85 = .ok (.ireturn, 1) := by decide +kernel
end
section
theorem dL_law_0 : decode cL_law 0 = .ok (.new 7, 3) := by decide +kernel
theorem dL_law_3 : decode cL_law 3 = .ok (.dup, 1) := by decide +kernel
theorem dL_law_4 : decode cL_law 4 = .ok (.invokespecial 9, 3) := by decide +kernel
theorem dL_law_7 : decode cL_law 7 = .ok (.astore_n 1, 1) := by decide +kernel
theorem dL_law_8 : decode cL_law 8 = .ok (.new 10, 3) := by decide +kernel
theorem dL_law_11 : decode cL_law 11 = .ok (.dup, 1) := by decide +kernel
theorem dL_law_12 : decode cL_law 12 = .ok (.invokespecial 12, 3) := by decide +kernel
theorem dL_law_15 : decode cL_law 15 = .ok (.astore_n 2, 1) := by decide +kernel
theorem dL_law_16 : decode cL_law 16 = .ok (.iconst 0, 1) := by decide +kernel
theorem dL_law_17 : decode cL_law 17 = .ok (.istore_n 3, 1) := by decide +kernel
theorem dL_law_18 : decode cL_law 18 = .ok (.iload_n 3, 1) := by decide +kernel
theorem dL_law_19 : decode cL_law 19 = .ok (.aload_n 0, 1) := by decide +kernel
theorem dL_law_20 : decode cL_law 20 = .ok (.arraylength, 1) := by decide +kernel
theorem dL_law_21 : decode cL_law 21 = .ok (.iconst 5, 1) := by decide +kernel
theorem dL_law_22 : decode cL_law 22 = .ok (.isub, 1) := by decide +kernel
theorem dL_law_23 : decode cL_law 23 = .ok (.if_icmp .gt 1013, 3) := by decide +kernel
theorem dL_law_26 : decode cL_law 26 = .ok (.aload_n 0, 1) := by decide +kernel
theorem dL_law_27 : decode cL_law 27 = .ok (.iload_n 3, 1) := by decide +kernel
theorem dL_law_28 : decode cL_law 28 = .ok (.iaload, 1) := by decide +kernel
theorem dL_law_29 : decode cL_law 29 = .ok (.bipush 31, 2) := by decide +kernel
theorem dL_law_31 : decode cL_law 31 = .ok (.iand, 1) := by decide +kernel
theorem dL_law_32 : decode cL_law 32 = .ok (.tableswitch 998 0 31 #[144, 167, 180, 193, 246, 269, 292, 325, 368, 401, 414, 448, 482, 506, 529, 563, 607, 631, 655, 688, 711, 745, 758, 791, 824, 847, 880, 893, 916, 929, 952, 975], 144) := by decide +kernel
theorem dL_law_176 : decode cL_law 176 = .ok (.aload_n 1, 1) := by decide +kernel
theorem dL_law_177 : decode cL_law 177 = .ok (.aload_n 0, 1) := by decide +kernel
theorem dL_law_178 : decode cL_law 178 = .ok (.iload_n 3, 1) := by decide +kernel
theorem dL_law_179 : decode cL_law 179 = .ok (.iconst 1, 1) := by decide +kernel
theorem dL_law_180 : decode cL_law 180 = .ok (.iadd, 1) := by decide +kernel
theorem dL_law_181 : decode cL_law 181 = .ok (.iaload, 1) := by decide +kernel
theorem dL_law_182 : decode cL_law 182 = .ok (.invokevirtual 13, 3) := by decide +kernel
theorem dL_law_185 : decode cL_law 185 = .ok (.aload_n 2, 1) := by decide +kernel
theorem dL_law_186 : decode cL_law 186 = .ok (.aload_n 0, 1) := by decide +kernel
theorem dL_law_187 : decode cL_law 187 = .ok (.iload_n 3, 1) := by decide +kernel
theorem dL_law_188 : decode cL_law 188 = .ok (.iconst 1, 1) := by decide +kernel
theorem dL_law_189 : decode cL_law 189 = .ok (.iadd, 1) := by decide +kernel
theorem dL_law_190 : decode cL_law 190 = .ok (.iaload, 1) := by decide +kernel
theorem dL_law_191 : decode cL_law 191 = .ok (.invokevirtual 17, 3) := by decide +kernel
theorem dL_law_194 : decode cL_law 194 = .ok (.if_icmp .eq 836, 3) := by decide +kernel
theorem dL_law_197 : decode cL_law 197 = .ok (.iconst 0, 1) := by decide +kernel
theorem dL_law_198 : decode cL_law 198 = .ok (.ireturn, 1) := by decide +kernel
theorem dL_law_199 : decode cL_law 199 = .ok (.aload_n 1, 1) := by decide +kernel
theorem dL_law_200 : decode cL_law 200 = .ok (.invokevirtual 18, 3) := by decide +kernel
theorem dL_law_203 : decode cL_law 203 = .ok (.aload_n 2, 1) := by decide +kernel
theorem dL_law_204 : decode cL_law 204 = .ok (.invokevirtual 22, 3) := by decide +kernel
theorem dL_law_207 : decode cL_law 207 = .ok (.if_icmp .eq 823, 3) := by decide +kernel
theorem dL_law_210 : decode cL_law 210 = .ok (.iconst 0, 1) := by decide +kernel
theorem dL_law_211 : decode cL_law 211 = .ok (.ireturn, 1) := by decide +kernel
theorem dL_law_212 : decode cL_law 212 = .ok (.aload_n 1, 1) := by decide +kernel
theorem dL_law_213 : decode cL_law 213 = .ok (.invokevirtual 23, 3) := by decide +kernel
theorem dL_law_216 : decode cL_law 216 = .ok (.aload_n 2, 1) := by decide +kernel
theorem dL_law_217 : decode cL_law 217 = .ok (.invokevirtual 26, 3) := by decide +kernel
theorem dL_law_220 : decode cL_law 220 = .ok (.if_icmp .eq 810, 3) := by decide +kernel
theorem dL_law_223 : decode cL_law 223 = .ok (.iconst 0, 1) := by decide +kernel
theorem dL_law_224 : decode cL_law 224 = .ok (.ireturn, 1) := by decide +kernel
theorem dL_law_225 : decode cL_law 225 = .ok (.aload_n 1, 1) := by decide +kernel
theorem dL_law_226 : decode cL_law 226 = .ok (.aload_n 0, 1) := by decide +kernel
theorem dL_law_227 : decode cL_law 227 = .ok (.iload_n 3, 1) := by decide +kernel
theorem dL_law_228 : decode cL_law 228 = .ok (.iconst 1, 1) := by decide +kernel
theorem dL_law_229 : decode cL_law 229 = .ok (.iadd, 1) := by decide +kernel
theorem dL_law_230 : decode cL_law 230 = .ok (.iaload, 1) := by decide +kernel
theorem dL_law_231 : decode cL_law 231 = .ok (.aload_n 0, 1) := by decide +kernel
theorem dL_law_232 : decode cL_law 232 = .ok (.iload_n 3, 1) := by decide +kernel
theorem dL_law_233 : decode cL_law 233 = .ok (.iconst 2, 1) := by decide +kernel
theorem dL_law_234 : decode cL_law 234 = .ok (.iadd, 1) := by decide +kernel
theorem dL_law_235 : decode cL_law 235 = .ok (.iaload, 1) := by decide +kernel
theorem dL_law_236 : decode cL_law 236 = .ok (.aload_n 0, 1) := by decide +kernel
theorem dL_law_237 : decode cL_law 237 = .ok (.iload_n 3, 1) := by decide +kernel
theorem dL_law_238 : decode cL_law 238 = .ok (.iconst 3, 1) := by decide +kernel
theorem dL_law_239 : decode cL_law 239 = .ok (.iadd, 1) := by decide +kernel
theorem dL_law_240 : decode cL_law 240 = .ok (.iaload, 1) := by decide +kernel
theorem dL_law_241 : decode cL_law 241 = .ok (.aload_n 0, 1) := by decide +kernel
theorem dL_law_242 : decode cL_law 242 = .ok (.iload_n 3, 1) := by decide +kernel
theorem dL_law_243 : decode cL_law 243 = .ok (.iconst 4, 1) := by decide +kernel
theorem dL_law_244 : decode cL_law 244 = .ok (.iadd, 1) := by decide +kernel
theorem dL_law_245 : decode cL_law 245 = .ok (.iaload, 1) := by decide +kernel
theorem dL_law_246 : decode cL_law 246 = .ok (.invokevirtual 27, 3) := by decide +kernel
theorem dL_law_249 : decode cL_law 249 = .ok (.aload_n 2, 1) := by decide +kernel
theorem dL_law_250 : decode cL_law 250 = .ok (.aload_n 0, 1) := by decide +kernel
theorem dL_law_251 : decode cL_law 251 = .ok (.iload_n 3, 1) := by decide +kernel
theorem dL_law_252 : decode cL_law 252 = .ok (.iconst 1, 1) := by decide +kernel
theorem dL_law_253 : decode cL_law 253 = .ok (.iadd, 1) := by decide +kernel
theorem dL_law_254 : decode cL_law 254 = .ok (.iaload, 1) := by decide +kernel
theorem dL_law_255 : decode cL_law 255 = .ok (.aload_n 0, 1) := by decide +kernel
theorem dL_law_256 : decode cL_law 256 = .ok (.iload_n 3, 1) := by decide +kernel
theorem dL_law_257 : decode cL_law 257 = .ok (.iconst 2, 1) := by decide +kernel
theorem dL_law_258 : decode cL_law 258 = .ok (.iadd, 1) := by decide +kernel
theorem dL_law_259 : decode cL_law 259 = .ok (.iaload, 1) := by decide +kernel
theorem dL_law_260 : decode cL_law 260 = .ok (.aload_n 0, 1) := by decide +kernel
theorem dL_law_261 : decode cL_law 261 = .ok (.iload_n 3, 1) := by decide +kernel
theorem dL_law_262 : decode cL_law 262 = .ok (.iconst 3, 1) := by decide +kernel
theorem dL_law_263 : decode cL_law 263 = .ok (.iadd, 1) := by decide +kernel
theorem dL_law_264 : decode cL_law 264 = .ok (.iaload, 1) := by decide +kernel
theorem dL_law_265 : decode cL_law 265 = .ok (.aload_n 0, 1) := by decide +kernel
theorem dL_law_266 : decode cL_law 266 = .ok (.iload_n 3, 1) := by decide +kernel
theorem dL_law_267 : decode cL_law 267 = .ok (.iconst 4, 1) := by decide +kernel
theorem dL_law_268 : decode cL_law 268 = .ok (.iadd, 1) := by decide +kernel
theorem dL_law_269 : decode cL_law 269 = .ok (.iaload, 1) := by decide +kernel
theorem dL_law_270 : decode cL_law 270 = .ok (.invokevirtual 31, 3) := by decide +kernel
theorem dL_law_273 : decode cL_law 273 = .ok (.if_icmp .eq 757, 3) := by decide +kernel
theorem dL_law_276 : decode cL_law 276 = .ok (.iconst 0, 1) := by decide +kernel
theorem dL_law_277 : decode cL_law 277 = .ok (.ireturn, 1) := by decide +kernel
theorem dL_law_278 : decode cL_law 278 = .ok (.aload_n 1, 1) := by decide +kernel
theorem dL_law_279 : decode cL_law 279 = .ok (.aload_n 0, 1) := by decide +kernel
theorem dL_law_280 : decode cL_law 280 = .ok (.iload_n 3, 1) := by decide +kernel
theorem dL_law_281 : decode cL_law 281 = .ok (.iconst 1, 1) := by decide +kernel
theorem dL_law_282 : decode cL_law 282 = .ok (.iadd, 1) := by decide +kernel
theorem dL_law_283 : decode cL_law 283 = .ok (.iaload, 1) := by decide +kernel
theorem dL_law_284 : decode cL_law 284 = .ok (.invokevirtual 32, 3) := by decide +kernel
theorem dL_law_287 : decode cL_law 287 = .ok (.aload_n 2, 1) := by decide +kernel
theorem dL_law_288 : decode cL_law 288 = .ok (.aload_n 0, 1) := by decide +kernel
theorem dL_law_289 : decode cL_law 289 = .ok (.iload_n 3, 1) := by decide +kernel
theorem dL_law_290 : decode cL_law 290 = .ok (.iconst 1, 1) := by decide +kernel
theorem dL_law_291 : decode cL_law 291 = .ok (.iadd, 1) := by decide +kernel
theorem dL_law_292 : decode cL_law 292 = .ok (.iaload, 1) := by decide +kernel
theorem dL_law_293 : decode cL_law 293 = .ok (.invokevirtual 35, 3) := by decide +kernel
theorem dL_law_296 : decode cL_law 296 = .ok (.if_icmp .eq 734, 3) := by decide +kernel
theorem dL_law_299 : decode cL_law 299 = .ok (.iconst 0, 1) := by decide +kernel
theorem dL_law_300 : decode cL_law 300 = .ok (.ireturn, 1) := by decide +kernel
theorem dL_law_301 : decode cL_law 301 = .ok (.aload_n 1, 1) := by decide +kernel
theorem dL_law_302 : decode cL_law 302 = .ok (.aload_n 0, 1) := by decide +kernel
theorem dL_law_303 : decode cL_law 303 = .ok (.iload_n 3, 1) := by decide +kernel
theorem dL_law_304 : decode cL_law 304 = .ok (.iconst 1, 1) := by decide +kernel
theorem dL_law_305 : decode cL_law 305 = .ok (.iadd, 1) := by decide +kernel
theorem dL_law_306 : decode cL_law 306 = .ok (.iaload, 1) := by decide +kernel
theorem dL_law_307 : decode cL_law 307 = .ok (.invokevirtual 36, 3) := by decide +kernel
theorem dL_law_310 : decode cL_law 310 = .ok (.aload_n 2, 1) := by decide +kernel
theorem dL_law_311 : decode cL_law 311 = .ok (.aload_n 0, 1) := by decide +kernel
theorem dL_law_312 : decode cL_law 312 = .ok (.iload_n 3, 1) := by decide +kernel
theorem dL_law_313 : decode cL_law 313 = .ok (.iconst 1, 1) := by decide +kernel
theorem dL_law_314 : decode cL_law 314 = .ok (.iadd, 1) := by decide +kernel
theorem dL_law_315 : decode cL_law 315 = .ok (.iaload, 1) := by decide +kernel
theorem dL_law_316 : decode cL_law 316 = .ok (.invokevirtual 39, 3) := by decide +kernel
theorem dL_law_319 : decode cL_law 319 = .ok (.if_icmp .eq 711, 3) := by decide +kernel
theorem dL_law_322 : decode cL_law 322 = .ok (.iconst 0, 1) := by decide +kernel
theorem dL_law_323 : decode cL_law 323 = .ok (.ireturn, 1) := by decide +kernel
theorem dL_law_324 : decode cL_law 324 = .ok (.aload_n 1, 1) := by decide +kernel
theorem dL_law_325 : decode cL_law 325 = .ok (.aload_n 0, 1) := by decide +kernel
theorem dL_law_326 : decode cL_law 326 = .ok (.iload_n 3, 1) := by decide +kernel
theorem dL_law_327 : decode cL_law 327 = .ok (.iconst 1, 1) := by decide +kernel
theorem dL_law_328 : decode cL_law 328 = .ok (.iadd, 1) := by decide +kernel
theorem dL_law_329 : decode cL_law 329 = .ok (.iaload, 1) := by decide +kernel
theorem dL_law_330 : decode cL_law 330 = .ok (.aload_n 0, 1) := by decide +kernel
theorem dL_law_331 : decode cL_law 331 = .ok (.iload_n 3, 1) := by decide +kernel
theorem dL_law_332 : decode cL_law 332 = .ok (.iconst 2, 1) := by decide +kernel
theorem dL_law_333 : decode cL_law 333 = .ok (.iadd, 1) := by decide +kernel
theorem dL_law_334 : decode cL_law 334 = .ok (.iaload, 1) := by decide +kernel
theorem dL_law_335 : decode cL_law 335 = .ok (.invokevirtual 40, 3) := by decide +kernel
theorem dL_law_338 : decode cL_law 338 = .ok (.aload_n 2, 1) := by decide +kernel
theorem dL_law_339 : decode cL_law 339 = .ok (.aload_n 0, 1) := by decide +kernel
theorem dL_law_340 : decode cL_law 340 = .ok (.iload_n 3, 1) := by decide +kernel
theorem dL_law_341 : decode cL_law 341 = .ok (.iconst 1, 1) := by decide +kernel
theorem dL_law_342 : decode cL_law 342 = .ok (.iadd, 1) := by decide +kernel
theorem dL_law_343 : decode cL_law 343 = .ok (.iaload, 1) := by decide +kernel
theorem dL_law_344 : decode cL_law 344 = .ok (.aload_n 0, 1) := by decide +kernel
theorem dL_law_345 : decode cL_law 345 = .ok (.iload_n 3, 1) := by decide +kernel
theorem dL_law_346 : decode cL_law 346 = .ok (.iconst 2, 1) := by decide +kernel
theorem dL_law_347 : decode cL_law 347 = .ok (.iadd, 1) := by decide +kernel
theorem dL_law_348 : decode cL_law 348 = .ok (.iaload, 1) := by decide +kernel
theorem dL_law_349 : decode cL_law 349 = .ok (.invokevirtual 44, 3) := by decide +kernel
theorem dL_law_352 : decode cL_law 352 = .ok (.if_icmp .eq 678, 3) := by decide +kernel
theorem dL_law_355 : decode cL_law 355 = .ok (.iconst 0, 1) := by decide +kernel
theorem dL_law_356 : decode cL_law 356 = .ok (.ireturn, 1) := by decide +kernel
theorem dL_law_357 : decode cL_law 357 = .ok (.aload_n 1, 1) := by decide +kernel
theorem dL_law_358 : decode cL_law 358 = .ok (.aload_n 0, 1) := by decide +kernel
theorem dL_law_359 : decode cL_law 359 = .ok (.iload_n 3, 1) := by decide +kernel
theorem dL_law_360 : decode cL_law 360 = .ok (.iconst 1, 1) := by decide +kernel
theorem dL_law_361 : decode cL_law 361 = .ok (.iadd, 1) := by decide +kernel
theorem dL_law_362 : decode cL_law 362 = .ok (.iaload, 1) := by decide +kernel
theorem dL_law_363 : decode cL_law 363 = .ok (.aload_n 0, 1) := by decide +kernel
theorem dL_law_364 : decode cL_law 364 = .ok (.iload_n 3, 1) := by decide +kernel
theorem dL_law_365 : decode cL_law 365 = .ok (.iconst 2, 1) := by decide +kernel
theorem dL_law_366 : decode cL_law 366 = .ok (.iadd, 1) := by decide +kernel
theorem dL_law_367 : decode cL_law 367 = .ok (.iaload, 1) := by decide +kernel
theorem dL_law_368 : decode cL_law 368 = .ok (.aload_n 0, 1) := by decide +kernel
theorem dL_law_369 : decode cL_law 369 = .ok (.iload_n 3, 1) := by decide +kernel
theorem dL_law_370 : decode cL_law 370 = .ok (.iconst 3, 1) := by decide +kernel
theorem dL_law_371 : decode cL_law 371 = .ok (.iadd, 1) := by decide +kernel
theorem dL_law_372 : decode cL_law 372 = .ok (.iaload, 1) := by decide +kernel
theorem dL_law_373 : decode cL_law 373 = .ok (.invokevirtual 45, 3) := by decide +kernel
theorem dL_law_376 : decode cL_law 376 = .ok (.aload_n 2, 1) := by decide +kernel
theorem dL_law_377 : decode cL_law 377 = .ok (.aload_n 0, 1) := by decide +kernel
theorem dL_law_378 : decode cL_law 378 = .ok (.iload_n 3, 1) := by decide +kernel
theorem dL_law_379 : decode cL_law 379 = .ok (.iconst 1, 1) := by decide +kernel
theorem dL_law_380 : decode cL_law 380 = .ok (.iadd, 1) := by decide +kernel
theorem dL_law_381 : decode cL_law 381 = .ok (.iaload, 1) := by decide +kernel
theorem dL_law_382 : decode cL_law 382 = .ok (.aload_n 0, 1) := by decide +kernel
theorem dL_law_383 : decode cL_law 383 = .ok (.iload_n 3, 1) := by decide +kernel
theorem dL_law_384 : decode cL_law 384 = .ok (.iconst 2, 1) := by decide +kernel
theorem dL_law_385 : decode cL_law 385 = .ok (.iadd, 1) := by decide +kernel
theorem dL_law_386 : decode cL_law 386 = .ok (.iaload, 1) := by decide +kernel
theorem dL_law_387 : decode cL_law 387 = .ok (.aload_n 0, 1) := by decide +kernel
theorem dL_law_388 : decode cL_law 388 = .ok (.iload_n 3, 1) := by decide +kernel
theorem dL_law_389 : decode cL_law 389 = .ok (.iconst 3, 1) := by decide +kernel
theorem dL_law_390 : decode cL_law 390 = .ok (.iadd, 1) := by decide +kernel
theorem dL_law_391 : decode cL_law 391 = .ok (.iaload, 1) := by decide +kernel
theorem dL_law_392 : decode cL_law 392 = .ok (.invokevirtual 49, 3) := by decide +kernel
theorem dL_law_395 : decode cL_law 395 = .ok (.if_icmp .eq 635, 3) := by decide +kernel
theorem dL_law_398 : decode cL_law 398 = .ok (.iconst 0, 1) := by decide +kernel
theorem dL_law_399 : decode cL_law 399 = .ok (.ireturn, 1) := by decide +kernel
theorem dL_law_400 : decode cL_law 400 = .ok (.aload_n 1, 1) := by decide +kernel
theorem dL_law_401 : decode cL_law 401 = .ok (.aload_n 0, 1) := by decide +kernel
theorem dL_law_402 : decode cL_law 402 = .ok (.iload_n 3, 1) := by decide +kernel
theorem dL_law_403 : decode cL_law 403 = .ok (.iconst 1, 1) := by decide +kernel
theorem dL_law_404 : decode cL_law 404 = .ok (.iadd, 1) := by decide +kernel
theorem dL_law_405 : decode cL_law 405 = .ok (.iaload, 1) := by decide +kernel
theorem dL_law_406 : decode cL_law 406 = .ok (.aload_n 0, 1) := by decide +kernel
theorem dL_law_407 : decode cL_law 407 = .ok (.iload_n 3, 1) := by decide +kernel
theorem dL_law_408 : decode cL_law 408 = .ok (.iconst 2, 1) := by decide +kernel
theorem dL_law_409 : decode cL_law 409 = .ok (.iadd, 1) := by decide +kernel
theorem dL_law_410 : decode cL_law 410 = .ok (.iaload, 1) := by decide +kernel
theorem dL_law_411 : decode cL_law 411 = .ok (.invokevirtual 50, 3) := by decide +kernel
theorem dL_law_414 : decode cL_law 414 = .ok (.aload_n 2, 1) := by decide +kernel
theorem dL_law_415 : decode cL_law 415 = .ok (.aload_n 0, 1) := by decide +kernel
theorem dL_law_416 : decode cL_law 416 = .ok (.iload_n 3, 1) := by decide +kernel
theorem dL_law_417 : decode cL_law 417 = .ok (.iconst 1, 1) := by decide +kernel
theorem dL_law_418 : decode cL_law 418 = .ok (.iadd, 1) := by decide +kernel
theorem dL_law_419 : decode cL_law 419 = .ok (.iaload, 1) := by decide +kernel
theorem dL_law_420 : decode cL_law 420 = .ok (.aload_n 0, 1) := by decide +kernel
theorem dL_law_421 : decode cL_law 421 = .ok (.iload_n 3, 1) := by decide +kernel
theorem dL_law_422 : decode cL_law 422 = .ok (.iconst 2, 1) := by decide +kernel
theorem dL_law_423 : decode cL_law 423 = .ok (.iadd, 1) := by decide +kernel
theorem dL_law_424 : decode cL_law 424 = .ok (.iaload, 1) := by decide +kernel
theorem dL_law_425 : decode cL_law 425 = .ok (.invokevirtual 53, 3) := by decide +kernel
theorem dL_law_428 : decode cL_law 428 = .ok (.if_icmp .eq 602, 3) := by decide +kernel
theorem dL_law_431 : decode cL_law 431 = .ok (.iconst 0, 1) := by decide +kernel
theorem dL_law_432 : decode cL_law 432 = .ok (.ireturn, 1) := by decide +kernel
theorem dL_law_433 : decode cL_law 433 = .ok (.aload_n 1, 1) := by decide +kernel
theorem dL_law_434 : decode cL_law 434 = .ok (.invokevirtual 54, 3) := by decide +kernel
theorem dL_law_437 : decode cL_law 437 = .ok (.aload_n 2, 1) := by decide +kernel
theorem dL_law_438 : decode cL_law 438 = .ok (.invokevirtual 57, 3) := by decide +kernel
theorem dL_law_441 : decode cL_law 441 = .ok (.if_icmp .eq 589, 3) := by decide +kernel
theorem dL_law_444 : decode cL_law 444 = .ok (.iconst 0, 1) := by decide +kernel
theorem dL_law_445 : decode cL_law 445 = .ok (.ireturn, 1) := by decide +kernel
theorem dL_law_446 : decode cL_law 446 = .ok (.aload_n 1, 1) := by decide +kernel
theorem dL_law_447 : decode cL_law 447 = .ok (.aload_n 0, 1) := by decide +kernel
theorem dL_law_448 : decode cL_law 448 = .ok (.iload_n 3, 1) := by decide +kernel
theorem dL_law_449 : decode cL_law 449 = .ok (.iconst 1, 1) := by decide +kernel
theorem dL_law_450 : decode cL_law 450 = .ok (.iadd, 1) := by decide +kernel
theorem dL_law_451 : decode cL_law 451 = .ok (.iaload, 1) := by decide +kernel
theorem dL_law_452 : decode cL_law 452 = .ok (.aload_n 0, 1) := by decide +kernel
theorem dL_law_453 : decode cL_law 453 = .ok (.iload_n 3, 1) := by decide +kernel
theorem dL_law_454 : decode cL_law 454 = .ok (.iconst 2, 1) := by decide +kernel
theorem dL_law_455 : decode cL_law 455 = .ok (.iadd, 1) := by decide +kernel
theorem dL_law_456 : decode cL_law 456 = .ok (.iaload, 1) := by decide +kernel
theorem dL_law_457 : decode cL_law 457 = .ok (.invokevirtual 58, 3) := by decide +kernel
theorem dL_law_460 : decode cL_law 460 = .ok (.aload_n 2, 1) := by decide +kernel
theorem dL_law_461 : decode cL_law 461 = .ok (.aload_n 0, 1) := by decide +kernel
theorem dL_law_462 : decode cL_law 462 = .ok (.iload_n 3, 1) := by decide +kernel
theorem dL_law_463 : decode cL_law 463 = .ok (.iconst 1, 1) := by decide +kernel
theorem dL_law_464 : decode cL_law 464 = .ok (.iadd, 1) := by decide +kernel
theorem dL_law_465 : decode cL_law 465 = .ok (.iaload, 1) := by decide +kernel
theorem dL_law_466 : decode cL_law 466 = .ok (.aload_n 0, 1) := by decide +kernel
theorem dL_law_467 : decode cL_law 467 = .ok (.iload_n 3, 1) := by decide +kernel
theorem dL_law_468 : decode cL_law 468 = .ok (.iconst 2, 1) := by decide +kernel
theorem dL_law_469 : decode cL_law 469 = .ok (.iadd, 1) := by decide +kernel
theorem dL_law_470 : decode cL_law 470 = .ok (.iaload, 1) := by decide +kernel
theorem dL_law_471 : decode cL_law 471 = .ok (.invokevirtual 62, 3) := by decide +kernel
theorem dL_law_474 : decode cL_law 474 = .ok (.lcmp, 1) := by decide +kernel
theorem dL_law_475 : decode cL_law 475 = .ok (.ifCond .eq 555, 3) := by decide +kernel
theorem dL_law_478 : decode cL_law 478 = .ok (.iconst 0, 1) := by decide +kernel
theorem dL_law_479 : decode cL_law 479 = .ok (.ireturn, 1) := by decide +kernel
theorem dL_law_480 : decode cL_law 480 = .ok (.aload_n 1, 1) := by decide +kernel
theorem dL_law_481 : decode cL_law 481 = .ok (.aload_n 0, 1) := by decide +kernel
theorem dL_law_482 : decode cL_law 482 = .ok (.iload_n 3, 1) := by decide +kernel
theorem dL_law_483 : decode cL_law 483 = .ok (.iconst 1, 1) := by decide +kernel
theorem dL_law_484 : decode cL_law 484 = .ok (.iadd, 1) := by decide +kernel
theorem dL_law_485 : decode cL_law 485 = .ok (.iaload, 1) := by decide +kernel
theorem dL_law_486 : decode cL_law 486 = .ok (.aload_n 0, 1) := by decide +kernel
theorem dL_law_487 : decode cL_law 487 = .ok (.iload_n 3, 1) := by decide +kernel
theorem dL_law_488 : decode cL_law 488 = .ok (.iconst 2, 1) := by decide +kernel
theorem dL_law_489 : decode cL_law 489 = .ok (.iadd, 1) := by decide +kernel
theorem dL_law_490 : decode cL_law 490 = .ok (.iaload, 1) := by decide +kernel
theorem dL_law_491 : decode cL_law 491 = .ok (.invokevirtual 63, 3) := by decide +kernel
theorem dL_law_494 : decode cL_law 494 = .ok (.aload_n 2, 1) := by decide +kernel
theorem dL_law_495 : decode cL_law 495 = .ok (.aload_n 0, 1) := by decide +kernel
theorem dL_law_496 : decode cL_law 496 = .ok (.iload_n 3, 1) := by decide +kernel
theorem dL_law_497 : decode cL_law 497 = .ok (.iconst 1, 1) := by decide +kernel
theorem dL_law_498 : decode cL_law 498 = .ok (.iadd, 1) := by decide +kernel
theorem dL_law_499 : decode cL_law 499 = .ok (.iaload, 1) := by decide +kernel
theorem dL_law_500 : decode cL_law 500 = .ok (.aload_n 0, 1) := by decide +kernel
theorem dL_law_501 : decode cL_law 501 = .ok (.iload_n 3, 1) := by decide +kernel
theorem dL_law_502 : decode cL_law 502 = .ok (.iconst 2, 1) := by decide +kernel
theorem dL_law_503 : decode cL_law 503 = .ok (.iadd, 1) := by decide +kernel
theorem dL_law_504 : decode cL_law 504 = .ok (.iaload, 1) := by decide +kernel
theorem dL_law_505 : decode cL_law 505 = .ok (.invokevirtual 66, 3) := by decide +kernel
theorem dL_law_508 : decode cL_law 508 = .ok (.lcmp, 1) := by decide +kernel
theorem dL_law_509 : decode cL_law 509 = .ok (.ifCond .eq 521, 3) := by decide +kernel
theorem dL_law_512 : decode cL_law 512 = .ok (.iconst 0, 1) := by decide +kernel
theorem dL_law_513 : decode cL_law 513 = .ok (.ireturn, 1) := by decide +kernel
theorem dL_law_514 : decode cL_law 514 = .ok (.aload_n 1, 1) := by decide +kernel
theorem dL_law_515 : decode cL_law 515 = .ok (.aload_n 0, 1) := by decide +kernel
theorem dL_law_516 : decode cL_law 516 = .ok (.iload_n 3, 1) := by decide +kernel
theorem dL_law_517 : decode cL_law 517 = .ok (.iconst 1, 1) := by decide +kernel
theorem dL_law_518 : decode cL_law 518 = .ok (.iadd, 1) := by decide +kernel
theorem dL_law_519 : decode cL_law 519 = .ok (.iaload, 1) := by decide +kernel
theorem dL_law_520 : decode cL_law 520 = .ok (.invokevirtual 67, 3) := by decide +kernel
theorem dL_law_523 : decode cL_law 523 = .ok (.aload_n 2, 1) := by decide +kernel
theorem dL_law_524 : decode cL_law 524 = .ok (.aload_n 0, 1) := by decide +kernel
theorem dL_law_525 : decode cL_law 525 = .ok (.iload_n 3, 1) := by decide +kernel
theorem dL_law_526 : decode cL_law 526 = .ok (.iconst 1, 1) := by decide +kernel
theorem dL_law_527 : decode cL_law 527 = .ok (.iadd, 1) := by decide +kernel
theorem dL_law_528 : decode cL_law 528 = .ok (.iaload, 1) := by decide +kernel
theorem dL_law_529 : decode cL_law 529 = .ok (.invokevirtual 71, 3) := by decide +kernel
theorem dL_law_532 : decode cL_law 532 = .ok (.lcmp, 1) := by decide +kernel
theorem dL_law_533 : decode cL_law 533 = .ok (.ifCond .eq 497, 3) := by decide +kernel
theorem dL_law_536 : decode cL_law 536 = .ok (.iconst 0, 1) := by decide +kernel
theorem dL_law_537 : decode cL_law 537 = .ok (.ireturn, 1) := by decide +kernel
theorem dL_law_538 : decode cL_law 538 = .ok (.aload_n 1, 1) := by decide +kernel
theorem dL_law_539 : decode cL_law 539 = .ok (.aload_n 0, 1) := by decide +kernel
theorem dL_law_540 : decode cL_law 540 = .ok (.iload_n 3, 1) := by decide +kernel
theorem dL_law_541 : decode cL_law 541 = .ok (.iconst 1, 1) := by decide +kernel
theorem dL_law_542 : decode cL_law 542 = .ok (.iadd, 1) := by decide +kernel
theorem dL_law_543 : decode cL_law 543 = .ok (.iaload, 1) := by decide +kernel
theorem dL_law_544 : decode cL_law 544 = .ok (.invokevirtual 72, 3) := by decide +kernel
theorem dL_law_547 : decode cL_law 547 = .ok (.aload_n 2, 1) := by decide +kernel
theorem dL_law_548 : decode cL_law 548 = .ok (.aload_n 0, 1) := by decide +kernel
theorem dL_law_549 : decode cL_law 549 = .ok (.iload_n 3, 1) := by decide +kernel
theorem dL_law_550 : decode cL_law 550 = .ok (.iconst 1, 1) := by decide +kernel
theorem dL_law_551 : decode cL_law 551 = .ok (.iadd, 1) := by decide +kernel
theorem dL_law_552 : decode cL_law 552 = .ok (.iaload, 1) := by decide +kernel
theorem dL_law_553 : decode cL_law 553 = .ok (.invokevirtual 75, 3) := by decide +kernel
theorem dL_law_556 : decode cL_law 556 = .ok (.if_icmp .eq 474, 3) := by decide +kernel
theorem dL_law_559 : decode cL_law 559 = .ok (.iconst 0, 1) := by decide +kernel
theorem dL_law_560 : decode cL_law 560 = .ok (.ireturn, 1) := by decide +kernel
theorem dL_law_561 : decode cL_law 561 = .ok (.aload_n 1, 1) := by decide +kernel
theorem dL_law_562 : decode cL_law 562 = .ok (.aload_n 0, 1) := by decide +kernel
theorem dL_law_563 : decode cL_law 563 = .ok (.iload_n 3, 1) := by decide +kernel
theorem dL_law_564 : decode cL_law 564 = .ok (.iconst 1, 1) := by decide +kernel
theorem dL_law_565 : decode cL_law 565 = .ok (.iadd, 1) := by decide +kernel
theorem dL_law_566 : decode cL_law 566 = .ok (.iaload, 1) := by decide +kernel
theorem dL_law_567 : decode cL_law 567 = .ok (.aload_n 0, 1) := by decide +kernel
theorem dL_law_568 : decode cL_law 568 = .ok (.iload_n 3, 1) := by decide +kernel
theorem dL_law_569 : decode cL_law 569 = .ok (.iconst 2, 1) := by decide +kernel
theorem dL_law_570 : decode cL_law 570 = .ok (.iadd, 1) := by decide +kernel
theorem dL_law_571 : decode cL_law 571 = .ok (.iaload, 1) := by decide +kernel
theorem dL_law_572 : decode cL_law 572 = .ok (.invokevirtual 76, 3) := by decide +kernel
theorem dL_law_575 : decode cL_law 575 = .ok (.aload_n 2, 1) := by decide +kernel
theorem dL_law_576 : decode cL_law 576 = .ok (.aload_n 0, 1) := by decide +kernel
theorem dL_law_577 : decode cL_law 577 = .ok (.iload_n 3, 1) := by decide +kernel
theorem dL_law_578 : decode cL_law 578 = .ok (.iconst 1, 1) := by decide +kernel
theorem dL_law_579 : decode cL_law 579 = .ok (.iadd, 1) := by decide +kernel
theorem dL_law_580 : decode cL_law 580 = .ok (.iaload, 1) := by decide +kernel
theorem dL_law_581 : decode cL_law 581 = .ok (.aload_n 0, 1) := by decide +kernel
theorem dL_law_582 : decode cL_law 582 = .ok (.iload_n 3, 1) := by decide +kernel
theorem dL_law_583 : decode cL_law 583 = .ok (.iconst 2, 1) := by decide +kernel
theorem dL_law_584 : decode cL_law 584 = .ok (.iadd, 1) := by decide +kernel
theorem dL_law_585 : decode cL_law 585 = .ok (.iaload, 1) := by decide +kernel
theorem dL_law_586 : decode cL_law 586 = .ok (.invokevirtual 79, 3) := by decide +kernel
theorem dL_law_589 : decode cL_law 589 = .ok (.lcmp, 1) := by decide +kernel
theorem dL_law_590 : decode cL_law 590 = .ok (.ifCond .eq 440, 3) := by decide +kernel
theorem dL_law_593 : decode cL_law 593 = .ok (.iconst 0, 1) := by decide +kernel
theorem dL_law_594 : decode cL_law 594 = .ok (.ireturn, 1) := by decide +kernel
theorem dL_law_595 : decode cL_law 595 = .ok (.aload_n 1, 1) := by decide +kernel
theorem dL_law_596 : decode cL_law 596 = .ok (.aload_n 0, 1) := by decide +kernel
theorem dL_law_597 : decode cL_law 597 = .ok (.iload_n 3, 1) := by decide +kernel
theorem dL_law_598 : decode cL_law 598 = .ok (.iconst 1, 1) := by decide +kernel
theorem dL_law_599 : decode cL_law 599 = .ok (.iadd, 1) := by decide +kernel
theorem dL_law_600 : decode cL_law 600 = .ok (.iaload, 1) := by decide +kernel
theorem dL_law_601 : decode cL_law 601 = .ok (.aload_n 0, 1) := by decide +kernel
theorem dL_law_602 : decode cL_law 602 = .ok (.iload_n 3, 1) := by decide +kernel
theorem dL_law_603 : decode cL_law 603 = .ok (.iconst 2, 1) := by decide +kernel
theorem dL_law_604 : decode cL_law 604 = .ok (.iadd, 1) := by decide +kernel
theorem dL_law_605 : decode cL_law 605 = .ok (.iaload, 1) := by decide +kernel
theorem dL_law_606 : decode cL_law 606 = .ok (.aload_n 0, 1) := by decide +kernel
theorem dL_law_607 : decode cL_law 607 = .ok (.iload_n 3, 1) := by decide +kernel
theorem dL_law_608 : decode cL_law 608 = .ok (.iconst 3, 1) := by decide +kernel
theorem dL_law_609 : decode cL_law 609 = .ok (.iadd, 1) := by decide +kernel
theorem dL_law_610 : decode cL_law 610 = .ok (.iaload, 1) := by decide +kernel
theorem dL_law_611 : decode cL_law 611 = .ok (.invokevirtual 80, 3) := by decide +kernel
theorem dL_law_614 : decode cL_law 614 = .ok (.aload_n 2, 1) := by decide +kernel
theorem dL_law_615 : decode cL_law 615 = .ok (.aload_n 0, 1) := by decide +kernel
theorem dL_law_616 : decode cL_law 616 = .ok (.iload_n 3, 1) := by decide +kernel
theorem dL_law_617 : decode cL_law 617 = .ok (.iconst 1, 1) := by decide +kernel
theorem dL_law_618 : decode cL_law 618 = .ok (.iadd, 1) := by decide +kernel
theorem dL_law_619 : decode cL_law 619 = .ok (.iaload, 1) := by decide +kernel
theorem dL_law_620 : decode cL_law 620 = .ok (.aload_n 0, 1) := by decide +kernel
theorem dL_law_621 : decode cL_law 621 = .ok (.iload_n 3, 1) := by decide +kernel
theorem dL_law_622 : decode cL_law 622 = .ok (.iconst 2, 1) := by decide +kernel
theorem dL_law_623 : decode cL_law 623 = .ok (.iadd, 1) := by decide +kernel
theorem dL_law_624 : decode cL_law 624 = .ok (.iaload, 1) := by decide +kernel
theorem dL_law_625 : decode cL_law 625 = .ok (.aload_n 0, 1) := by decide +kernel
theorem dL_law_626 : decode cL_law 626 = .ok (.iload_n 3, 1) := by decide +kernel
theorem dL_law_627 : decode cL_law 627 = .ok (.iconst 3, 1) := by decide +kernel
theorem dL_law_628 : decode cL_law 628 = .ok (.iadd, 1) := by decide +kernel
theorem dL_law_629 : decode cL_law 629 = .ok (.iaload, 1) := by decide +kernel
theorem dL_law_630 : decode cL_law 630 = .ok (.invokevirtual 84, 3) := by decide +kernel
theorem dL_law_633 : decode cL_law 633 = .ok (.lcmp, 1) := by decide +kernel
theorem dL_law_634 : decode cL_law 634 = .ok (.ifCond .eq 396, 3) := by decide +kernel
theorem dL_law_637 : decode cL_law 637 = .ok (.iconst 0, 1) := by decide +kernel
theorem dL_law_638 : decode cL_law 638 = .ok (.ireturn, 1) := by decide +kernel
theorem dL_law_639 : decode cL_law 639 = .ok (.aload_n 1, 1) := by decide +kernel
theorem dL_law_640 : decode cL_law 640 = .ok (.aload_n 0, 1) := by decide +kernel
theorem dL_law_641 : decode cL_law 641 = .ok (.iload_n 3, 1) := by decide +kernel
theorem dL_law_642 : decode cL_law 642 = .ok (.iconst 1, 1) := by decide +kernel
theorem dL_law_643 : decode cL_law 643 = .ok (.iadd, 1) := by decide +kernel
theorem dL_law_644 : decode cL_law 644 = .ok (.iaload, 1) := by decide +kernel
theorem dL_law_645 : decode cL_law 645 = .ok (.invokevirtual 85, 3) := by decide +kernel
theorem dL_law_648 : decode cL_law 648 = .ok (.aload_n 2, 1) := by decide +kernel
theorem dL_law_649 : decode cL_law 649 = .ok (.aload_n 0, 1) := by decide +kernel
theorem dL_law_650 : decode cL_law 650 = .ok (.iload_n 3, 1) := by decide +kernel
theorem dL_law_651 : decode cL_law 651 = .ok (.iconst 1, 1) := by decide +kernel
theorem dL_law_652 : decode cL_law 652 = .ok (.iadd, 1) := by decide +kernel
theorem dL_law_653 : decode cL_law 653 = .ok (.iaload, 1) := by decide +kernel
theorem dL_law_654 : decode cL_law 654 = .ok (.invokevirtual 88, 3) := by decide +kernel
theorem dL_law_657 : decode cL_law 657 = .ok (.lcmp, 1) := by decide +kernel
theorem dL_law_658 : decode cL_law 658 = .ok (.ifCond .eq 372, 3) := by decide +kernel
theorem dL_law_661 : decode cL_law 661 = .ok (.iconst 0, 1) := by decide +kernel
theorem dL_law_662 : decode cL_law 662 = .ok (.ireturn, 1) := by decide +kernel
theorem dL_law_663 : decode cL_law 663 = .ok (.aload_n 1, 1) := by decide +kernel
theorem dL_law_664 : decode cL_law 664 = .ok (.aload_n 0, 1) := by decide +kernel
theorem dL_law_665 : decode cL_law 665 = .ok (.iload_n 3, 1) := by decide +kernel
theorem dL_law_666 : decode cL_law 666 = .ok (.iconst 1, 1) := by decide +kernel
theorem dL_law_667 : decode cL_law 667 = .ok (.iadd, 1) := by decide +kernel
theorem dL_law_668 : decode cL_law 668 = .ok (.iaload, 1) := by decide +kernel
theorem dL_law_669 : decode cL_law 669 = .ok (.invokevirtual 89, 3) := by decide +kernel
theorem dL_law_672 : decode cL_law 672 = .ok (.aload_n 2, 1) := by decide +kernel
theorem dL_law_673 : decode cL_law 673 = .ok (.aload_n 0, 1) := by decide +kernel
theorem dL_law_674 : decode cL_law 674 = .ok (.iload_n 3, 1) := by decide +kernel
theorem dL_law_675 : decode cL_law 675 = .ok (.iconst 1, 1) := by decide +kernel
theorem dL_law_676 : decode cL_law 676 = .ok (.iadd, 1) := by decide +kernel
theorem dL_law_677 : decode cL_law 677 = .ok (.iaload, 1) := by decide +kernel
theorem dL_law_678 : decode cL_law 678 = .ok (.invokevirtual 92, 3) := by decide +kernel
theorem dL_law_681 : decode cL_law 681 = .ok (.lcmp, 1) := by decide +kernel
theorem dL_law_682 : decode cL_law 682 = .ok (.ifCond .eq 348, 3) := by decide +kernel
theorem dL_law_685 : decode cL_law 685 = .ok (.iconst 0, 1) := by decide +kernel
theorem dL_law_686 : decode cL_law 686 = .ok (.ireturn, 1) := by decide +kernel
theorem dL_law_687 : decode cL_law 687 = .ok (.aload_n 1, 1) := by decide +kernel
theorem dL_law_688 : decode cL_law 688 = .ok (.aload_n 0, 1) := by decide +kernel
theorem dL_law_689 : decode cL_law 689 = .ok (.iload_n 3, 1) := by decide +kernel
theorem dL_law_690 : decode cL_law 690 = .ok (.iconst 1, 1) := by decide +kernel
theorem dL_law_691 : decode cL_law 691 = .ok (.iadd, 1) := by decide +kernel
theorem dL_law_692 : decode cL_law 692 = .ok (.iaload, 1) := by decide +kernel
theorem dL_law_693 : decode cL_law 693 = .ok (.aload_n 0, 1) := by decide +kernel
theorem dL_law_694 : decode cL_law 694 = .ok (.iload_n 3, 1) := by decide +kernel
theorem dL_law_695 : decode cL_law 695 = .ok (.iconst 2, 1) := by decide +kernel
theorem dL_law_696 : decode cL_law 696 = .ok (.iadd, 1) := by decide +kernel
theorem dL_law_697 : decode cL_law 697 = .ok (.iaload, 1) := by decide +kernel
theorem dL_law_698 : decode cL_law 698 = .ok (.invokevirtual 93, 3) := by decide +kernel
theorem dL_law_701 : decode cL_law 701 = .ok (.aload_n 2, 1) := by decide +kernel
theorem dL_law_702 : decode cL_law 702 = .ok (.aload_n 0, 1) := by decide +kernel
theorem dL_law_703 : decode cL_law 703 = .ok (.iload_n 3, 1) := by decide +kernel
theorem dL_law_704 : decode cL_law 704 = .ok (.iconst 1, 1) := by decide +kernel
theorem dL_law_705 : decode cL_law 705 = .ok (.iadd, 1) := by decide +kernel
theorem dL_law_706 : decode cL_law 706 = .ok (.iaload, 1) := by decide +kernel
theorem dL_law_707 : decode cL_law 707 = .ok (.aload_n 0, 1) := by decide +kernel
theorem dL_law_708 : decode cL_law 708 = .ok (.iload_n 3, 1) := by decide +kernel
theorem dL_law_709 : decode cL_law 709 = .ok (.iconst 2, 1) := by decide +kernel
theorem dL_law_710 : decode cL_law 710 = .ok (.iadd, 1) := by decide +kernel
theorem dL_law_711 : decode cL_law 711 = .ok (.iaload, 1) := by decide +kernel
theorem dL_law_712 : decode cL_law 712 = .ok (.invokevirtual 96, 3) := by decide +kernel
theorem dL_law_715 : decode cL_law 715 = .ok (.if_icmp .eq 315, 3) := by decide +kernel
theorem dL_law_718 : decode cL_law 718 = .ok (.iconst 0, 1) := by decide +kernel
theorem dL_law_719 : decode cL_law 719 = .ok (.ireturn, 1) := by decide +kernel
theorem dL_law_720 : decode cL_law 720 = .ok (.aload_n 1, 1) := by decide +kernel
theorem dL_law_721 : decode cL_law 721 = .ok (.aload_n 0, 1) := by decide +kernel
theorem dL_law_722 : decode cL_law 722 = .ok (.iload_n 3, 1) := by decide +kernel
theorem dL_law_723 : decode cL_law 723 = .ok (.iconst 1, 1) := by decide +kernel
theorem dL_law_724 : decode cL_law 724 = .ok (.iadd, 1) := by decide +kernel
theorem dL_law_725 : decode cL_law 725 = .ok (.iaload, 1) := by decide +kernel
theorem dL_law_726 : decode cL_law 726 = .ok (.invokevirtual 97, 3) := by decide +kernel
theorem dL_law_729 : decode cL_law 729 = .ok (.aload_n 2, 1) := by decide +kernel
theorem dL_law_730 : decode cL_law 730 = .ok (.aload_n 0, 1) := by decide +kernel
theorem dL_law_731 : decode cL_law 731 = .ok (.iload_n 3, 1) := by decide +kernel
theorem dL_law_732 : decode cL_law 732 = .ok (.iconst 1, 1) := by decide +kernel
theorem dL_law_733 : decode cL_law 733 = .ok (.iadd, 1) := by decide +kernel
theorem dL_law_734 : decode cL_law 734 = .ok (.iaload, 1) := by decide +kernel
theorem dL_law_735 : decode cL_law 735 = .ok (.invokevirtual 100, 3) := by decide +kernel
theorem dL_law_738 : decode cL_law 738 = .ok (.if_icmp .eq 292, 3) := by decide +kernel
theorem dL_law_741 : decode cL_law 741 = .ok (.iconst 0, 1) := by decide +kernel
theorem dL_law_742 : decode cL_law 742 = .ok (.ireturn, 1) := by decide +kernel
theorem dL_law_743 : decode cL_law 743 = .ok (.aload_n 1, 1) := by decide +kernel
theorem dL_law_744 : decode cL_law 744 = .ok (.aload_n 0, 1) := by decide +kernel
theorem dL_law_745 : decode cL_law 745 = .ok (.iload_n 3, 1) := by decide +kernel
theorem dL_law_746 : decode cL_law 746 = .ok (.iconst 1, 1) := by decide +kernel
theorem dL_law_747 : decode cL_law 747 = .ok (.iadd, 1) := by decide +kernel
theorem dL_law_748 : decode cL_law 748 = .ok (.iaload, 1) := by decide +kernel
theorem dL_law_749 : decode cL_law 749 = .ok (.aload_n 0, 1) := by decide +kernel
theorem dL_law_750 : decode cL_law 750 = .ok (.iload_n 3, 1) := by decide +kernel
theorem dL_law_751 : decode cL_law 751 = .ok (.iconst 2, 1) := by decide +kernel
theorem dL_law_752 : decode cL_law 752 = .ok (.iadd, 1) := by decide +kernel
theorem dL_law_753 : decode cL_law 753 = .ok (.iaload, 1) := by decide +kernel
theorem dL_law_754 : decode cL_law 754 = .ok (.invokevirtual 101, 3) := by decide +kernel
theorem dL_law_757 : decode cL_law 757 = .ok (.aload_n 2, 1) := by decide +kernel
theorem dL_law_758 : decode cL_law 758 = .ok (.aload_n 0, 1) := by decide +kernel
theorem dL_law_759 : decode cL_law 759 = .ok (.iload_n 3, 1) := by decide +kernel
theorem dL_law_760 : decode cL_law 760 = .ok (.iconst 1, 1) := by decide +kernel
theorem dL_law_761 : decode cL_law 761 = .ok (.iadd, 1) := by decide +kernel
theorem dL_law_762 : decode cL_law 762 = .ok (.iaload, 1) := by decide +kernel
theorem dL_law_763 : decode cL_law 763 = .ok (.aload_n 0, 1) := by decide +kernel
theorem dL_law_764 : decode cL_law 764 = .ok (.iload_n 3, 1) := by decide +kernel
theorem dL_law_765 : decode cL_law 765 = .ok (.iconst 2, 1) := by decide +kernel
theorem dL_law_766 : decode cL_law 766 = .ok (.iadd, 1) := by decide +kernel
theorem dL_law_767 : decode cL_law 767 = .ok (.iaload, 1) := by decide +kernel
theorem dL_law_768 : decode cL_law 768 = .ok (.invokevirtual 104, 3) := by decide +kernel
theorem dL_law_771 : decode cL_law 771 = .ok (.lcmp, 1) := by decide +kernel
theorem dL_law_772 : decode cL_law 772 = .ok (.ifCond .eq 258, 3) := by decide +kernel
theorem dL_law_775 : decode cL_law 775 = .ok (.iconst 0, 1) := by decide +kernel
theorem dL_law_776 : decode cL_law 776 = .ok (.ireturn, 1) := by decide +kernel
theorem dL_law_777 : decode cL_law 777 = .ok (.aload_n 1, 1) := by decide +kernel
theorem dL_law_778 : decode cL_law 778 = .ok (.invokevirtual 105, 3) := by decide +kernel
theorem dL_law_781 : decode cL_law 781 = .ok (.aload_n 2, 1) := by decide +kernel
theorem dL_law_782 : decode cL_law 782 = .ok (.invokevirtual 108, 3) := by decide +kernel
theorem dL_law_785 : decode cL_law 785 = .ok (.if_icmp .eq 245, 3) := by decide +kernel
theorem dL_law_788 : decode cL_law 788 = .ok (.iconst 0, 1) := by decide +kernel
theorem dL_law_789 : decode cL_law 789 = .ok (.ireturn, 1) := by decide +kernel
theorem dL_law_790 : decode cL_law 790 = .ok (.aload_n 1, 1) := by decide +kernel
theorem dL_law_791 : decode cL_law 791 = .ok (.aload_n 0, 1) := by decide +kernel
theorem dL_law_792 : decode cL_law 792 = .ok (.iload_n 3, 1) := by decide +kernel
theorem dL_law_793 : decode cL_law 793 = .ok (.iconst 1, 1) := by decide +kernel
theorem dL_law_794 : decode cL_law 794 = .ok (.iadd, 1) := by decide +kernel
theorem dL_law_795 : decode cL_law 795 = .ok (.iaload, 1) := by decide +kernel
theorem dL_law_796 : decode cL_law 796 = .ok (.aload_n 0, 1) := by decide +kernel
theorem dL_law_797 : decode cL_law 797 = .ok (.iload_n 3, 1) := by decide +kernel
theorem dL_law_798 : decode cL_law 798 = .ok (.iconst 2, 1) := by decide +kernel
theorem dL_law_799 : decode cL_law 799 = .ok (.iadd, 1) := by decide +kernel
theorem dL_law_800 : decode cL_law 800 = .ok (.iaload, 1) := by decide +kernel
theorem dL_law_801 : decode cL_law 801 = .ok (.invokevirtual 109, 3) := by decide +kernel
theorem dL_law_804 : decode cL_law 804 = .ok (.aload_n 2, 1) := by decide +kernel
theorem dL_law_805 : decode cL_law 805 = .ok (.aload_n 0, 1) := by decide +kernel
theorem dL_law_806 : decode cL_law 806 = .ok (.iload_n 3, 1) := by decide +kernel
theorem dL_law_807 : decode cL_law 807 = .ok (.iconst 1, 1) := by decide +kernel
theorem dL_law_808 : decode cL_law 808 = .ok (.iadd, 1) := by decide +kernel
theorem dL_law_809 : decode cL_law 809 = .ok (.iaload, 1) := by decide +kernel
theorem dL_law_810 : decode cL_law 810 = .ok (.aload_n 0, 1) := by decide +kernel
theorem dL_law_811 : decode cL_law 811 = .ok (.iload_n 3, 1) := by decide +kernel
theorem dL_law_812 : decode cL_law 812 = .ok (.iconst 2, 1) := by decide +kernel
theorem dL_law_813 : decode cL_law 813 = .ok (.iadd, 1) := by decide +kernel
theorem dL_law_814 : decode cL_law 814 = .ok (.iaload, 1) := by decide +kernel
theorem dL_law_815 : decode cL_law 815 = .ok (.invokevirtual 112, 3) := by decide +kernel
theorem dL_law_818 : decode cL_law 818 = .ok (.if_icmp .eq 212, 3) := by decide +kernel
theorem dL_law_821 : decode cL_law 821 = .ok (.iconst 0, 1) := by decide +kernel
theorem dL_law_822 : decode cL_law 822 = .ok (.ireturn, 1) := by decide +kernel
theorem dL_law_823 : decode cL_law 823 = .ok (.aload_n 1, 1) := by decide +kernel
theorem dL_law_824 : decode cL_law 824 = .ok (.aload_n 0, 1) := by decide +kernel
theorem dL_law_825 : decode cL_law 825 = .ok (.iload_n 3, 1) := by decide +kernel
theorem dL_law_826 : decode cL_law 826 = .ok (.iconst 1, 1) := by decide +kernel
theorem dL_law_827 : decode cL_law 827 = .ok (.iadd, 1) := by decide +kernel
theorem dL_law_828 : decode cL_law 828 = .ok (.iaload, 1) := by decide +kernel
theorem dL_law_829 : decode cL_law 829 = .ok (.aload_n 0, 1) := by decide +kernel
theorem dL_law_830 : decode cL_law 830 = .ok (.iload_n 3, 1) := by decide +kernel
theorem dL_law_831 : decode cL_law 831 = .ok (.iconst 2, 1) := by decide +kernel
theorem dL_law_832 : decode cL_law 832 = .ok (.iadd, 1) := by decide +kernel
theorem dL_law_833 : decode cL_law 833 = .ok (.iaload, 1) := by decide +kernel
theorem dL_law_834 : decode cL_law 834 = .ok (.invokevirtual 113, 3) := by decide +kernel
theorem dL_law_837 : decode cL_law 837 = .ok (.aload_n 2, 1) := by decide +kernel
theorem dL_law_838 : decode cL_law 838 = .ok (.aload_n 0, 1) := by decide +kernel
theorem dL_law_839 : decode cL_law 839 = .ok (.iload_n 3, 1) := by decide +kernel
theorem dL_law_840 : decode cL_law 840 = .ok (.iconst 1, 1) := by decide +kernel
theorem dL_law_841 : decode cL_law 841 = .ok (.iadd, 1) := by decide +kernel
theorem dL_law_842 : decode cL_law 842 = .ok (.iaload, 1) := by decide +kernel
theorem dL_law_843 : decode cL_law 843 = .ok (.aload_n 0, 1) := by decide +kernel
theorem dL_law_844 : decode cL_law 844 = .ok (.iload_n 3, 1) := by decide +kernel
theorem dL_law_845 : decode cL_law 845 = .ok (.iconst 2, 1) := by decide +kernel
theorem dL_law_846 : decode cL_law 846 = .ok (.iadd, 1) := by decide +kernel
theorem dL_law_847 : decode cL_law 847 = .ok (.iaload, 1) := by decide +kernel
theorem dL_law_848 : decode cL_law 848 = .ok (.invokevirtual 116, 3) := by decide +kernel
theorem dL_law_851 : decode cL_law 851 = .ok (.if_icmp .eq 179, 3) := by decide +kernel
theorem dL_law_854 : decode cL_law 854 = .ok (.iconst 0, 1) := by decide +kernel
theorem dL_law_855 : decode cL_law 855 = .ok (.ireturn, 1) := by decide +kernel
theorem dL_law_856 : decode cL_law 856 = .ok (.aload_n 1, 1) := by decide +kernel
theorem dL_law_857 : decode cL_law 857 = .ok (.aload_n 0, 1) := by decide +kernel
theorem dL_law_858 : decode cL_law 858 = .ok (.iload_n 3, 1) := by decide +kernel
theorem dL_law_859 : decode cL_law 859 = .ok (.iconst 1, 1) := by decide +kernel
theorem dL_law_860 : decode cL_law 860 = .ok (.iadd, 1) := by decide +kernel
theorem dL_law_861 : decode cL_law 861 = .ok (.iaload, 1) := by decide +kernel
theorem dL_law_862 : decode cL_law 862 = .ok (.invokevirtual 117, 3) := by decide +kernel
theorem dL_law_865 : decode cL_law 865 = .ok (.aload_n 2, 1) := by decide +kernel
theorem dL_law_866 : decode cL_law 866 = .ok (.aload_n 0, 1) := by decide +kernel
theorem dL_law_867 : decode cL_law 867 = .ok (.iload_n 3, 1) := by decide +kernel
theorem dL_law_868 : decode cL_law 868 = .ok (.iconst 1, 1) := by decide +kernel
theorem dL_law_869 : decode cL_law 869 = .ok (.iadd, 1) := by decide +kernel
theorem dL_law_870 : decode cL_law 870 = .ok (.iaload, 1) := by decide +kernel
theorem dL_law_871 : decode cL_law 871 = .ok (.invokevirtual 120, 3) := by decide +kernel
theorem dL_law_874 : decode cL_law 874 = .ok (.if_icmp .eq 156, 3) := by decide +kernel
theorem dL_law_877 : decode cL_law 877 = .ok (.iconst 0, 1) := by decide +kernel
theorem dL_law_878 : decode cL_law 878 = .ok (.ireturn, 1) := by decide +kernel
theorem dL_law_879 : decode cL_law 879 = .ok (.aload_n 1, 1) := by decide +kernel
theorem dL_law_880 : decode cL_law 880 = .ok (.aload_n 0, 1) := by decide +kernel
theorem dL_law_881 : decode cL_law 881 = .ok (.iload_n 3, 1) := by decide +kernel
theorem dL_law_882 : decode cL_law 882 = .ok (.iconst 1, 1) := by decide +kernel
theorem dL_law_883 : decode cL_law 883 = .ok (.iadd, 1) := by decide +kernel
theorem dL_law_884 : decode cL_law 884 = .ok (.iaload, 1) := by decide +kernel
theorem dL_law_885 : decode cL_law 885 = .ok (.aload_n 0, 1) := by decide +kernel
theorem dL_law_886 : decode cL_law 886 = .ok (.iload_n 3, 1) := by decide +kernel
theorem dL_law_887 : decode cL_law 887 = .ok (.iconst 2, 1) := by decide +kernel
theorem dL_law_888 : decode cL_law 888 = .ok (.iadd, 1) := by decide +kernel
theorem dL_law_889 : decode cL_law 889 = .ok (.iaload, 1) := by decide +kernel
theorem dL_law_890 : decode cL_law 890 = .ok (.invokevirtual 121, 3) := by decide +kernel
theorem dL_law_893 : decode cL_law 893 = .ok (.aload_n 2, 1) := by decide +kernel
theorem dL_law_894 : decode cL_law 894 = .ok (.aload_n 0, 1) := by decide +kernel
theorem dL_law_895 : decode cL_law 895 = .ok (.iload_n 3, 1) := by decide +kernel
theorem dL_law_896 : decode cL_law 896 = .ok (.iconst 1, 1) := by decide +kernel
theorem dL_law_897 : decode cL_law 897 = .ok (.iadd, 1) := by decide +kernel
theorem dL_law_898 : decode cL_law 898 = .ok (.iaload, 1) := by decide +kernel
theorem dL_law_899 : decode cL_law 899 = .ok (.aload_n 0, 1) := by decide +kernel
theorem dL_law_900 : decode cL_law 900 = .ok (.iload_n 3, 1) := by decide +kernel
theorem dL_law_901 : decode cL_law 901 = .ok (.iconst 2, 1) := by decide +kernel
theorem dL_law_902 : decode cL_law 902 = .ok (.iadd, 1) := by decide +kernel
theorem dL_law_903 : decode cL_law 903 = .ok (.iaload, 1) := by decide +kernel
theorem dL_law_904 : decode cL_law 904 = .ok (.invokevirtual 124, 3) := by decide +kernel
theorem dL_law_907 : decode cL_law 907 = .ok (.if_icmp .eq 123, 3) := by decide +kernel
theorem dL_law_910 : decode cL_law 910 = .ok (.iconst 0, 1) := by decide +kernel
theorem dL_law_911 : decode cL_law 911 = .ok (.ireturn, 1) := by decide +kernel
theorem dL_law_912 : decode cL_law 912 = .ok (.aload_n 1, 1) := by decide +kernel
theorem dL_law_913 : decode cL_law 913 = .ok (.invokevirtual 125, 3) := by decide +kernel
theorem dL_law_916 : decode cL_law 916 = .ok (.aload_n 2, 1) := by decide +kernel
theorem dL_law_917 : decode cL_law 917 = .ok (.invokevirtual 128, 3) := by decide +kernel
theorem dL_law_920 : decode cL_law 920 = .ok (.if_icmp .eq 110, 3) := by decide +kernel
theorem dL_law_923 : decode cL_law 923 = .ok (.iconst 0, 1) := by decide +kernel
theorem dL_law_924 : decode cL_law 924 = .ok (.ireturn, 1) := by decide +kernel
theorem dL_law_925 : decode cL_law 925 = .ok (.aload_n 1, 1) := by decide +kernel
theorem dL_law_926 : decode cL_law 926 = .ok (.aload_n 0, 1) := by decide +kernel
theorem dL_law_927 : decode cL_law 927 = .ok (.iload_n 3, 1) := by decide +kernel
theorem dL_law_928 : decode cL_law 928 = .ok (.iconst 1, 1) := by decide +kernel
theorem dL_law_929 : decode cL_law 929 = .ok (.iadd, 1) := by decide +kernel
theorem dL_law_930 : decode cL_law 930 = .ok (.iaload, 1) := by decide +kernel
theorem dL_law_931 : decode cL_law 931 = .ok (.invokevirtual 129, 3) := by decide +kernel
theorem dL_law_934 : decode cL_law 934 = .ok (.aload_n 2, 1) := by decide +kernel
theorem dL_law_935 : decode cL_law 935 = .ok (.aload_n 0, 1) := by decide +kernel
theorem dL_law_936 : decode cL_law 936 = .ok (.iload_n 3, 1) := by decide +kernel
theorem dL_law_937 : decode cL_law 937 = .ok (.iconst 1, 1) := by decide +kernel
theorem dL_law_938 : decode cL_law 938 = .ok (.iadd, 1) := by decide +kernel
theorem dL_law_939 : decode cL_law 939 = .ok (.iaload, 1) := by decide +kernel
theorem dL_law_940 : decode cL_law 940 = .ok (.invokevirtual 132, 3) := by decide +kernel
theorem dL_law_943 : decode cL_law 943 = .ok (.if_icmp .eq 87, 3) := by decide +kernel
theorem dL_law_946 : decode cL_law 946 = .ok (.iconst 0, 1) := by decide +kernel
theorem dL_law_947 : decode cL_law 947 = .ok (.ireturn, 1) := by decide +kernel
theorem dL_law_948 : decode cL_law 948 = .ok (.aload_n 1, 1) := by decide +kernel
theorem dL_law_949 : decode cL_law 949 = .ok (.invokevirtual 133, 3) := by decide +kernel
theorem dL_law_952 : decode cL_law 952 = .ok (.aload_n 2, 1) := by decide +kernel
theorem dL_law_953 : decode cL_law 953 = .ok (.invokevirtual 136, 3) := by decide +kernel
theorem dL_law_956 : decode cL_law 956 = .ok (.if_icmp .eq 74, 3) := by decide +kernel
theorem dL_law_959 : decode cL_law 959 = .ok (.iconst 0, 1) := by decide +kernel
theorem dL_law_960 : decode cL_law 960 = .ok (.ireturn, 1) := by decide +kernel
theorem dL_law_961 : decode cL_law 961 = .ok (.aload_n 1, 1) := by decide +kernel
theorem dL_law_962 : decode cL_law 962 = .ok (.aload_n 0, 1) := by decide +kernel
theorem dL_law_963 : decode cL_law 963 = .ok (.iload_n 3, 1) := by decide +kernel
theorem dL_law_964 : decode cL_law 964 = .ok (.iconst 1, 1) := by decide +kernel
theorem dL_law_965 : decode cL_law 965 = .ok (.iadd, 1) := by decide +kernel
theorem dL_law_966 : decode cL_law 966 = .ok (.iaload, 1) := by decide +kernel
theorem dL_law_967 : decode cL_law 967 = .ok (.invokevirtual 137, 3) := by decide +kernel
theorem dL_law_970 : decode cL_law 970 = .ok (.aload_n 2, 1) := by decide +kernel
theorem dL_law_971 : decode cL_law 971 = .ok (.aload_n 0, 1) := by decide +kernel
theorem dL_law_972 : decode cL_law 972 = .ok (.iload_n 3, 1) := by decide +kernel
theorem dL_law_973 : decode cL_law 973 = .ok (.iconst 1, 1) := by decide +kernel
theorem dL_law_974 : decode cL_law 974 = .ok (.iadd, 1) := by decide +kernel
theorem dL_law_975 : decode cL_law 975 = .ok (.iaload, 1) := by decide +kernel
theorem dL_law_976 : decode cL_law 976 = .ok (.invokevirtual 140, 3) := by decide +kernel
theorem dL_law_979 : decode cL_law 979 = .ok (.if_icmp .eq 51, 3) := by decide +kernel
theorem dL_law_982 : decode cL_law 982 = .ok (.iconst 0, 1) := by decide +kernel
theorem dL_law_983 : decode cL_law 983 = .ok (.ireturn, 1) := by decide +kernel
theorem dL_law_984 : decode cL_law 984 = .ok (.aload_n 1, 1) := by decide +kernel
theorem dL_law_985 : decode cL_law 985 = .ok (.aload_n 0, 1) := by decide +kernel
theorem dL_law_986 : decode cL_law 986 = .ok (.iload_n 3, 1) := by decide +kernel
theorem dL_law_987 : decode cL_law 987 = .ok (.iconst 1, 1) := by decide +kernel
theorem dL_law_988 : decode cL_law 988 = .ok (.iadd, 1) := by decide +kernel
theorem dL_law_989 : decode cL_law 989 = .ok (.iaload, 1) := by decide +kernel
theorem dL_law_990 : decode cL_law 990 = .ok (.invokevirtual 141, 3) := by decide +kernel
theorem dL_law_993 : decode cL_law 993 = .ok (.aload_n 2, 1) := by decide +kernel
theorem dL_law_994 : decode cL_law 994 = .ok (.aload_n 0, 1) := by decide +kernel
theorem dL_law_995 : decode cL_law 995 = .ok (.iload_n 3, 1) := by decide +kernel
theorem dL_law_996 : decode cL_law 996 = .ok (.iconst 1, 1) := by decide +kernel
theorem dL_law_997 : decode cL_law 997 = .ok (.iadd, 1) := by decide +kernel
theorem dL_law_998 : decode cL_law 998 = .ok (.iaload, 1) := by decide +kernel
theorem dL_law_999 : decode cL_law 999 = .ok (.invokevirtual 144, 3) := by decide +kernel
theorem dL_law_1002 : decode cL_law 1002 = .ok (.if_icmp .eq 28, 3) := by decide +kernel
theorem dL_law_1005 : decode cL_law 1005 = .ok (.iconst 0, 1) := by decide +kernel
theorem dL_law_1006 : decode cL_law 1006 = .ok (.ireturn, 1) := by decide +kernel
theorem dL_law_1007 : decode cL_law 1007 = .ok (.aload_n 1, 1) := by decide +kernel
theorem dL_law_1008 : decode cL_law 1008 = .ok (.aload_n 0, 1) := by decide +kernel
theorem dL_law_1009 : decode cL_law 1009 = .ok (.iload_n 3, 1) := by decide +kernel
theorem dL_law_1010 : decode cL_law 1010 = .ok (.iconst 1, 1) := by decide +kernel
theorem dL_law_1011 : decode cL_law 1011 = .ok (.iadd, 1) := by decide +kernel
theorem dL_law_1012 : decode cL_law 1012 = .ok (.iaload, 1) := by decide +kernel
theorem dL_law_1013 : decode cL_law 1013 = .ok (.invokevirtual 145, 3) := by decide +kernel
theorem dL_law_1016 : decode cL_law 1016 = .ok (.aload_n 2, 1) := by decide +kernel
theorem dL_law_1017 : decode cL_law 1017 = .ok (.aload_n 0, 1) := by decide +kernel
theorem dL_law_1018 : decode cL_law 1018 = .ok (.iload_n 3, 1) := by decide +kernel
theorem dL_law_1019 : decode cL_law 1019 = .ok (.iconst 1, 1) := by decide +kernel
theorem dL_law_1020 : decode cL_law 1020 = .ok (.iadd, 1) := by decide +kernel
theorem dL_law_1021 : decode cL_law 1021 = .ok (.iaload, 1) := by decide +kernel
theorem dL_law_1022 : decode cL_law 1022 = .ok (.invokevirtual 148, 3) := by decide +kernel
theorem dL_law_1025 : decode cL_law 1025 = .ok (.if_icmp .eq 5, 3) := by decide +kernel
theorem dL_law_1028 : decode cL_law 1028 = .ok (.iconst 0, 1) := by decide +kernel
theorem dL_law_1029 : decode cL_law 1029 = .ok (.ireturn, 1) := by decide +kernel
theorem dL_law_1030 : decode cL_law 1030 = .ok (.iinc 3 5, 3) := by decide +kernel
theorem dL_law_1033 : decode cL_law 1033 = .ok (.goto (-1015), 3) := by decide +kernel
theorem dL_law_1036 : decode cL_law 1036 = .ok (.iconst 1, 1) := by decide +kernel
theorem dL_law_1037 : decode cL_law 1037 = .ok (.ireturn, 1) := by decide +kernel
end
section
/-! the state of an object: its ints, its longs, its int and boolean arrays, each by the number of its field -/
abbrev OS : Type := (Nat → Int32) × (Nat → Int64) × (Nat → Nat → Int32)
def sI (o : OS) (k : Nat) (v : Int32) : OS := (va_up o.1 k v, o.2.1, o.2.2)
def sL (o : OS) (k : Nat) (v : Int64) : OS := (o.1, va_up o.2.1 k v, o.2.2)
def sA (o : OS) (k i : Nat) (v : Int32) : OS := (o.1, o.2.1, va_up o.2.2 k (upd (o.2.2 k) i v))
def sR (o : OS) (k : Nat) (f : Nat → Int32) : OS := (o.1, o.2.1, va_up o.2.2 k f)
/-! what may fail: an index, a divisor, a boolean -/
def ck {α : Type} (i : Int32) (n : Nat) (k : Option α) : Option α := if i < 0 ∨ n ≤ i.toNatClampNeg then none else k
theorem ck_some {α : Type} {i : Int32} {n : Nat} {k : Option α} {x : α} (h : ck i n k = some x) : vp_in i n ∧ k = some x := by
  unfold ck at h
  by_cases c : i < 0 ∨ n ≤ i.toNatClampNeg
  · rw [if_pos c] at h; cases h
  · rw [if_neg c] at h; exact ⟨c, h⟩
theorem ck_ok {α : Type} {i : Int32} {n : Nat} {k : Option α} (h : vp_in i n) : ck i n k = k := if_neg h
def dz {α : Type} (y : Int32) (k : Option α) : Option α := if y = 0 then none else k
theorem dz_some {α : Type} {y : Int32} {k : Option α} {x : α} (h : dz y k = some x) : ¬ y = 0 ∧ k = some x := by
  unfold dz at h
  by_cases c : y = 0
  · rw [if_pos c] at h; cases h
  · rw [if_neg c] at h; exact ⟨c, h⟩
def dzL {α : Type} (y : Int64) (k : Option α) : Option α := if y = 0 then none else k
theorem dzL_some {α : Type} {y : Int64} {k : Option α} {x : α} (h : dzL y k = some x) : ¬ y = 0 ∧ k = some x := by
  unfold dzL at h
  by_cases c : y = 0
  · rw [if_pos c] at h; cases h
  · rw [if_neg c] at h; exact ⟨c, h⟩
def bz {α : Type} (v : Int32) (k : Option α) : Option α := if v = 0 ∨ v = 1 then k else none
theorem bz_some {α : Type} {v : Int32} {k : Option α} {x : α} (h : bz v k = some x) : narrow .boolean (.int v) = .int v ∧ k = some x := by
  unfold bz at h
  by_cases c : v = 0 ∨ v = 1
  · rw [if_pos c] at h
    refine ⟨?_, h⟩
    rcases c with rfl | rfl <;> rfl
  · rw [if_neg c] at h; cases h
theorem bd_some {α β : Type} {o : Option α} {k : α → Option β} {x : β} (h : o.bind k = some x) : ∃ a, o = some a ∧ k a = some x := Option.bind_eq_some_iff.mp h
theorem ip {c : Prop} [Decidable c] {α : Type} {a b : Option α} {x : α} (h : c) (e : (if c then a else b) = some x) : a = some x := (if_pos h).symm.trans e
theorem im {c : Prop} [Decidable c] {α : Type} {a b : Option α} {x : α} (h : ¬ c) (e : (if c then a else b) = some x) : b = some x := (if_neg h).symm.trans e
def lt {α β : Type} (v : α) (k : α → Option β) : Option β := k v
theorem lt_some {α β : Type} {v : α} {k : α → Option β} {x : β} (h : lt v k = some x) : ∃ y, y = v ∧ k y = some x := ⟨v, rfl, h⟩
theorem sum_r {α β γ : Type} {f : α → Option γ} {g : β → Option γ} {y : β} {x : γ} (h : Sum.elim f g (.inr y) = some x) : g y = some x := h
theorem sum_l {α β : Type} {g : β → Option α} {r x : α} (h : Sum.elim (fun r => some r) g (.inl r) = some x) : some r = some x := h
theorem sum_i {α β γ : Type} {g : β → Option (α ⊕ γ)} {r : α} {x : α ⊕ γ} (h : Sum.elim (fun r => some (.inl r)) g (.inl r) = some x) : some (.inl r) = some x := h
section NAMING
variable {p : Program} {l : Launch} {e : Env} {R : Room} {s : State} {m : MethodId} {args : Array Value} {below : List Frame} {meth : Method} {c : Code} {H : Heap} {locs : List Loc} {cells slots : Nat} {Q : State → Prop} {pc : Nat} {ls : Array Slot} {rest : List Value}
theorem lv_nmI {y v : Int32} (h : y = v) (k : W p l e R s m args below meth c H locs cells slots Q (F0 m pc ls (.int y :: rest))) : W p l e R s m args below meth c H locs cells slots Q (F0 m pc ls (.int v :: rest)) := h ▸ k
theorem lv_nmL {y v : Int64} (h : y = v) (k : W p l e R s m args below meth c H locs cells slots Q (F0 m pc ls (.long y :: rest))) : W p l e R s m args below meth c H locs cells slots Q (F0 m pc ls (.long v :: rest)) := h ▸ k
theorem W_heap {g : JFrame} {H1 : Heap} (h : H1 = H) (k : W p l e R s m args below meth c H1 locs cells slots Q g) : W p l e R s m args below meth c H locs cells slots Q g := h ▸ k
end NAMING
/-! the tables' words of a method: what holds at its entry -/
def KX (D : va_G) (cI cZ cS : ClassId) (U : State) : Prop := va_K D vwCl [(cI, .int), (cZ, .boolean), (cS, .object RX3)] U ∧ ∀ w ∈ nestW, va_Nw w U
theorem nestW_on : ∀ w ∈ nestW, w.onTables = true := by decide +kernel
theorem KX.moved {D : va_G} {cI cZ cS : ClassId} {s U : State} (hW : s.WarmedH U.vm) (h : KX D cI cZ cS s) : KX D cI cZ cS U := ⟨va_K.moved hW.alike h.1, nestW_warm hW h.2⟩
theorem KX.same {D : va_G} {cI cZ cS : ClassId} {U : State} {g : JFrame} {mk : MethodId} {a : Array Value} (h : KX D cI cZ cS U) : KX D cI cZ cS (U.calling g mk a) := ⟨va_K.moved (u := U) (U := U.calling g mk a) (Vm.Alike.refl U.vm) h.1, fun w hw => va_Nw.same (u := U) (U := U.calling g mk a) (nestW_on w hw) rfl (h.2 w hw)⟩
/-! a contract: from the world w, the answer is res and the world w' -/
def CtQ (D : va_G) (A : Nat → Prop) (w' : va_W) (res : Option Value) : Array Value → State → Outcome → State → Prop := fun _ st oc t => oc = .returned res ∧ va_P D vwCl w' t.heap ∧ va_D A w' ∧ va_F A st t
def CtP (D : va_G) (cI cZ cS : ClassId) (w : va_W) (sz : Nat) (U : State) : Prop := U.heap.size = sz ∧ va_P D vwCl w U.heap ∧ KX D cI cZ cS U ∧ va_D (fun _ => True) w
def Ct (l : Launch) (y : MethodName) (c : ByteArray) (n : Nat) (ret : Option FieldType) (fr lo : Nat) (D : va_G) (cI cZ cS : ClassId) (av : List Value) (w : va_W) (res : Option Value) (w' : va_W) : Prop :=
  ∀ sz : Nat, Met l y (.code y c n ret :: TB) { frames := fr, cells := 0, slots := 0, locals := lo } (va_Pc av (CtP D cI cZ cS w sz)) (CtQ D (va_A w sz) w' res) 0 0 (va_A w sz)
/-- the walk's goal within a contract -/
abbrev GW (l : Launch) (y : MethodName) (cd : ByteArray) (n : Nat) (ret : Option FieldType) (fr lo : Nat) (D : va_G) (av : List Value) (res : Option Value) (w' : va_W) (A : Nat → Prop) (p : Program) (e : Env) (s : State) (m : MethodId) (below : List Frame) (meth : Method) (c : Code) (H : Heap) (locs : List Loc) (g : JFrame) : Prop :=
  W p l e (headSpec (.code y cd n ret :: TB) { frames := fr, cells := 0, slots := 0, locals := lo }).room s m av.toArray below meth c H locs 0 0 (MQ below (CtQ D A w' res) av.toArray s 0 0 A) g
theorem CtP_blind {D : va_G} {cI cZ cS : ClassId} {w : va_W} {sz : Nat} {av : List Value} : FrameBlind (va_Pc av (CtP D cI cZ cS w sz)) := fun _ _ _ _ q => ⟨q.1, q.2.1, q.2.2.1, q.2.2.2.1.same, q.2.2.2.2⟩
section CALLS
variable {p : Program} {l : Launch} {e : Env} {R : Room} {s : State} {m : MethodId} {args : Array Value} {below : List Frame} {meth : Method} {c : Code} {H : Heap} {locs : List Loc} {cells slots : Nat} {Q : State → Prop}
variable {pc : Nat} {ls : Array Slot} {rest st0 : List Value} {A0 : Nat → Prop} {H0 : Heap} {D : va_G} {cI cZ cS : ClassId}
/-- behind a call: the world that the callee leaves, in the caller's order -/
theorem ct_go {a : Array Value} {W0 W1 w wr w' : va_W} {res : Option Value} (hr : va_Run p l e R s m args below meth c H locs cells slots 0 0 (F0 m pc ls st0) rest (CtQ D (va_A w H.size) w' res a) (va_A w H.size)) (hP : va_P D vwCl W0 H) (hD : va_D A0 W0) (hS : va_S A0 H0 H locs) (hA : ∀ q, H0.size ≤ q → A0 q)
    (isC isR is1 : List Nat) (hC : isC.map (fun i => W0[i]?) = w.map some) (hR : isR.map (fun i => W0[i]?) = wr.map some) (hn : va_nd isR = true) (hdis : isR.all (fun i => !isC.elem i) = true) (hn1 : va_nd is1 = true) (h1 : is1.map (fun i => (wr ++ w')[i]?) = W1.map some)
    (kk : ∀ (H1 : Heap) (locs1 : List Loc), va_P D vwCl W1 H1 → va_D A0 W1 → va_S A0 H0 H1 locs1 → W p l e R s m args below meth c H1 locs1 cells slots Q (F0 m (pc + 3) ls (res.toList ++ rest))) : W p l e R s m args below meth c H locs cells slots Q (F0 m pc ls st0) := by
  have hF := va_free (wc := w) hD hS hA isC hC
  intro T hT X
  obtain ⟨v, st₀, t, T', L, h0, X', hL, e1, e2, ⟨hv, hPt, hDt, hz, hk⟩, st⟩ := hr T hT X
  cases hv
  rw [h0] at hz hk
  have hj := va_join (wr := wr) (w1 := w') hP hD isC isR hC hR hn (fun i hi => by
    have := List.all_eq_true.mp hdis i hi
    simpa using this) hk hF hPt hDt
  have hP1 : va_P D vwCl W1 t.heap := by
    refine hj.1.sub is1 ?_
    have h2 : is1.filterMap (fun i => (wr ++ w')[i]?) = (is1.map (fun i => (wr ++ w')[i]?)).filterMap id := by rw [List.filterMap_map]; rfl
    rw [h2, h1, List.filterMap_map]
    simp
  have hD1 : va_D A0 W1 := hj.2.sub is1 hn1 h1
  obtain ⟨t2, a1, b1⟩ := kk T'.heap (locs ++ L) (by rw [e1]; exact hP1) hD1
    ⟨Nat.le_trans hS.1 (by rw [e1]; exact hz), fun q h1 h2 => by rw [e1, hk q (Nat.lt_of_lt_of_le h1 hS.1) (fun z => h2 (hF q z))]; exact hS.2.1 q h1 h2, fun q hq => by
      rcases List.mem_append.mp hq with h | h
      · exact hS.2.2 q h
      · exact hF _ (hL q h)⟩ T' rfl X'
  exact ⟨t2, st t2 a1, b1⟩
variable {y : MethodName} {bytes cc : ByteArray} {maxL nL n index fr lo : Nat} {ret : Option FieldType} {own C : String} {b : Addr} {As : List Value} {res : Option Value} {W0 W1 w wr w' : va_W}
/-- a call of an instance's method -/
theorem ct_V (S : CallFix p m c cc nL s args TB own) (hK : KX D cI cZ cS s) (hM : Ct l y bytes maxL ret fr lo D cI cZ cS (.ref b :: As) w res w') (hT : GoodIn TB (wsV own index C y (.code y bytes maxL ret :: TB))) (hC0 : y.cls = C) (hd : y.cls ≠ "java/lang/invoke/MethodHandle" ∧ y.cls ≠ "java/lang/invoke/VarHandle" ∧ (parseMethodDescriptor y.desc).map (fun d => d.parameters.length) = some n) (hlen : As.length = n) (hR : fr + 1 ≤ R.frames ∧ 8 + (maxL + 11) + lo ≤ R.locals)
    {ci q0 : Nat} {qc : vw_C} {fs : List Value} (hc : vwCl[ci]? = some qc) (hqC : qc.1 = C) (he : W0[q0]? = some (b, .inr (ci, fs)))
    (hsize : ls.size = nL) (hstack : st0 = As.reverse ++ .ref b :: rest) (hW : (rest.map fun v => v.category).sum ≤ 8) (hdg : decode cc pc = .ok (.invokevirtual index, 3)) (hcc : cells ≤ R.cells ∧ slots ≤ R.slots)
    (hP : va_P D vwCl W0 H) (hD : va_D A0 W0) (hS : va_S A0 H0 H locs) (hA : ∀ q, H0.size ≤ q → A0 q)
    (isC isR is1 : List Nat) (hC : isC.map (fun i => W0[i]?) = w.map some) (hRr : isR.map (fun i => W0[i]?) = wr.map some) (hn : va_nd isR = true) (hdis : isR.all (fun i => !isC.elem i) = true) (hnC : va_nd isC = true) (hn1 : va_nd is1 = true) (h1 : is1.map (fun i => (wr ++ w')[i]?) = W1.map some)
    (kk : ∀ (H1 : Heap) (locs1 : List Loc), va_P D vwCl W1 H1 → va_D A0 W1 → va_S A0 H0 H1 locs1 → W p l e R s m args below meth c H1 locs1 cells slots Q (F0 m (pc + 3) ls (res.toList ++ rest))) : W p l e R s m args below meth c H locs cells slots Q (F0 m pc ls st0) := by
  subst hstack
  have hPc : va_P D vwCl w H := by
    refine hP.sub isC ?_
    have h2 : isC.filterMap (fun i => W0[i]?) = (isC.map (fun i => W0[i]?)).filterMap id := by rw [List.filterMap_map]; rfl
    rw [h2, hC, List.filterMap_map]
    simp
  have hDc : va_D A0 w := hD.sub isC hnC hC
  refine ct_go (va_runV (C := C) (As := As) (rest := rest) S (hM H.size) (cwV n S.2.2.2.2 hT rfl rfl rfl ⟨hC0, hd⟩ hR) ⟨CtP_blind, by
      have hv := va_recv hK.1 hP hc he
      rw [hqC] at hv
      exact hv, fun U hU hW2 => ⟨rfl, by rw [hU], by rw [hU]; exact hPc, hK.moved hW2, hDc.weaken (fun _ _ _ _ => trivial)⟩⟩ rfl hlen hsize rfl (lv_room hW) hdg hcc) hP hD hS hA isC isR is1 hC hRr hn hdis hn1 h1 kk
/-- a call of a static method -/
theorem ct_S (S : CallFix p m c cc nL s args TB own) (hK : KX D cI cZ cS s) (hM : Ct l y bytes maxL ret fr lo D cI cZ cS As w res w') (hT : GoodIn TB (va_wsS own index y (.code y bytes maxL ret :: TB))) (hd : y.cls ≠ "java/lang/invoke/MethodHandle" ∧ y.cls ≠ "java/lang/invoke/VarHandle" ∧ (parseMethodDescriptor y.desc).map (fun d => d.parameters.length) = some n) (hlen : As.length = n) (hR : fr + 1 ≤ R.frames ∧ 8 + (maxL + 11) + lo ≤ R.locals)
    (hsize : ls.size = nL) (hstack : st0 = As.reverse ++ rest) (hW : (rest.map fun v => v.category).sum ≤ 8) (hdg : decode cc pc = .ok (.invokestatic index, 3)) (hcc : cells ≤ R.cells ∧ slots ≤ R.slots)
    (hP : va_P D vwCl W0 H) (hD : va_D A0 W0) (hS : va_S A0 H0 H locs) (hA : ∀ q, H0.size ≤ q → A0 q)
    (isC isR is1 : List Nat) (hC : isC.map (fun i => W0[i]?) = w.map some) (hRr : isR.map (fun i => W0[i]?) = wr.map some) (hn : va_nd isR = true) (hdis : isR.all (fun i => !isC.elem i) = true) (hnC : va_nd isC = true) (hn1 : va_nd is1 = true) (h1 : is1.map (fun i => (wr ++ w')[i]?) = W1.map some)
    (kk : ∀ (H1 : Heap) (locs1 : List Loc), va_P D vwCl W1 H1 → va_D A0 W1 → va_S A0 H0 H1 locs1 → W p l e R s m args below meth c H1 locs1 cells slots Q (F0 m (pc + 3) ls (res.toList ++ rest))) : W p l e R s m args below meth c H locs cells slots Q (F0 m pc ls st0) := by
  subst hstack
  have hPc : va_P D vwCl w H := by
    refine hP.sub isC ?_
    have h2 : isC.filterMap (fun i => W0[i]?) = (isC.map (fun i => W0[i]?)).filterMap id := by rw [List.filterMap_map]; rfl
    rw [h2, hC, List.filterMap_map]
    simp
  have hDc : va_D A0 w := hD.sub isC hnC hC
  exact ct_go (va_runS (As := As) (rest := rest) S (hM H.size) (va_cwS n S.2.2.2.2 hT rfl rfl rfl hd hR) ⟨CtP_blind, fun U hU hW2 => ⟨rfl, by rw [hU], by rw [hU]; exact hPc, hK.moved hW2, hDc.weaken (fun _ _ _ _ => trivial)⟩⟩ rfl hlen hsize rfl (lv_room hW) hdg hcc) hP hD hS hA isC isR is1 hC hRr hn hdis hn1 h1 kk
end CALLS
end
section
def bX1 (a : Nat) (o : OS) : va_W := [(a, .inr (1, [.long (o.2.1 0), .long (o.2.1 1), .long (o.2.1 2), .long (o.2.1 3), .long (o.2.1 4), .long (o.2.1 5), .long (o.2.1 6), .long (o.2.1 7), .long (o.2.1 8), .long (o.2.1 9), .long (o.2.1 10), .long (o.2.1 11), .long (o.2.1 12), .long (o.2.1 13), .long (o.2.1 14), .long (o.2.1 15)]))]
def bX0 (cI : ClassId) (a : Nat) (q : Nat → Nat) (o : OS) : va_W := [(a, .inr (0, [.ref (q 0), .ref (q 1), .ref (q 2), .ref (q 3), .int (o.1 4), .long (o.2.1 5), .long (o.2.1 6), .long (o.2.1 7), .int (o.1 8), .int (o.1 9), .int (o.1 10), .int (o.1 11), .int (o.1 12), .ref (q 13), .ref (q 14)])), (q 0, .inl (cI, 9, .inl (o.2.2 0))), (q 1, .inl (cI, 9, .inl (o.2.2 1))), (q 2, .inl (cI, 9, .inl (o.2.2 2))), (q 3, .inl (cI, 9, .inl (o.2.2 3)))]
def bX2 (cI : ClassId) (a : Nat) (q : Nat → Nat) (o : OS) : va_W := [(a, .inr (2, [.ref (q 0), .int (o.1 1), .int (o.1 2), .int (o.1 3), .int (o.1 4), .int (o.1 5), .int (o.1 6)])), (q 0, .inl (cI, 160, .inl (o.2.2 0)))]
def bX3 (cI : ClassId) (a : Nat) (q : Nat → Nat) (o : OS) : va_W := [(a, .inr (3, [.ref (q 0), .ref (q 1), .ref (q 2), .ref (q 3), .int (o.1 4), .int (o.1 5), .ref (q 6), .ref (q 7), .ref (q 8), .int (o.1 9), .int (o.1 10), .int (o.1 11)])), (q 0, .inl (cI, 8, .inl (o.2.2 0))), (q 1, .inl (cI, 8, .inl (o.2.2 1))), (q 2, .inl (cI, 8, .inl (o.2.2 2))), (q 3, .inl (cI, 8, .inl (o.2.2 3))), (q 6, .inl (cI, 5, .inl (o.2.2 6))), (q 7, .inl (cI, 5, .inl (o.2.2 7))), (q 8, .inl (cI, 5, .inl (o.2.2 8)))]
def bX4 (cI cZ : ClassId) (a : Nat) (q : Nat → Nat) (o : OS) : va_W := [(a, .inr (4, [.ref (q 0), .ref (q 1), .ref (q 2), .ref (q 3), .int (o.1 4), .ref (q 5), .ref (q 6), .int (o.1 7), .ref (q 8), .ref (q 9), .int (o.1 10), .ref (q 11), .ref (q 12)])), (q 6, .inl (cZ, 2, .inl (o.2.2 6))), (q 8, .inl (cI, 6, .inl (o.2.2 8))), (q 9, .inl (cI, 6, .inl (o.2.2 9))), (q 11, .inl (cI, 800, .inl (o.2.2 11)))]
def bX5 (cI cZ : ClassId) (a : Nat) (q : Nat → Nat) (o : OS) : va_W := [(a, .inr (5, [.ref (q 0), .ref (q 1), .int (o.1 2), .ref (q 3), .ref (q 4), .int (o.1 5), .ref (q 6), .int (o.1 7), .ref (q 8), .int (o.1 9), .int (o.1 10), .int (o.1 11), .int (o.1 12), .int (o.1 13), .int (o.1 14), .ref (q 15), .int (o.1 16), .ref (q 17), .ref (q 18), .ref (q 19), .ref (q 20), .int (o.1 21), .int (o.1 22), .long (o.2.1 23), .long (o.2.1 24), .long (o.2.1 25), .int (o.1 26), .int (o.1 27), .int (o.1 28), .long (o.2.1 29), .long (o.2.1 30), .long (o.2.1 31), .long (o.2.1 32), .long (o.2.1 33), .long (o.2.1 34), .int (o.1 35), .ref (q 36), .ref (q 37), .int (o.1 38), .int (o.1 39), .ref (q 40)])), (q 0, .inl (cI, 59, .inl (o.2.2 0))), (q 1, .inl (cI, 354, .inl (o.2.2 1))), (q 3, .inl (cI, 118, .inl (o.2.2 3))), (q 4, .inl (cZ, 2, .inl (o.2.2 4))), (q 6, .inl (cI, 12, .inl (o.2.2 6))), (q 8, .inl (cI, 160, .inl (o.2.2 8))), (q 15, .inl (cI, 59, .inl (o.2.2 15))), (q 17, .inl (cI, 9, .inl (o.2.2 17))), (q 18, .inl (cI, 9, .inl (o.2.2 18))), (q 19, .inl (cI, 9, .inl (o.2.2 19))), (q 20, .inl (cI, 9, .inl (o.2.2 20))), (q 36, .inl (cZ, 361, .inl (o.2.2 36))), (q 37, .inl (cI, 2888, .inl (o.2.2 37))), (q 40, .inl (cI, 100, .inl (o.2.2 40)))]
abbrev PSt : Type := Nat → Nat × (Nat → Nat) × OS
def bPA (cI cS : ClassId) (h : Nat) (ps : PSt) : va_W := (h, .inl (cS, 6, .inr (.inr (.inr (.inr (fun i => some (ps i).1)))))) :: (bX3 cI (ps 0).1 (ps 0).2.1 (ps 0).2.2 ++ (bX3 cI (ps 1).1 (ps 1).2.1 (ps 1).2.2 ++ (bX3 cI (ps 2).1 (ps 2).2.1 (ps 2).2.2 ++ (bX3 cI (ps 3).1 (ps 3).2.1 (ps 3).2.2 ++ (bX3 cI (ps 4).1 (ps 4).2.1 (ps 4).2.2 ++ (bX3 cI (ps 5).1 (ps 5).2.1 (ps 5).2.2))))))
def bIM (cI cS : ClassId) (h : Nat) (ps : PSt) : va_W := (h, .inl (cS, 2, .inr (.inr (.inr (.inr (fun i => some (ps i).1)))))) :: (bX3 cI (ps 0).1 (ps 0).2.1 (ps 0).2.2 ++ (bX3 cI (ps 1).1 (ps 1).2.1 (ps 1).2.2))
theorem w_ac_native : Cond.native arraycopyName ∈ TB := tbm 412 (by decide +kernel) (by decide +kernel)
theorem w_ac_static : Cond.static arraycopyName ∈ TB := tbm 411 (by decide +kernel) (by decide +kernel)
theorem w_ac_init : Cond.initialized "java/lang/System" ∈ TB := tbm 67 (by decide +kernel) (by decide +kernel)
theorem ml_RX3_49 : Cond.methodLink RX3 49 arraycopyName ∈ TB := tbm 410 (by decide +kernel) (by decide +kernel)
theorem ml_RX0_37 : Cond.methodLink RX0 37 arraycopyName ∈ TB := tbm 488 (by decide +kernel) (by decide +kernel)
theorem hs_X0_init : yX0_init.cls ≠ "java/lang/invoke/MethodHandle" ∧ yX0_init.cls ≠ "java/lang/invoke/VarHandle" ∧ (parseMethodDescriptor yX0_init.desc).map (fun d => d.parameters.length) = some 0 := by decide +kernel
theorem hs_X0_takePiles : yX0_takePiles.cls ≠ "java/lang/invoke/MethodHandle" ∧ yX0_takePiles.cls ≠ "java/lang/invoke/VarHandle" ∧ (parseMethodDescriptor yX0_takePiles.desc).map (fun d => d.parameters.length) = some 1 := by decide +kernel
theorem hs_X0_bear : yX0_bear.cls ≠ "java/lang/invoke/MethodHandle" ∧ yX0_bear.cls ≠ "java/lang/invoke/VarHandle" ∧ (parseMethodDescriptor yX0_bear.desc).map (fun d => d.parameters.length) = some 3 := by decide +kernel
theorem hs_X0_settleOn : yX0_settleOn.cls ≠ "java/lang/invoke/MethodHandle" ∧ yX0_settleOn.cls ≠ "java/lang/invoke/VarHandle" ∧ (parseMethodDescriptor yX0_settleOn.desc).map (fun d => d.parameters.length) = some 1 := by decide +kernel
theorem hs_X0_beginWith : yX0_beginWith.cls ≠ "java/lang/invoke/MethodHandle" ∧ yX0_beginWith.cls ≠ "java/lang/invoke/VarHandle" ∧ (parseMethodDescriptor yX0_beginWith.desc).map (fun d => d.parameters.length) = some 1 := by decide +kernel
theorem hs_X0_putFurther : yX0_putFurther.cls ≠ "java/lang/invoke/MethodHandle" ∧ yX0_putFurther.cls ≠ "java/lang/invoke/VarHandle" ∧ (parseMethodDescriptor yX0_putFurther.desc).map (fun d => d.parameters.length) = some 4 := by decide +kernel
theorem hs_X0_takeFurtherAway : yX0_takeFurtherAway.cls ≠ "java/lang/invoke/MethodHandle" ∧ yX0_takeFurtherAway.cls ≠ "java/lang/invoke/VarHandle" ∧ (parseMethodDescriptor yX0_takeFurtherAway.desc).map (fun d => d.parameters.length) = some 0 := by decide +kernel
theorem hs_X0_settle : yX0_settle.cls ≠ "java/lang/invoke/MethodHandle" ∧ yX0_settle.cls ≠ "java/lang/invoke/VarHandle" ∧ (parseMethodDescriptor yX0_settle.desc).map (fun d => d.parameters.length) = some 0 := by decide +kernel
theorem hs_X0_anotherRoundFollows : yX0_anotherRoundFollows.cls ≠ "java/lang/invoke/MethodHandle" ∧ yX0_anotherRoundFollows.cls ≠ "java/lang/invoke/VarHandle" ∧ (parseMethodDescriptor yX0_anotherRoundFollows.desc).map (fun d => d.parameters.length) = some 0 := by decide +kernel
theorem hs_X0_mostPulled : yX0_mostPulled.cls ≠ "java/lang/invoke/MethodHandle" ∧ yX0_mostPulled.cls ≠ "java/lang/invoke/VarHandle" ∧ (parseMethodDescriptor yX0_mostPulled.desc).map (fun d => d.parameters.length) = some 0 := by decide +kernel
theorem hs_X0_mostPressedOfReleased : yX0_mostPressedOfReleased.cls ≠ "java/lang/invoke/MethodHandle" ∧ yX0_mostPressedOfReleased.cls ≠ "java/lang/invoke/VarHandle" ∧ (parseMethodDescriptor yX0_mostPressedOfReleased.desc).map (fun d => d.parameters.length) = some 0 := by decide +kernel
theorem hs_X0_findMostUsed : yX0_findMostUsed.cls ≠ "java/lang/invoke/MethodHandle" ∧ yX0_findMostUsed.cls ≠ "java/lang/invoke/VarHandle" ∧ (parseMethodDescriptor yX0_findMostUsed.desc).map (fun d => d.parameters.length) = some 0 := by decide +kernel
theorem hs_X0_pullsNoPile : yX0_pullsNoPile.cls ≠ "java/lang/invoke/MethodHandle" ∧ yX0_pullsNoPile.cls ≠ "java/lang/invoke/VarHandle" ∧ (parseMethodDescriptor yX0_pullsNoPile.desc).map (fun d => d.parameters.length) = some 2 := by decide +kernel
theorem hs_X0_braceAll : yX0_braceAll.cls ≠ "java/lang/invoke/MethodHandle" ∧ yX0_braceAll.cls ≠ "java/lang/invoke/VarHandle" ∧ (parseMethodDescriptor yX0_braceAll.desc).map (fun d => d.parameters.length) = some 1 := by decide +kernel
theorem hs_X0_isActive : yX0_isActive.cls ≠ "java/lang/invoke/MethodHandle" ∧ yX0_isActive.cls ≠ "java/lang/invoke/VarHandle" ∧ (parseMethodDescriptor yX0_isActive.desc).map (fun d => d.parameters.length) = some 1 := by decide +kernel
theorem hs_X0_isSlot : yX0_isSlot.cls ≠ "java/lang/invoke/MethodHandle" ∧ yX0_isSlot.cls ≠ "java/lang/invoke/VarHandle" ∧ (parseMethodDescriptor yX0_isSlot.desc).map (fun d => d.parameters.length) = some 1 := by decide +kernel
theorem hs_X0_shareTop : yX0_shareTop.cls ≠ "java/lang/invoke/MethodHandle" ∧ yX0_shareTop.cls ≠ "java/lang/invoke/VarHandle" ∧ (parseMethodDescriptor yX0_shareTop.desc).map (fun d => d.parameters.length) = some 1 := by decide +kernel
theorem hs_X0_bottom : yX0_bottom.cls ≠ "java/lang/invoke/MethodHandle" ∧ yX0_bottom.cls ≠ "java/lang/invoke/VarHandle" ∧ (parseMethodDescriptor yX0_bottom.desc).map (fun d => d.parameters.length) = some 0 := by decide +kernel
theorem hs_X0_shareDown : yX0_shareDown.cls ≠ "java/lang/invoke/MethodHandle" ∧ yX0_shareDown.cls ≠ "java/lang/invoke/VarHandle" ∧ (parseMethodDescriptor yX0_shareDown.desc).map (fun d => d.parameters.length) = some 1 := by decide +kernel
theorem hs_X0_useTop : yX0_useTop.cls ≠ "java/lang/invoke/MethodHandle" ∧ yX0_useTop.cls ≠ "java/lang/invoke/VarHandle" ∧ (parseMethodDescriptor yX0_useTop.desc).map (fun d => d.parameters.length) = some 0 := by decide +kernel
theorem hs_X0_useBottom : yX0_useBottom.cls ≠ "java/lang/invoke/MethodHandle" ∧ yX0_useBottom.cls ≠ "java/lang/invoke/VarHandle" ∧ (parseMethodDescriptor yX0_useBottom.desc).map (fun d => d.parameters.length) = some 0 := by decide +kernel
theorem hs_X1_init : yX1_init.cls ≠ "java/lang/invoke/MethodHandle" ∧ yX1_init.cls ≠ "java/lang/invoke/VarHandle" ∧ (parseMethodDescriptor yX1_init.desc).map (fun d => d.parameters.length) = some 0 := by decide +kernel
theorem hs_X1_empty : yX1_empty.cls ≠ "java/lang/invoke/MethodHandle" ∧ yX1_empty.cls ≠ "java/lang/invoke/VarHandle" ∧ (parseMethodDescriptor yX1_empty.desc).map (fun d => d.parameters.length) = some 0 := by decide +kernel
theorem hs_X1_copySums : yX1_copySums.cls ≠ "java/lang/invoke/MethodHandle" ∧ yX1_copySums.cls ≠ "java/lang/invoke/VarHandle" ∧ (parseMethodDescriptor yX1_copySums.desc).map (fun d => d.parameters.length) = some 1 := by decide +kernel
theorem hs_X1_put : yX1_put.cls ≠ "java/lang/invoke/MethodHandle" ∧ yX1_put.cls ≠ "java/lang/invoke/VarHandle" ∧ (parseMethodDescriptor yX1_put.desc).map (fun d => d.parameters.length) = some 3 := by decide +kernel
theorem hs_X1_brace : yX1_brace.cls ≠ "java/lang/invoke/MethodHandle" ∧ yX1_brace.cls ≠ "java/lang/invoke/VarHandle" ∧ (parseMethodDescriptor yX1_brace.desc).map (fun d => d.parameters.length) = some 0 := by decide +kernel
theorem hs_X1_tilt : yX1_tilt.cls ≠ "java/lang/invoke/MethodHandle" ∧ yX1_tilt.cls ≠ "java/lang/invoke/VarHandle" ∧ (parseMethodDescriptor yX1_tilt.desc).map (fun d => d.parameters.length) = some 3 := by decide +kernel
theorem hs_X1_topAt : yX1_topAt.cls ≠ "java/lang/invoke/MethodHandle" ∧ yX1_topAt.cls ≠ "java/lang/invoke/VarHandle" ∧ (parseMethodDescriptor yX1_topAt.desc).map (fun d => d.parameters.length) = some 2 := by decide +kernel
theorem hs_X2_init : yX2_init.cls ≠ "java/lang/invoke/MethodHandle" ∧ yX2_init.cls ≠ "java/lang/invoke/VarHandle" ∧ (parseMethodDescriptor yX2_init.desc).map (fun d => d.parameters.length) = some 0 := by decide +kernel
theorem hs_X2_append : yX2_append.cls ≠ "java/lang/invoke/MethodHandle" ∧ yX2_append.cls ≠ "java/lang/invoke/VarHandle" ∧ (parseMethodDescriptor yX2_append.desc).map (fun d => d.parameters.length) = some 1 := by decide +kernel
theorem hs_X2_readInto : yX2_readInto.cls ≠ "java/lang/invoke/MethodHandle" ∧ yX2_readInto.cls ≠ "java/lang/invoke/VarHandle" ∧ (parseMethodDescriptor yX2_readInto.desc).map (fun d => d.parameters.length) = some 1 := by decide +kernel
theorem hs_X2_readItem : yX2_readItem.cls ≠ "java/lang/invoke/MethodHandle" ∧ yX2_readItem.cls ≠ "java/lang/invoke/VarHandle" ∧ (parseMethodDescriptor yX2_readItem.desc).map (fun d => d.parameters.length) = some 1 := by decide +kernel
theorem hs_X2_readPile : yX2_readPile.cls ≠ "java/lang/invoke/MethodHandle" ∧ yX2_readPile.cls ≠ "java/lang/invoke/VarHandle" ∧ (parseMethodDescriptor yX2_readPile.desc).map (fun d => d.parameters.length) = some 1 := by decide +kernel
theorem hs_X2_readColumn : yX2_readColumn.cls ≠ "java/lang/invoke/MethodHandle" ∧ yX2_readColumn.cls ≠ "java/lang/invoke/VarHandle" ∧ (parseMethodDescriptor yX2_readColumn.desc).map (fun d => d.parameters.length) = some 1 := by decide +kernel
theorem hs_X2_readPlace : yX2_readPlace.cls ≠ "java/lang/invoke/MethodHandle" ∧ yX2_readPlace.cls ≠ "java/lang/invoke/VarHandle" ∧ (parseMethodDescriptor yX2_readPlace.desc).map (fun d => d.parameters.length) = some 0 := by decide +kernel
theorem hs_X2_readWind : yX2_readWind.cls ≠ "java/lang/invoke/MethodHandle" ∧ yX2_readWind.cls ≠ "java/lang/invoke/VarHandle" ∧ (parseMethodDescriptor yX2_readWind.desc).map (fun d => d.parameters.length) = some 1 := by decide +kernel
theorem hs_X2_readNumber : yX2_readNumber.cls ≠ "java/lang/invoke/MethodHandle" ∧ yX2_readNumber.cls ≠ "java/lang/invoke/VarHandle" ∧ (parseMethodDescriptor yX2_readNumber.desc).map (fun d => d.parameters.length) = some 2 := by decide +kernel
theorem hs_X2_readSemicolon : yX2_readSemicolon.cls ≠ "java/lang/invoke/MethodHandle" ∧ yX2_readSemicolon.cls ≠ "java/lang/invoke/VarHandle" ∧ (parseMethodDescriptor yX2_readSemicolon.desc).map (fun d => d.parameters.length) = some 0 := by decide +kernel
theorem hs_X2_skipBlanks : yX2_skipBlanks.cls ≠ "java/lang/invoke/MethodHandle" ∧ yX2_skipBlanks.cls ≠ "java/lang/invoke/VarHandle" ∧ (parseMethodDescriptor yX2_skipBlanks.desc).map (fun d => d.parameters.length) = some 0 := by decide +kernel
theorem hs_X2_letterHere : yX2_letterHere.cls ≠ "java/lang/invoke/MethodHandle" ∧ yX2_letterHere.cls ≠ "java/lang/invoke/VarHandle" ∧ (parseMethodDescriptor yX2_letterHere.desc).map (fun d => d.parameters.length) = some 0 := by decide +kernel
theorem hs_X2_isDigit : yX2_isDigit.cls ≠ "java/lang/invoke/MethodHandle" ∧ yX2_isDigit.cls ≠ "java/lang/invoke/VarHandle" ∧ (parseMethodDescriptor yX2_isDigit.desc).map (fun d => d.parameters.length) = some 1 := by decide +kernel
theorem hs_X3_init : yX3_init.cls ≠ "java/lang/invoke/MethodHandle" ∧ yX3_init.cls ≠ "java/lang/invoke/VarHandle" ∧ (parseMethodDescriptor yX3_init.desc).map (fun d => d.parameters.length) = some 0 := by decide +kernel
theorem hs_X3_empty : yX3_empty.cls ≠ "java/lang/invoke/MethodHandle" ∧ yX3_empty.cls ≠ "java/lang/invoke/VarHandle" ∧ (parseMethodDescriptor yX3_empty.desc).map (fun d => d.parameters.length) = some 0 := by decide +kernel
theorem hs_X3_copy : yX3_copy.cls ≠ "java/lang/invoke/MethodHandle" ∧ yX3_copy.cls ≠ "java/lang/invoke/VarHandle" ∧ (parseMethodDescriptor yX3_copy.desc).map (fun d => d.parameters.length) = some 2 := by decide +kernel
theorem hs_X3_hasPileAt : yX3_hasPileAt.cls ≠ "java/lang/invoke/MethodHandle" ∧ yX3_hasPileAt.cls ≠ "java/lang/invoke/VarHandle" ∧ (parseMethodDescriptor yX3_hasPileAt.desc).map (fun d => d.parameters.length) = some 2 := by decide +kernel
theorem hs_X3_isIntact : yX3_isIntact.cls ≠ "java/lang/invoke/MethodHandle" ∧ yX3_isIntact.cls ≠ "java/lang/invoke/VarHandle" ∧ (parseMethodDescriptor yX3_isIntact.desc).map (fun d => d.parameters.length) = some 1 := by decide +kernel
theorem hs_X3_addPile : yX3_addPile.cls ≠ "java/lang/invoke/MethodHandle" ∧ yX3_addPile.cls ≠ "java/lang/invoke/VarHandle" ∧ (parseMethodDescriptor yX3_addPile.desc).map (fun d => d.parameters.length) = some 4 := by decide +kernel
theorem hs_X3_addColumn : yX3_addColumn.cls ≠ "java/lang/invoke/MethodHandle" ∧ yX3_addColumn.cls ≠ "java/lang/invoke/VarHandle" ∧ (parseMethodDescriptor yX3_addColumn.desc).map (fun d => d.parameters.length) = some 3 := by decide +kernel
theorem hs_X3_weight : yX3_weight.cls ≠ "java/lang/invoke/MethodHandle" ∧ yX3_weight.cls ≠ "java/lang/invoke/VarHandle" ∧ (parseMethodDescriptor yX3_weight.desc).map (fun d => d.parameters.length) = some 0 := by decide +kernel
theorem hs_X3_momentX : yX3_momentX.cls ≠ "java/lang/invoke/MethodHandle" ∧ yX3_momentX.cls ≠ "java/lang/invoke/VarHandle" ∧ (parseMethodDescriptor yX3_momentX.desc).map (fun d => d.parameters.length) = some 0 := by decide +kernel
theorem hs_X3_momentY : yX3_momentY.cls ≠ "java/lang/invoke/MethodHandle" ∧ yX3_momentY.cls ≠ "java/lang/invoke/VarHandle" ∧ (parseMethodDescriptor yX3_momentY.desc).map (fun d => d.parameters.length) = some 0 := by decide +kernel
theorem hs_X4_init : yX4_init.cls ≠ "java/lang/invoke/MethodHandle" ∧ yX4_init.cls ≠ "java/lang/invoke/VarHandle" ∧ (parseMethodDescriptor yX4_init.desc).map (fun d => d.parameters.length) = some 0 := by decide +kernel
theorem hs_X4_type : yX4_type.cls ≠ "java/lang/invoke/MethodHandle" ∧ yX4_type.cls ≠ "java/lang/invoke/VarHandle" ∧ (parseMethodDescriptor yX4_type.desc).map (fun d => d.parameters.length) = some 1 := by decide +kernel
theorem hs_X4_clear : yX4_clear.cls ≠ "java/lang/invoke/MethodHandle" ∧ yX4_clear.cls ≠ "java/lang/invoke/VarHandle" ∧ (parseMethodDescriptor yX4_clear.desc).map (fun d => d.parameters.length) = some 0 := by decide +kernel
theorem hs_X4_tells : yX4_tells.cls ≠ "java/lang/invoke/MethodHandle" ∧ yX4_tells.cls ≠ "java/lang/invoke/VarHandle" ∧ (parseMethodDescriptor yX4_tells.desc).map (fun d => d.parameters.length) = some 0 := by decide +kernel
theorem hs_X4_drives : yX4_drives.cls ≠ "java/lang/invoke/MethodHandle" ∧ yX4_drives.cls ≠ "java/lang/invoke/VarHandle" ∧ (parseMethodDescriptor yX4_drives.desc).map (fun d => d.parameters.length) = some 4 := by decide +kernel
theorem hs_X4_loses : yX4_loses.cls ≠ "java/lang/invoke/MethodHandle" ∧ yX4_loses.cls ≠ "java/lang/invoke/VarHandle" ∧ (parseMethodDescriptor yX4_loses.desc).map (fun d => d.parameters.length) = some 1 := by decide +kernel
theorem hs_X4_mends : yX4_mends.cls ≠ "java/lang/invoke/MethodHandle" ∧ yX4_mends.cls ≠ "java/lang/invoke/VarHandle" ∧ (parseMethodDescriptor yX4_mends.desc).map (fun d => d.parameters.length) = some 1 := by decide +kernel
theorem hs_X4_loads : yX4_loads.cls ≠ "java/lang/invoke/MethodHandle" ∧ yX4_loads.cls ≠ "java/lang/invoke/VarHandle" ∧ (parseMethodDescriptor yX4_loads.desc).map (fun d => d.parameters.length) = some 2 := by decide +kernel
theorem hs_X4_moves : yX4_moves.cls ≠ "java/lang/invoke/MethodHandle" ∧ yX4_moves.cls ≠ "java/lang/invoke/VarHandle" ∧ (parseMethodDescriptor yX4_moves.desc).map (fun d => d.parameters.length) = some 3 := by decide +kernel
theorem hs_X4_winds : yX4_winds.cls ≠ "java/lang/invoke/MethodHandle" ∧ yX4_winds.cls ≠ "java/lang/invoke/VarHandle" ∧ (parseMethodDescriptor yX4_winds.desc).map (fun d => d.parameters.length) = some 2 := by decide +kernel
theorem hs_X4_undo : yX4_undo.cls ≠ "java/lang/invoke/MethodHandle" ∧ yX4_undo.cls ≠ "java/lang/invoke/VarHandle" ∧ (parseMethodDescriptor yX4_undo.desc).map (fun d => d.parameters.length) = some 0 := by decide +kernel
theorem hs_X4_pile : yX4_pile.cls ≠ "java/lang/invoke/MethodHandle" ∧ yX4_pile.cls ≠ "java/lang/invoke/VarHandle" ∧ (parseMethodDescriptor yX4_pile.desc).map (fun d => d.parameters.length) = some 2 := by decide +kernel
theorem hs_X4_column : yX4_column.cls ≠ "java/lang/invoke/MethodHandle" ∧ yX4_column.cls ≠ "java/lang/invoke/VarHandle" ∧ (parseMethodDescriptor yX4_column.desc).map (fun d => d.parameters.length) = some 2 := by decide +kernel
theorem hs_X4_sum : yX4_sum.cls ≠ "java/lang/invoke/MethodHandle" ∧ yX4_sum.cls ≠ "java/lang/invoke/VarHandle" ∧ (parseMethodDescriptor yX4_sum.desc).map (fun d => d.parameters.length) = some 1 := by decide +kernel
theorem hs_X4_sharing : yX4_sharing.cls ≠ "java/lang/invoke/MethodHandle" ∧ yX4_sharing.cls ≠ "java/lang/invoke/VarHandle" ∧ (parseMethodDescriptor yX4_sharing.desc).map (fun d => d.parameters.length) = some 1 := by decide +kernel
theorem hs_X4_share : yX4_share.cls ≠ "java/lang/invoke/MethodHandle" ∧ yX4_share.cls ≠ "java/lang/invoke/VarHandle" ∧ (parseMethodDescriptor yX4_share.desc).map (fun d => d.parameters.length) = some 2 := by decide +kernel
theorem hs_X4_press : yX4_press.cls ≠ "java/lang/invoke/MethodHandle" ∧ yX4_press.cls ≠ "java/lang/invoke/VarHandle" ∧ (parseMethodDescriptor yX4_press.desc).map (fun d => d.parameters.length) = some 3 := by decide +kernel
theorem hs_X4_most : yX4_most.cls ≠ "java/lang/invoke/MethodHandle" ∧ yX4_most.cls ≠ "java/lang/invoke/VarHandle" ∧ (parseMethodDescriptor yX4_most.desc).map (fun d => d.parameters.length) = some 1 := by decide +kernel
theorem hs_X4_factor : yX4_factor.cls ≠ "java/lang/invoke/MethodHandle" ∧ yX4_factor.cls ≠ "java/lang/invoke/VarHandle" ∧ (parseMethodDescriptor yX4_factor.desc).map (fun d => d.parameters.length) = some 1 := by decide +kernel
theorem hs_X4_kern : yX4_kern.cls ≠ "java/lang/invoke/MethodHandle" ∧ yX4_kern.cls ≠ "java/lang/invoke/VarHandle" ∧ (parseMethodDescriptor yX4_kern.desc).map (fun d => d.parameters.length) = some 2 := by decide +kernel
theorem hs_X4_kerns : yX4_kerns.cls ≠ "java/lang/invoke/MethodHandle" ∧ yX4_kerns.cls ≠ "java/lang/invoke/VarHandle" ∧ (parseMethodDescriptor yX4_kerns.desc).map (fun d => d.parameters.length) = some 1 := by decide +kernel
theorem hs_X4_without : yX4_without.cls ≠ "java/lang/invoke/MethodHandle" ∧ yX4_without.cls ≠ "java/lang/invoke/VarHandle" ∧ (parseMethodDescriptor yX4_without.desc).map (fun d => d.parameters.length) = some 2 := by decide +kernel
theorem hs_X4_key : yX4_key.cls ≠ "java/lang/invoke/MethodHandle" ∧ yX4_key.cls ≠ "java/lang/invoke/VarHandle" ∧ (parseMethodDescriptor yX4_key.desc).map (fun d => d.parameters.length) = some 0 := by decide +kernel
theorem hs_X4_extra : yX4_extra.cls ≠ "java/lang/invoke/MethodHandle" ∧ yX4_extra.cls ≠ "java/lang/invoke/VarHandle" ∧ (parseMethodDescriptor yX4_extra.desc).map (fun d => d.parameters.length) = some 2 := by decide +kernel
theorem hs_X4_odds : yX4_odds.cls ≠ "java/lang/invoke/MethodHandle" ∧ yX4_odds.cls ≠ "java/lang/invoke/VarHandle" ∧ (parseMethodDescriptor yX4_odds.desc).map (fun d => d.parameters.length) = some 2 := by decide +kernel
theorem hs_X4_hunts : yX4_hunts.cls ≠ "java/lang/invoke/MethodHandle" ∧ yX4_hunts.cls ≠ "java/lang/invoke/VarHandle" ∧ (parseMethodDescriptor yX4_hunts.desc).map (fun d => d.parameters.length) = some 1 := by decide +kernel
theorem hs_X4_sees : yX4_sees.cls ≠ "java/lang/invoke/MethodHandle" ∧ yX4_sees.cls ≠ "java/lang/invoke/VarHandle" ∧ (parseMethodDescriptor yX4_sees.desc).map (fun d => d.parameters.length) = some 2 := by decide +kernel
theorem hs_X4_forget : yX4_forget.cls ≠ "java/lang/invoke/MethodHandle" ∧ yX4_forget.cls ≠ "java/lang/invoke/VarHandle" ∧ (parseMethodDescriptor yX4_forget.desc).map (fun d => d.parameters.length) = some 0 := by decide +kernel
theorem hs_X4_spots : yX4_spots.cls ≠ "java/lang/invoke/MethodHandle" ∧ yX4_spots.cls ≠ "java/lang/invoke/VarHandle" ∧ (parseMethodDescriptor yX4_spots.desc).map (fun d => d.parameters.length) = some 1 := by decide +kernel
theorem hs_X4_ask : yX4_ask.cls ≠ "java/lang/invoke/MethodHandle" ∧ yX4_ask.cls ≠ "java/lang/invoke/VarHandle" ∧ (parseMethodDescriptor yX4_ask.desc).map (fun d => d.parameters.length) = some 0 := by decide +kernel
theorem hs_X4_keep : yX4_keep.cls ≠ "java/lang/invoke/MethodHandle" ∧ yX4_keep.cls ≠ "java/lang/invoke/VarHandle" ∧ (parseMethodDescriptor yX4_keep.desc).map (fun d => d.parameters.length) = some 1 := by decide +kernel
theorem hs_X4_back : yX4_back.cls ≠ "java/lang/invoke/MethodHandle" ∧ yX4_back.cls ≠ "java/lang/invoke/VarHandle" ∧ (parseMethodDescriptor yX4_back.desc).map (fun d => d.parameters.length) = some 1 := by decide +kernel
theorem hs_X4_count : yX4_count.cls ≠ "java/lang/invoke/MethodHandle" ∧ yX4_count.cls ≠ "java/lang/invoke/VarHandle" ∧ (parseMethodDescriptor yX4_count.desc).map (fun d => d.parameters.length) = some 1 := by decide +kernel
theorem hs_X4_isPlace : yX4_isPlace.cls ≠ "java/lang/invoke/MethodHandle" ∧ yX4_isPlace.cls ≠ "java/lang/invoke/VarHandle" ∧ (parseMethodDescriptor yX4_isPlace.desc).map (fun d => d.parameters.length) = some 2 := by decide +kernel
theorem hs_X4_isPileKind : yX4_isPileKind.cls ≠ "java/lang/invoke/MethodHandle" ∧ yX4_isPileKind.cls ≠ "java/lang/invoke/VarHandle" ∧ (parseMethodDescriptor yX4_isPileKind.desc).map (fun d => d.parameters.length) = some 2 := by decide +kernel
theorem hs_X4_isPile : yX4_isPile.cls ≠ "java/lang/invoke/MethodHandle" ∧ yX4_isPile.cls ≠ "java/lang/invoke/VarHandle" ∧ (parseMethodDescriptor yX4_isPile.desc).map (fun d => d.parameters.length) = some 1 := by decide +kernel
theorem hs_X4_isColumn : yX4_isColumn.cls ≠ "java/lang/invoke/MethodHandle" ∧ yX4_isColumn.cls ≠ "java/lang/invoke/VarHandle" ∧ (parseMethodDescriptor yX4_isColumn.desc).map (fun d => d.parameters.length) = some 1 := by decide +kernel
theorem hs_X4_xOf : yX4_xOf.cls ≠ "java/lang/invoke/MethodHandle" ∧ yX4_xOf.cls ≠ "java/lang/invoke/VarHandle" ∧ (parseMethodDescriptor yX4_xOf.desc).map (fun d => d.parameters.length) = some 1 := by decide +kernel
theorem hs_X4_yOf : yX4_yOf.cls ≠ "java/lang/invoke/MethodHandle" ∧ yX4_yOf.cls ≠ "java/lang/invoke/VarHandle" ∧ (parseMethodDescriptor yX4_yOf.desc).map (fun d => d.parameters.length) = some 1 := by decide +kernel
theorem hs_X4_record : yX4_record.cls ≠ "java/lang/invoke/MethodHandle" ∧ yX4_record.cls ≠ "java/lang/invoke/VarHandle" ∧ (parseMethodDescriptor yX4_record.desc).map (fun d => d.parameters.length) = some 0 := by decide +kernel
theorem hs_X4_dropSights : yX4_dropSights.cls ≠ "java/lang/invoke/MethodHandle" ∧ yX4_dropSights.cls ≠ "java/lang/invoke/VarHandle" ∧ (parseMethodDescriptor yX4_dropSights.desc).map (fun d => d.parameters.length) = some 0 := by decide +kernel
theorem hs_X4_takePresent : yX4_takePresent.cls ≠ "java/lang/invoke/MethodHandle" ∧ yX4_takePresent.cls ≠ "java/lang/invoke/VarHandle" ∧ (parseMethodDescriptor yX4_takePresent.desc).map (fun d => d.parameters.length) = some 0 := by decide +kernel
theorem hs_X4_spreadPresent : yX4_spreadPresent.cls ≠ "java/lang/invoke/MethodHandle" ∧ yX4_spreadPresent.cls ≠ "java/lang/invoke/VarHandle" ∧ (parseMethodDescriptor yX4_spreadPresent.desc).map (fun d => d.parameters.length) = some 0 := by decide +kernel
theorem hs_X4_bracePresent : yX4_bracePresent.cls ≠ "java/lang/invoke/MethodHandle" ∧ yX4_bracePresent.cls ≠ "java/lang/invoke/VarHandle" ∧ (parseMethodDescriptor yX4_bracePresent.desc).map (fun d => d.parameters.length) = some 0 := by decide +kernel
theorem hs_X4_greatestUse : yX4_greatestUse.cls ≠ "java/lang/invoke/MethodHandle" ∧ yX4_greatestUse.cls ≠ "java/lang/invoke/VarHandle" ∧ (parseMethodDescriptor yX4_greatestUse.desc).map (fun d => d.parameters.length) = some 1 := by decide +kernel
theorem hs_X4_standsOn : yX4_standsOn.cls ≠ "java/lang/invoke/MethodHandle" ∧ yX4_standsOn.cls ≠ "java/lang/invoke/VarHandle" ∧ (parseMethodDescriptor yX4_standsOn.desc).map (fun d => d.parameters.length) = some 1 := by decide +kernel
theorem hs_X4_isSpot : yX4_isSpot.cls ≠ "java/lang/invoke/MethodHandle" ∧ yX4_isSpot.cls ≠ "java/lang/invoke/VarHandle" ∧ (parseMethodDescriptor yX4_isSpot.desc).map (fun d => d.parameters.length) = some 1 := by decide +kernel
theorem hs_X4_groupShares : yX4_groupShares.cls ≠ "java/lang/invoke/MethodHandle" ∧ yX4_groupShares.cls ≠ "java/lang/invoke/VarHandle" ∧ (parseMethodDescriptor yX4_groupShares.desc).map (fun d => d.parameters.length) = some 0 := by decide +kernel
theorem hs_X4_pileWithSmallestLargestGroup : yX4_pileWithSmallestLargestGroup.cls ≠ "java/lang/invoke/MethodHandle" ∧ yX4_pileWithSmallestLargestGroup.cls ≠ "java/lang/invoke/VarHandle" ∧ (parseMethodDescriptor yX4_pileWithSmallestLargestGroup.desc).map (fun d => d.parameters.length) = some 0 := by decide +kernel
theorem hs_X4_power : yX4_power.cls ≠ "java/lang/invoke/MethodHandle" ∧ yX4_power.cls ≠ "java/lang/invoke/VarHandle" ∧ (parseMethodDescriptor yX4_power.desc).map (fun d => d.parameters.length) = some 2 := by decide +kernel
theorem hs_X4_inLowestTerms : yX4_inLowestTerms.cls ≠ "java/lang/invoke/MethodHandle" ∧ yX4_inLowestTerms.cls ≠ "java/lang/invoke/VarHandle" ∧ (parseMethodDescriptor yX4_inLowestTerms.desc).map (fun d => d.parameters.length) = some 3 := by decide +kernel
theorem hs_X4_commonDivisor : yX4_commonDivisor.cls ≠ "java/lang/invoke/MethodHandle" ∧ yX4_commonDivisor.cls ≠ "java/lang/invoke/VarHandle" ∧ (parseMethodDescriptor yX4_commonDivisor.desc).map (fun d => d.parameters.length) = some 2 := by decide +kernel
theorem hs_X4_compareFractions : yX4_compareFractions.cls ≠ "java/lang/invoke/MethodHandle" ∧ yX4_compareFractions.cls ≠ "java/lang/invoke/VarHandle" ∧ (parseMethodDescriptor yX4_compareFractions.desc).map (fun d => d.parameters.length) = some 4 := by decide +kernel
theorem hs_X5_init : yX5_init.cls ≠ "java/lang/invoke/MethodHandle" ∧ yX5_init.cls ≠ "java/lang/invoke/VarHandle" ∧ (parseMethodDescriptor yX5_init.desc).map (fun d => d.parameters.length) = some 0 := by decide +kernel
theorem hs_X5_in : yX5_in.cls ≠ "java/lang/invoke/MethodHandle" ∧ yX5_in.cls ≠ "java/lang/invoke/VarHandle" ∧ (parseMethodDescriptor yX5_in.desc).map (fun d => d.parameters.length) = some 3 := by decide +kernel
theorem hs_X5_ofPile : yX5_ofPile.cls ≠ "java/lang/invoke/MethodHandle" ∧ yX5_ofPile.cls ≠ "java/lang/invoke/VarHandle" ∧ (parseMethodDescriptor yX5_ofPile.desc).map (fun d => d.parameters.length) = some 2 := by decide +kernel
theorem hs_X5_ofColumn : yX5_ofColumn.cls ≠ "java/lang/invoke/MethodHandle" ∧ yX5_ofColumn.cls ≠ "java/lang/invoke/VarHandle" ∧ (parseMethodDescriptor yX5_ofColumn.desc).map (fun d => d.parameters.length) = some 2 := by decide +kernel
theorem hs_X5_isPile : yX5_isPile.cls ≠ "java/lang/invoke/MethodHandle" ∧ yX5_isPile.cls ≠ "java/lang/invoke/VarHandle" ∧ (parseMethodDescriptor yX5_isPile.desc).map (fun d => d.parameters.length) = some 1 := by decide +kernel
theorem hs_X5_isColumn : yX5_isColumn.cls ≠ "java/lang/invoke/MethodHandle" ∧ yX5_isColumn.cls ≠ "java/lang/invoke/VarHandle" ∧ (parseMethodDescriptor yX5_isColumn.desc).map (fun d => d.parameters.length) = some 1 := by decide +kernel
theorem hs_X5_isPlace : yX5_isPlace.cls ≠ "java/lang/invoke/MethodHandle" ∧ yX5_isPlace.cls ≠ "java/lang/invoke/VarHandle" ∧ (parseMethodDescriptor yX5_isPlace.desc).map (fun d => d.parameters.length) = some 2 := by decide +kernel
theorem hs_X5_type : yX5_type.cls ≠ "java/lang/invoke/MethodHandle" ∧ yX5_type.cls ≠ "java/lang/invoke/VarHandle" ∧ (parseMethodDescriptor yX5_type.desc).map (fun d => d.parameters.length) = some 1 := by decide +kernel
theorem hs_X5_clear : yX5_clear.cls ≠ "java/lang/invoke/MethodHandle" ∧ yX5_clear.cls ≠ "java/lang/invoke/VarHandle" ∧ (parseMethodDescriptor yX5_clear.desc).map (fun d => d.parameters.length) = some 0 := by decide +kernel
theorem hs_X5_isFigure : yX5_isFigure.cls ≠ "java/lang/invoke/MethodHandle" ∧ yX5_isFigure.cls ≠ "java/lang/invoke/VarHandle" ∧ (parseMethodDescriptor yX5_isFigure.desc).map (fun d => d.parameters.length) = some 0 := by decide +kernel
theorem hs_X5_next : yX5_next.cls ≠ "java/lang/invoke/MethodHandle" ∧ yX5_next.cls ≠ "java/lang/invoke/VarHandle" ∧ (parseMethodDescriptor yX5_next.desc).map (fun d => d.parameters.length) = some 0 := by decide +kernel
theorem hs_X5_due : yX5_due.cls ≠ "java/lang/invoke/MethodHandle" ∧ yX5_due.cls ≠ "java/lang/invoke/VarHandle" ∧ (parseMethodDescriptor yX5_due.desc).map (fun d => d.parameters.length) = some 1 := by decide +kernel
theorem hs_X5_reads : yX5_reads.cls ≠ "java/lang/invoke/MethodHandle" ∧ yX5_reads.cls ≠ "java/lang/invoke/VarHandle" ∧ (parseMethodDescriptor yX5_reads.desc).map (fun d => d.parameters.length) = some 4 := by decide +kernel
theorem hs_X5_isTakenByDraft : yX5_isTakenByDraft.cls ≠ "java/lang/invoke/MethodHandle" ∧ yX5_isTakenByDraft.cls ≠ "java/lang/invoke/VarHandle" ∧ (parseMethodDescriptor yX5_isTakenByDraft.desc).map (fun d => d.parameters.length) = some 2 := by decide +kernel
theorem hs_X5_readsPile : yX5_readsPile.cls ≠ "java/lang/invoke/MethodHandle" ∧ yX5_readsPile.cls ≠ "java/lang/invoke/VarHandle" ∧ (parseMethodDescriptor yX5_readsPile.desc).map (fun d => d.parameters.length) = some 0 := by decide +kernel
theorem hs_X5_readsColumn : yX5_readsColumn.cls ≠ "java/lang/invoke/MethodHandle" ∧ yX5_readsColumn.cls ≠ "java/lang/invoke/VarHandle" ∧ (parseMethodDescriptor yX5_readsColumn.desc).map (fun d => d.parameters.length) = some 0 := by decide +kernel
theorem hs_X5_readsWind : yX5_readsWind.cls ≠ "java/lang/invoke/MethodHandle" ∧ yX5_readsWind.cls ≠ "java/lang/invoke/VarHandle" ∧ (parseMethodDescriptor yX5_readsWind.desc).map (fun d => d.parameters.length) = some 0 := by decide +kernel
theorem hs_X5_tells : yX5_tells.cls ≠ "java/lang/invoke/MethodHandle" ∧ yX5_tells.cls ≠ "java/lang/invoke/VarHandle" ∧ (parseMethodDescriptor yX5_tells.desc).map (fun d => d.parameters.length) = some 0 := by decide +kernel
theorem hs_X5_notes : yX5_notes.cls ≠ "java/lang/invoke/MethodHandle" ∧ yX5_notes.cls ≠ "java/lang/invoke/VarHandle" ∧ (parseMethodDescriptor yX5_notes.desc).map (fun d => d.parameters.length) = some 0 := by decide +kernel
theorem hs_X5_isTaken : yX5_isTaken.cls ≠ "java/lang/invoke/MethodHandle" ∧ yX5_isTaken.cls ≠ "java/lang/invoke/VarHandle" ∧ (parseMethodDescriptor yX5_isTaken.desc).map (fun d => d.parameters.length) = some 2 := by decide +kernel
theorem hs_X5_isKind : yX5_isKind.cls ≠ "java/lang/invoke/MethodHandle" ∧ yX5_isKind.cls ≠ "java/lang/invoke/VarHandle" ∧ (parseMethodDescriptor yX5_isKind.desc).map (fun d => d.parameters.length) = some 2 := by decide +kernel
theorem hs_X5_drives : yX5_drives.cls ≠ "java/lang/invoke/MethodHandle" ∧ yX5_drives.cls ≠ "java/lang/invoke/VarHandle" ∧ (parseMethodDescriptor yX5_drives.desc).map (fun d => d.parameters.length) = some 4 := by decide +kernel
theorem hs_X5_wholes : yX5_wholes.cls ≠ "java/lang/invoke/MethodHandle" ∧ yX5_wholes.cls ≠ "java/lang/invoke/VarHandle" ∧ (parseMethodDescriptor yX5_wholes.desc).map (fun d => d.parameters.length) = some 0 := by decide +kernel
theorem hs_X5_becomes : yX5_becomes.cls ≠ "java/lang/invoke/MethodHandle" ∧ yX5_becomes.cls ≠ "java/lang/invoke/VarHandle" ∧ (parseMethodDescriptor yX5_becomes.desc).map (fun d => d.parameters.length) = some 2 := by decide +kernel
theorem hs_X5_loses : yX5_loses.cls ≠ "java/lang/invoke/MethodHandle" ∧ yX5_loses.cls ≠ "java/lang/invoke/VarHandle" ∧ (parseMethodDescriptor yX5_loses.desc).map (fun d => d.parameters.length) = some 1 := by decide +kernel
theorem hs_X5_mends : yX5_mends.cls ≠ "java/lang/invoke/MethodHandle" ∧ yX5_mends.cls ≠ "java/lang/invoke/VarHandle" ∧ (parseMethodDescriptor yX5_mends.desc).map (fun d => d.parameters.length) = some 1 := by decide +kernel
theorem hs_X5_loads : yX5_loads.cls ≠ "java/lang/invoke/MethodHandle" ∧ yX5_loads.cls ≠ "java/lang/invoke/VarHandle" ∧ (parseMethodDescriptor yX5_loads.desc).map (fun d => d.parameters.length) = some 2 := by decide +kernel
theorem hs_X5_moves : yX5_moves.cls ≠ "java/lang/invoke/MethodHandle" ∧ yX5_moves.cls ≠ "java/lang/invoke/VarHandle" ∧ (parseMethodDescriptor yX5_moves.desc).map (fun d => d.parameters.length) = some 3 := by decide +kernel
theorem hs_X5_winds : yX5_winds.cls ≠ "java/lang/invoke/MethodHandle" ∧ yX5_winds.cls ≠ "java/lang/invoke/VarHandle" ∧ (parseMethodDescriptor yX5_winds.desc).map (fun d => d.parameters.length) = some 2 := by decide +kernel
theorem hs_X5_undo : yX5_undo.cls ≠ "java/lang/invoke/MethodHandle" ∧ yX5_undo.cls ≠ "java/lang/invoke/VarHandle" ∧ (parseMethodDescriptor yX5_undo.desc).map (fun d => d.parameters.length) = some 0 := by decide +kernel
theorem hs_X5_laysPiles : yX5_laysPiles.cls ≠ "java/lang/invoke/MethodHandle" ∧ yX5_laysPiles.cls ≠ "java/lang/invoke/VarHandle" ∧ (parseMethodDescriptor yX5_laysPiles.desc).map (fun d => d.parameters.length) = some 0 := by decide +kernel
theorem hs_X5_sumOf : yX5_sumOf.cls ≠ "java/lang/invoke/MethodHandle" ∧ yX5_sumOf.cls ≠ "java/lang/invoke/VarHandle" ∧ (parseMethodDescriptor yX5_sumOf.desc).map (fun d => d.parameters.length) = some 1 := by decide +kernel
theorem hs_X5_laysSums : yX5_laysSums.cls ≠ "java/lang/invoke/MethodHandle" ∧ yX5_laysSums.cls ≠ "java/lang/invoke/VarHandle" ∧ (parseMethodDescriptor yX5_laysSums.desc).map (fun d => d.parameters.length) = some 0 := by decide +kernel
theorem hs_X5_laysLoad : yX5_laysLoad.cls ≠ "java/lang/invoke/MethodHandle" ∧ yX5_laysLoad.cls ≠ "java/lang/invoke/VarHandle" ∧ (parseMethodDescriptor yX5_laysLoad.desc).map (fun d => d.parameters.length) = some 3 := by decide +kernel
theorem hs_X5_det : yX5_det.cls ≠ "java/lang/invoke/MethodHandle" ∧ yX5_det.cls ≠ "java/lang/invoke/VarHandle" ∧ (parseMethodDescriptor yX5_det.desc).map (fun d => d.parameters.length) = some 9 := by decide +kernel
theorem hs_X5_isSteady : yX5_isSteady.cls ≠ "java/lang/invoke/MethodHandle" ∧ yX5_isSteady.cls ≠ "java/lang/invoke/VarHandle" ∧ (parseMethodDescriptor yX5_isSteady.desc).map (fun d => d.parameters.length) = some 1 := by decide +kernel
theorem hs_X5_pressAt : yX5_pressAt.cls ≠ "java/lang/invoke/MethodHandle" ∧ yX5_pressAt.cls ≠ "java/lang/invoke/VarHandle" ∧ (parseMethodDescriptor yX5_pressAt.desc).map (fun d => d.parameters.length) = some 2 := by decide +kernel
theorem hs_X5_bears : yX5_bears.cls ≠ "java/lang/invoke/MethodHandle" ∧ yX5_bears.cls ≠ "java/lang/invoke/VarHandle" ∧ (parseMethodDescriptor yX5_bears.desc).map (fun d => d.parameters.length) = some 1 := by decide +kernel
theorem hs_X5_goesOut : yX5_goesOut.cls ≠ "java/lang/invoke/MethodHandle" ∧ yX5_goesOut.cls ≠ "java/lang/invoke/VarHandle" ∧ (parseMethodDescriptor yX5_goesOut.desc).map (fun d => d.parameters.length) = some 0 := by decide +kernel
theorem hs_X5_comesIn : yX5_comesIn.cls ≠ "java/lang/invoke/MethodHandle" ∧ yX5_comesIn.cls ≠ "java/lang/invoke/VarHandle" ∧ (parseMethodDescriptor yX5_comesIn.desc).map (fun d => d.parameters.length) = some 0 := by decide +kernel
theorem hs_X5_shares : yX5_shares.cls ≠ "java/lang/invoke/MethodHandle" ∧ yX5_shares.cls ≠ "java/lang/invoke/VarHandle" ∧ (parseMethodDescriptor yX5_shares.desc).map (fun d => d.parameters.length) = some 0 := by decide +kernel
theorem hs_X5_sharesNow : yX5_sharesNow.cls ≠ "java/lang/invoke/MethodHandle" ∧ yX5_sharesNow.cls ≠ "java/lang/invoke/VarHandle" ∧ (parseMethodDescriptor yX5_sharesNow.desc).map (fun d => d.parameters.length) = some 0 := by decide +kernel
theorem hs_X5_common : yX5_common.cls ≠ "java/lang/invoke/MethodHandle" ∧ yX5_common.cls ≠ "java/lang/invoke/VarHandle" ∧ (parseMethodDescriptor yX5_common.desc).map (fun d => d.parameters.length) = some 2 := by decide +kernel
theorem hs_X5_part : yX5_part.cls ≠ "java/lang/invoke/MethodHandle" ∧ yX5_part.cls ≠ "java/lang/invoke/VarHandle" ∧ (parseMethodDescriptor yX5_part.desc).map (fun d => d.parameters.length) = some 3 := by decide +kernel
theorem hs_X5_against : yX5_against.cls ≠ "java/lang/invoke/MethodHandle" ∧ yX5_against.cls ≠ "java/lang/invoke/VarHandle" ∧ (parseMethodDescriptor yX5_against.desc).map (fun d => d.parameters.length) = some 4 := by decide +kernel
theorem hs_X5_laysMost : yX5_laysMost.cls ≠ "java/lang/invoke/MethodHandle" ∧ yX5_laysMost.cls ≠ "java/lang/invoke/VarHandle" ∧ (parseMethodDescriptor yX5_laysMost.desc).map (fun d => d.parameters.length) = some 0 := by decide +kernel
theorem hs_X5_tellsMost : yX5_tellsMost.cls ≠ "java/lang/invoke/MethodHandle" ∧ yX5_tellsMost.cls ≠ "java/lang/invoke/VarHandle" ∧ (parseMethodDescriptor yX5_tellsMost.desc).map (fun d => d.parameters.length) = some 1 := by decide +kernel
theorem hs_X5_pile : yX5_pile.cls ≠ "java/lang/invoke/MethodHandle" ∧ yX5_pile.cls ≠ "java/lang/invoke/VarHandle" ∧ (parseMethodDescriptor yX5_pile.desc).map (fun d => d.parameters.length) = some 2 := by decide +kernel
theorem hs_X5_column : yX5_column.cls ≠ "java/lang/invoke/MethodHandle" ∧ yX5_column.cls ≠ "java/lang/invoke/VarHandle" ∧ (parseMethodDescriptor yX5_column.desc).map (fun d => d.parameters.length) = some 2 := by decide +kernel
theorem hs_X5_sum : yX5_sum.cls ≠ "java/lang/invoke/MethodHandle" ∧ yX5_sum.cls ≠ "java/lang/invoke/VarHandle" ∧ (parseMethodDescriptor yX5_sum.desc).map (fun d => d.parameters.length) = some 1 := by decide +kernel
theorem hs_X5_sharing : yX5_sharing.cls ≠ "java/lang/invoke/MethodHandle" ∧ yX5_sharing.cls ≠ "java/lang/invoke/VarHandle" ∧ (parseMethodDescriptor yX5_sharing.desc).map (fun d => d.parameters.length) = some 1 := by decide +kernel
theorem hs_X5_share : yX5_share.cls ≠ "java/lang/invoke/MethodHandle" ∧ yX5_share.cls ≠ "java/lang/invoke/VarHandle" ∧ (parseMethodDescriptor yX5_share.desc).map (fun d => d.parameters.length) = some 2 := by decide +kernel
theorem hs_X5_press : yX5_press.cls ≠ "java/lang/invoke/MethodHandle" ∧ yX5_press.cls ≠ "java/lang/invoke/VarHandle" ∧ (parseMethodDescriptor yX5_press.desc).map (fun d => d.parameters.length) = some 3 := by decide +kernel
theorem hs_X5_most : yX5_most.cls ≠ "java/lang/invoke/MethodHandle" ∧ yX5_most.cls ≠ "java/lang/invoke/VarHandle" ∧ (parseMethodDescriptor yX5_most.desc).map (fun d => d.parameters.length) = some 1 := by decide +kernel
theorem hs_X5_factor : yX5_factor.cls ≠ "java/lang/invoke/MethodHandle" ∧ yX5_factor.cls ≠ "java/lang/invoke/VarHandle" ∧ (parseMethodDescriptor yX5_factor.desc).map (fun d => d.parameters.length) = some 1 := by decide +kernel
theorem hs_X5_isKern : yX5_isKern.cls ≠ "java/lang/invoke/MethodHandle" ∧ yX5_isKern.cls ≠ "java/lang/invoke/VarHandle" ∧ (parseMethodDescriptor yX5_isKern.desc).map (fun d => d.parameters.length) = some 2 := by decide +kernel
theorem hs_X5_kern : yX5_kern.cls ≠ "java/lang/invoke/MethodHandle" ∧ yX5_kern.cls ≠ "java/lang/invoke/VarHandle" ∧ (parseMethodDescriptor yX5_kern.desc).map (fun d => d.parameters.length) = some 2 := by decide +kernel
theorem hs_X5_kerns : yX5_kerns.cls ≠ "java/lang/invoke/MethodHandle" ∧ yX5_kerns.cls ≠ "java/lang/invoke/VarHandle" ∧ (parseMethodDescriptor yX5_kerns.desc).map (fun d => d.parameters.length) = some 1 := by decide +kernel
theorem hs_X5_laysWithout : yX5_laysWithout.cls ≠ "java/lang/invoke/MethodHandle" ∧ yX5_laysWithout.cls ≠ "java/lang/invoke/VarHandle" ∧ (parseMethodDescriptor yX5_laysWithout.desc).map (fun d => d.parameters.length) = some 1 := by decide +kernel
theorem hs_X5_without : yX5_without.cls ≠ "java/lang/invoke/MethodHandle" ∧ yX5_without.cls ≠ "java/lang/invoke/VarHandle" ∧ (parseMethodDescriptor yX5_without.desc).map (fun d => d.parameters.length) = some 2 := by decide +kernel
theorem hs_X5_key : yX5_key.cls ≠ "java/lang/invoke/MethodHandle" ∧ yX5_key.cls ≠ "java/lang/invoke/VarHandle" ∧ (parseMethodDescriptor yX5_key.desc).map (fun d => d.parameters.length) = some 0 := by decide +kernel
theorem hs_X5_extra : yX5_extra.cls ≠ "java/lang/invoke/MethodHandle" ∧ yX5_extra.cls ≠ "java/lang/invoke/VarHandle" ∧ (parseMethodDescriptor yX5_extra.desc).map (fun d => d.parameters.length) = some 2 := by decide +kernel
theorem hs_X5_odds : yX5_odds.cls ≠ "java/lang/invoke/MethodHandle" ∧ yX5_odds.cls ≠ "java/lang/invoke/VarHandle" ∧ (parseMethodDescriptor yX5_odds.desc).map (fun d => d.parameters.length) = some 2 := by decide +kernel
theorem hs_X5_hunts : yX5_hunts.cls ≠ "java/lang/invoke/MethodHandle" ∧ yX5_hunts.cls ≠ "java/lang/invoke/VarHandle" ∧ (parseMethodDescriptor yX5_hunts.desc).map (fun d => d.parameters.length) = some 1 := by decide +kernel
theorem hs_X5_sees : yX5_sees.cls ≠ "java/lang/invoke/MethodHandle" ∧ yX5_sees.cls ≠ "java/lang/invoke/VarHandle" ∧ (parseMethodDescriptor yX5_sees.desc).map (fun d => d.parameters.length) = some 2 := by decide +kernel
theorem hs_X5_forget : yX5_forget.cls ≠ "java/lang/invoke/MethodHandle" ∧ yX5_forget.cls ≠ "java/lang/invoke/VarHandle" ∧ (parseMethodDescriptor yX5_forget.desc).map (fun d => d.parameters.length) = some 0 := by decide +kernel
theorem hs_X5_isSo : yX5_isSo.cls ≠ "java/lang/invoke/MethodHandle" ∧ yX5_isSo.cls ≠ "java/lang/invoke/VarHandle" ∧ (parseMethodDescriptor yX5_isSo.desc).map (fun d => d.parameters.length) = some 0 := by decide +kernel
theorem hs_X5_laysSpots : yX5_laysSpots.cls ≠ "java/lang/invoke/MethodHandle" ∧ yX5_laysSpots.cls ≠ "java/lang/invoke/VarHandle" ∧ (parseMethodDescriptor yX5_laysSpots.desc).map (fun d => d.parameters.length) = some 0 := by decide +kernel
theorem hs_X5_spots : yX5_spots.cls ≠ "java/lang/invoke/MethodHandle" ∧ yX5_spots.cls ≠ "java/lang/invoke/VarHandle" ∧ (parseMethodDescriptor yX5_spots.desc).map (fun d => d.parameters.length) = some 1 := by decide +kernel
theorem hs_X5_mostAlike : yX5_mostAlike.cls ≠ "java/lang/invoke/MethodHandle" ∧ yX5_mostAlike.cls ≠ "java/lang/invoke/VarHandle" ∧ (parseMethodDescriptor yX5_mostAlike.desc).map (fun d => d.parameters.length) = some 1 := by decide +kernel
theorem hs_X5_ask : yX5_ask.cls ≠ "java/lang/invoke/MethodHandle" ∧ yX5_ask.cls ≠ "java/lang/invoke/VarHandle" ∧ (parseMethodDescriptor yX5_ask.desc).map (fun d => d.parameters.length) = some 0 := by decide +kernel
theorem hs_X5_keep : yX5_keep.cls ≠ "java/lang/invoke/MethodHandle" ∧ yX5_keep.cls ≠ "java/lang/invoke/VarHandle" ∧ (parseMethodDescriptor yX5_keep.desc).map (fun d => d.parameters.length) = some 1 := by decide +kernel
theorem hs_X5_back : yX5_back.cls ≠ "java/lang/invoke/MethodHandle" ∧ yX5_back.cls ≠ "java/lang/invoke/VarHandle" ∧ (parseMethodDescriptor yX5_back.desc).map (fun d => d.parameters.length) = some 1 := by decide +kernel
theorem hs_X5_count : yX5_count.cls ≠ "java/lang/invoke/MethodHandle" ∧ yX5_count.cls ≠ "java/lang/invoke/VarHandle" ∧ (parseMethodDescriptor yX5_count.desc).map (fun d => d.parameters.length) = some 1 := by decide +kernel
theorem hs_J6_bitCount_0f7a4 : yJ6_bitCount_0f7a4.cls ≠ "java/lang/invoke/MethodHandle" ∧ yJ6_bitCount_0f7a4.cls ≠ "java/lang/invoke/VarHandle" ∧ (parseMethodDescriptor yJ6_bitCount_0f7a4.desc).map (fun d => d.parameters.length) = some 1 := by decide +kernel
theorem hs_J13_compare_74951 : yJ13_compare_74951.cls ≠ "java/lang/invoke/MethodHandle" ∧ yJ13_compare_74951.cls ≠ "java/lang/invoke/VarHandle" ∧ (parseMethodDescriptor yJ13_compare_74951.desc).map (fun d => d.parameters.length) = some 2 := by decide +kernel
theorem hs_J9_floorDiv_f86c9 : yJ9_floorDiv_f86c9.cls ≠ "java/lang/invoke/MethodHandle" ∧ yJ9_floorDiv_f86c9.cls ≠ "java/lang/invoke/VarHandle" ∧ (parseMethodDescriptor yJ9_floorDiv_f86c9.desc).map (fun d => d.parameters.length) = some 2 := by decide +kernel
theorem hs_J9_abs_067f4 : yJ9_abs_067f4.cls ≠ "java/lang/invoke/MethodHandle" ∧ yJ9_abs_067f4.cls ≠ "java/lang/invoke/VarHandle" ∧ (parseMethodDescriptor yJ9_abs_067f4.desc).map (fun d => d.parameters.length) = some 1 := by decide +kernel
theorem hs_J9_max_7cf53 : yJ9_max_7cf53.cls ≠ "java/lang/invoke/MethodHandle" ∧ yJ9_max_7cf53.cls ≠ "java/lang/invoke/VarHandle" ∧ (parseMethodDescriptor yJ9_max_7cf53.desc).map (fun d => d.parameters.length) = some 2 := by decide +kernel
theorem hs_J9_min_7cf53 : yJ9_min_7cf53.cls ≠ "java/lang/invoke/MethodHandle" ∧ yJ9_min_7cf53.cls ≠ "java/lang/invoke/VarHandle" ∧ (parseMethodDescriptor yJ9_min_7cf53.desc).map (fun d => d.parameters.length) = some 2 := by decide +kernel
theorem hs_J7_fill_53178 : yJ7_fill_53178.cls ≠ "java/lang/invoke/MethodHandle" ∧ yJ7_fill_53178.cls ≠ "java/lang/invoke/VarHandle" ∧ (parseMethodDescriptor yJ7_fill_53178.desc).map (fun d => d.parameters.length) = some 2 := by decide +kernel
end
section
def f_X5_in (i0 : Int32) (i1 : Int32) (i2 : Int32) : Option Int32 := if i0 < i1 then some 0 else if i2 < i0 then some 0 else some 1
set_option maxHeartbeats 4000000 in
set_option maxRecDepth 100000 in
theorem c_X5_in (l : Launch) (D : va_G) (cI cZ cS : ClassId) (i0 : Int32) (i1 : Int32) (i2 : Int32) (x : Int32) (hf : f_X5_in i0 i1 i2 = some x) : Ct l yX5_in cX5_in 3 (some .boolean) 0 0 D cI cZ cS [.int i0, .int i1, .int i2] ([]) (some (.int x)) ([]) := by
  intro sz
  refine Met.ofW (cc := cX5_in) (maxL := 3) (ret := (some .boolean)) (by decide) rfl ?_
  intro p e s m args below meth c s₁ B hml hv
  obtain ⟨rfl, hsz, hP, hK, hD0⟩ := hv
  have hx := B.exec
  have hb := B.bytes
  have hr := B.returns
  have hts0 := atoms_spec (ws := .code yX5_in cX5_in 3 (some .boolean) :: TB) B.pre
  have hts := fun w (h : w ∈ TB) => hts0 w (List.mem_cons_of_mem _ h)
  have hown : s.vm.findClass RX5 = some m.cls := findClass_of_methodNamed B.named
  have hlocks := B.notSynchronized
  subst hsz
  have hD := hD0.self (sz := s.heap.size)
  generalize hAe : va_A ([]) s.heap.size = A at hD ⊢
  have hA : ∀ q : Nat, s.heap.size ≤ q → A q := fun q h => by rw [← hAe]; exact Or.inr h
  have hS : va_S A s.heap s.heap [] := va_S.rf
  obtain ⟨H, hH⟩ : ∃ H, H = s.heap := ⟨_, rfl⟩
  rw [← hH] at hP
  have hS : va_S A s.heap H [] := by rw [hH]; exact hS
  have hl := lv_entry ([.int i0, .int i1, .int i2]) (n := 3) (Nat.le_of_ble_eq_true rfl)
  rw [lg_entry_eq]
  generalize (lg_sl ([.int i0, .int i1, .int i2]) ++ List.replicate (3 - (lg_sl ([.int i0, .int i1, .int i2])).length) Slot.unset).toArray = ls at hl ⊢
  have hl : lv_has ls 3 [(0, .int i0), (1, .int i1), (2, .int i2)] := hl
  refine W_heap hH ?_
  obtain ⟨locs, hlo⟩ : ∃ locs : List Loc, locs = [] := ⟨_, rfl⟩
  rw [← hlo] at hS ⊢
  unfold f_X5_in at hf
  refine lv_iload_n (pc := 0) hx hb dX5_in_0 rfl (lv_at hl 0 rfl) ?_
  refine lv_iload_n (pc := 1) hx hb dX5_in_1 rfl (lv_at hl 1 rfl) ?_
  refine lv_icmp_lt (pc := 2) (tgt := 14) hx hb dX5_in_2 (by decide) (fun c1 => ?_) (fun c1 => ?_)
  · replace hf := ip c1 hf
    refine lv_iconst (v := 0) (pc := 14) hx hb dX5_in_14 (by decide) ?_
    cases hf
    exact W.zret hx hb hr rfl (fun t ht hW => ⟨rfl, by rw [ht]; exact hP, hD, hS.F ht⟩) hS.2.2 dX5_in_15
  · replace hf := im c1 hf
    refine lv_iload_n (pc := 5) hx hb dX5_in_5 rfl (lv_at hl 0 rfl) ?_
    refine lv_iload_n (pc := 6) hx hb dX5_in_6 rfl (lv_at hl 2 rfl) ?_
    refine lv_icmp_gt (pc := 7) (tgt := 14) hx hb dX5_in_7 (by decide) (fun c2 => ?_) (fun c2 => ?_)
    · replace hf := ip c2 hf
      refine lv_iconst (v := 0) (pc := 14) hx hb dX5_in_14 (by decide) ?_
      cases hf
      exact W.zret hx hb hr rfl (fun t ht hW => ⟨rfl, by rw [ht]; exact hP, hD, hS.F ht⟩) hS.2.2 dX5_in_15
    · replace hf := im c2 hf
      refine lv_iconst (v := 1) (pc := 10) hx hb dX5_in_10 (by decide) ?_
      refine lv_goto (pc := 11) (tgt := 15) hx hb dX5_in_11 (by decide) ?_
      cases hf
      exact W.zret hx hb hr rfl (fun t ht hW => ⟨rfl, by rw [ht]; exact hP, hD, hS.F ht⟩) hS.2.2 dX5_in_15
def f_X5_isPile (i0 : Int32) (om : OS) : Option Int32 := Option.bind (f_X5_in i0 0 ((om.2.2 0 (0 : Int32).toNatClampNeg) - 1)) fun x2 => bz x2 (some x2)
set_option maxHeartbeats 4000000 in
set_option maxRecDepth 100000 in
theorem c_X5_isPile (l : Launch) (D : va_G) (cI cZ cS : ClassId) (a : Nat) (q : Nat → Nat) (i0 : Int32) (om : OS) (x : Int32) (hf : f_X5_isPile i0 om = some x) : Ct l yX5_isPile cX5_isPile 2 (some .boolean) 1 22 D cI cZ cS [.ref a, .int i0] (bX5 cI cZ a q om) (some (.int x)) (bX5 cI cZ a q om) := by
  intro sz
  refine Met.ofW (cc := cX5_isPile) (maxL := 2) (ret := (some .boolean)) (by decide) rfl ?_
  intro p e s m args below meth c s₁ B hml hv
  obtain ⟨rfl, hsz, hP, hK, hD0⟩ := hv
  have hx := B.exec
  have hb := B.bytes
  have hr := B.returns
  have hts0 := atoms_spec (ws := .code yX5_isPile cX5_isPile 2 (some .boolean) :: TB) B.pre
  have hts := fun w (h : w ∈ TB) => hts0 w (List.mem_cons_of_mem _ h)
  have hown : s.vm.findClass RX5 = some m.cls := findClass_of_methodNamed B.named
  have hlocks := B.notSynchronized
  subst hsz
  have hD := hD0.self (sz := s.heap.size)
  generalize hAe : va_A (bX5 cI cZ a q om) s.heap.size = A at hD ⊢
  have hA : ∀ q : Nat, s.heap.size ≤ q → A q := fun q h => by rw [← hAe]; exact Or.inr h
  have hS : va_S A s.heap s.heap [] := va_S.rf
  obtain ⟨H, hH⟩ : ∃ H, H = s.heap := ⟨_, rfl⟩
  rw [← hH] at hP
  have hS : va_S A s.heap H [] := by rw [hH]; exact hS
  have hl := lv_entry ([.ref a, .int i0]) (n := 2) (Nat.le_of_ble_eq_true rfl)
  rw [lg_entry_eq]
  generalize (lg_sl ([.ref a, .int i0]) ++ List.replicate (2 - (lg_sl ([.ref a, .int i0])).length) Slot.unset).toArray = ls at hl ⊢
  have hl : lv_has ls 2 [(0, .ref a), (1, .int i0)] := hl
  refine W_heap hH ?_
  obtain ⟨locs, hlo⟩ : ∃ locs : List Loc, locs = [] := ⟨_, rfl⟩
  rw [← hlo] at hS ⊢
  unfold f_X5_isPile at hf
  refine lv_iload_n (pc := 0) hx hb dX5_isPile_0 rfl (lv_at hl 1 rfl) ?_
  refine lv_iconst (v := 0) (pc := 1) hx hb dX5_isPile_1 (by decide) ?_
  refine lv_aload_n (pc := 2) hx hb dX5_isPile_2 rfl (lv_at hl 0 rfl) ?_
  refine va_get (pc := 3) (D := D) (ci := 5) (v := .ref (q 0)) (C := RX5) (T := TX5) (N := 41) hx hb hts iX5 hown hK.1 hP 0 rfl rfl 0 (by decide) (hts _ fl_RX5_7) (fun _ h => h) rfl dX5_isPile_3 ?_
  refine lv_iconst (v := 0) (pc := 6) hx hb dX5_isPile_6 (by decide) ?_
  have h1 : vp_in 0 59 := by unfold vp_in; decide
  refine va_iald (pc := 7) (f := om.2.2 0) hx hb hK.1 hP 1 0 rfl rfl h1 dX5_isPile_7 ?_
  refine lv_iconst (v := 1) (pc := 8) hx hb dX5_isPile_8 (by decide) ?_
  refine lv_isub (pc := 9) hx hb dX5_isPile_9 ?_
  obtain ⟨x2, ex2, hf⟩ := bd_some hf
  refine ct_S (pc := 10) (As := [.int i0, .int 0, .int ((om.2.2 0 (0 : Int32).toNatClampNeg) - 1)]) (rest := []) (wr := bX5 cI cZ a q om) (W1 := bX5 cI cZ a q om) ⟨hx, hb, hml, hown, hts⟩ hK (c_X5_in l D cI cZ cS i0 0 ((om.2.2 0 (0 : Int32).toNatClampNeg) - 1) x2 ex2) gs_RX5_57 hs_X5_in rfl ⟨Nat.le_of_ble_eq_true rfl, Nat.le_of_ble_eq_true rfl⟩ hl.1 rfl (Nat.le_of_ble_eq_true rfl) dX5_isPile_10 ⟨Nat.zero_le _, Nat.zero_le _⟩ hP hD hS hA [] [0, 1, 2, 3, 4, 5, 6, 7, 8, 9, 10, 11, 12, 13, 14] [0, 1, 2, 3, 4, 5, 6, 7, 8, 9, 10, 11, 12, 13, 14] rfl rfl rfl rfl rfl rfl rfl (fun H locs hP hD hS => ?_)
  obtain ⟨h3, hf⟩ := bz_some hf
  cases hf
  exact W.zret hx hb hr h3 (fun t ht hW => ⟨rfl, by rw [ht]; exact hP, hD, hS.F ht⟩) hS.2.2 dX5_isPile_13
def f_X5_ofPile (i0 : Int32) (i1 : Int32) (om : OS) : Option Int32 := ck ((1 + (5 * i0)) + i1) 59 (some (om.2.2 0 (((1 + (5 * i0)) + i1) : Int32).toNatClampNeg))
set_option maxHeartbeats 4000000 in
set_option maxRecDepth 100000 in
theorem c_X5_ofPile (l : Launch) (D : va_G) (cI cZ cS : ClassId) (a : Nat) (q : Nat → Nat) (i0 : Int32) (i1 : Int32) (om : OS) (x : Int32) (hf : f_X5_ofPile i0 i1 om = some x) : Ct l yX5_ofPile cX5_ofPile 3 (some .int) 0 0 D cI cZ cS [.ref a, .int i0, .int i1] (bX5 cI cZ a q om) (some (.int x)) (bX5 cI cZ a q om) := by
  intro sz
  refine Met.ofW (cc := cX5_ofPile) (maxL := 3) (ret := (some .int)) (by decide) rfl ?_
  intro p e s m args below meth c s₁ B hml hv
  obtain ⟨rfl, hsz, hP, hK, hD0⟩ := hv
  have hx := B.exec
  have hb := B.bytes
  have hr := B.returns
  have hts0 := atoms_spec (ws := .code yX5_ofPile cX5_ofPile 3 (some .int) :: TB) B.pre
  have hts := fun w (h : w ∈ TB) => hts0 w (List.mem_cons_of_mem _ h)
  have hown : s.vm.findClass RX5 = some m.cls := findClass_of_methodNamed B.named
  have hlocks := B.notSynchronized
  subst hsz
  have hD := hD0.self (sz := s.heap.size)
  generalize hAe : va_A (bX5 cI cZ a q om) s.heap.size = A at hD ⊢
  have hA : ∀ q : Nat, s.heap.size ≤ q → A q := fun q h => by rw [← hAe]; exact Or.inr h
  have hS : va_S A s.heap s.heap [] := va_S.rf
  obtain ⟨H, hH⟩ : ∃ H, H = s.heap := ⟨_, rfl⟩
  rw [← hH] at hP
  have hS : va_S A s.heap H [] := by rw [hH]; exact hS
  have hl := lv_entry ([.ref a, .int i0, .int i1]) (n := 3) (Nat.le_of_ble_eq_true rfl)
  rw [lg_entry_eq]
  generalize (lg_sl ([.ref a, .int i0, .int i1]) ++ List.replicate (3 - (lg_sl ([.ref a, .int i0, .int i1])).length) Slot.unset).toArray = ls at hl ⊢
  have hl : lv_has ls 3 [(0, .ref a), (1, .int i0), (2, .int i1)] := hl
  refine W_heap hH ?_
  obtain ⟨locs, hlo⟩ : ∃ locs : List Loc, locs = [] := ⟨_, rfl⟩
  rw [← hlo] at hS ⊢
  unfold f_X5_ofPile at hf
  refine lv_aload_n (pc := 0) hx hb dX5_ofPile_0 rfl (lv_at hl 0 rfl) ?_
  refine va_get (pc := 1) (D := D) (ci := 5) (v := .ref (q 0)) (C := RX5) (T := TX5) (N := 41) hx hb hts iX5 hown hK.1 hP 0 rfl rfl 0 (by decide) (hts _ fl_RX5_7) (fun _ h => h) rfl dX5_ofPile_1 ?_
  refine lv_iconst (v := 1) (pc := 4) hx hb dX5_ofPile_4 (by decide) ?_
  refine lv_iconst (v := 5) (pc := 5) hx hb dX5_ofPile_5 (by decide) ?_
  refine lv_iload_n (pc := 6) hx hb dX5_ofPile_6 rfl (lv_at hl 1 rfl) ?_
  refine lv_imul (pc := 7) hx hb dX5_ofPile_7 ?_
  refine lv_iadd (pc := 8) hx hb dX5_ofPile_8 ?_
  refine lv_iload_n (pc := 9) hx hb dX5_ofPile_9 rfl (lv_at hl 2 rfl) ?_
  refine lv_iadd (pc := 10) hx hb dX5_ofPile_10 ?_
  obtain ⟨h1, hf⟩ := ck_some hf
  refine va_iald (pc := 11) (f := om.2.2 0) hx hb hK.1 hP 1 0 rfl rfl h1 dX5_ofPile_11 ?_
  cases hf
  exact W.iret hx hb hr (fun t ht hW => ⟨rfl, by rw [ht]; exact hP, hD, hS.F ht⟩) hS.2.2 dX5_ofPile_12
def lp_X5_wholes_4 (u_M : OS) : Nat → Int32 → Int32 → Option (Int32 × Int32)
  | 0, _, _ => none
  | n + 1, v1, v2 => if (u_M.2.2 0 (0 : Int32).toNatClampNeg) ≤ v2 then some (v1, v2) else Option.bind (f_X5_ofPile v2 4 u_M) fun x6 => if x6 = 0 then lp_X5_wholes_4 u_M n (v1 + 1) (v2 + 1) else lp_X5_wholes_4 u_M n (v1 + 0) (v2 + 1)
def f_X5_wholes (om : OS) : Option Int32 := Option.bind (lp_X5_wholes_4 om 1000 0 0) fun z1 => some z1.1
set_option maxHeartbeats 4000000 in
set_option maxRecDepth 100000 in
theorem c_X5_wholes (l : Launch) (D : va_G) (cI cZ cS : ClassId) (a : Nat) (q : Nat → Nat) (om : OS) (x : Int32) (hf : f_X5_wholes om = some x) : Ct l yX5_wholes cX5_wholes 3 (some .int) 1 22 D cI cZ cS [.ref a] (bX5 cI cZ a q om) (some (.int x)) (bX5 cI cZ a q om) := by
  intro sz
  refine Met.ofW (cc := cX5_wholes) (maxL := 3) (ret := (some .int)) (by decide) rfl ?_
  intro p e s m args below meth c s₁ B hml hv
  obtain ⟨rfl, hsz, hP, hK, hD0⟩ := hv
  have hx := B.exec
  have hb := B.bytes
  have hr := B.returns
  have hts0 := atoms_spec (ws := .code yX5_wholes cX5_wholes 3 (some .int) :: TB) B.pre
  have hts := fun w (h : w ∈ TB) => hts0 w (List.mem_cons_of_mem _ h)
  have hown : s.vm.findClass RX5 = some m.cls := findClass_of_methodNamed B.named
  have hlocks := B.notSynchronized
  subst hsz
  have hD := hD0.self (sz := s.heap.size)
  generalize hAe : va_A (bX5 cI cZ a q om) s.heap.size = A at hD ⊢
  have hA : ∀ q : Nat, s.heap.size ≤ q → A q := fun q h => by rw [← hAe]; exact Or.inr h
  have hS : va_S A s.heap s.heap [] := va_S.rf
  obtain ⟨H, hH⟩ : ∃ H, H = s.heap := ⟨_, rfl⟩
  rw [← hH] at hP
  have hS : va_S A s.heap H [] := by rw [hH]; exact hS
  have hl := lv_entry ([.ref a]) (n := 3) (Nat.le_of_ble_eq_true rfl)
  rw [lg_entry_eq]
  generalize (lg_sl ([.ref a]) ++ List.replicate (3 - (lg_sl ([.ref a])).length) Slot.unset).toArray = ls at hl ⊢
  have hl : lv_has ls 3 [(0, .ref a)] := hl
  refine W_heap hH ?_
  obtain ⟨locs, hlo⟩ : ∃ locs : List Loc, locs = [] := ⟨_, rfl⟩
  rw [← hlo] at hS ⊢
  unfold f_X5_wholes at hf
  refine lv_iconst (v := 0) (pc := 0) hx hb dX5_wholes_0 (by decide) ?_
  refine lv_istore_n (lv' := [(1, .int 0), (0, .ref a)]) (pc := 1) hx hb dX5_wholes_1 rfl hl (by decide) rfl (fun ls hl => ?_)
  refine lv_iconst (v := 0) (pc := 2) hx hb dX5_wholes_2 (by decide) ?_
  refine lv_istore_n (lv' := [(2, .int 0), (1, .int 0), (0, .ref a)]) (pc := 3) hx hb dX5_wholes_3 rfl hl (by decide) rfl (fun ls hl => ?_)
  obtain ⟨z1, hz1, hf⟩ := bd_some hf
  have hfz1 := hf
  clear hf
  have K2 : ∀ (H : Heap) (locs : List Loc) (ls : Array Slot), va_P D vwCl (bX5 cI cZ a q om) H → va_D A (bX5 cI cZ a q om) → va_S A s.heap H locs → lv_has ls 3 [(0, .ref a), (1, .int z1.1), (2, .int z1.2)] → GW l yX5_wholes cX5_wholes 3 (some .int) 1 22 D [.ref a] (some (.int x)) (bX5 cI cZ a q om) A p e s m below meth c H locs (F0 m 37 ls []) := by
    intro H locs ls hP hD hS hl
    have hf := hfz1
    refine lv_iload_n (pc := 37) hx hb dX5_wholes_37 rfl (lv_at hl 1 rfl) ?_
    cases hf
    exact W.iret hx hb hr (fun t ht hW => ⟨rfl, by rw [ht]; exact hP, hD, hS.F ht⟩) hS.2.2 dX5_wholes_38
  have KL3 : ∀ (n : Nat) (v1 : Int32) (v2 : Int32) (H : Heap) (locs : List Loc) (ls : Array Slot), lp_X5_wholes_4 om n v1 v2 = some z1 → va_P D vwCl (bX5 cI cZ a q om) H → va_D A (bX5 cI cZ a q om) → va_S A s.heap H locs → lv_has ls 3 [(0, .ref a), (1, .int v1), (2, .int v2)] → GW l yX5_wholes cX5_wholes 3 (some .int) 1 22 D [.ref a] (some (.int x)) (bX5 cI cZ a q om) A p e s m below meth c H locs (F0 m 4 ls []) := by
    intro n
    induction n with
    | zero => intro v1 v2 H locs ls hf; cases hf
    | succ n ih =>
      intro v1 v2 H locs ls hf hP hD hS hl
      rw [lp_X5_wholes_4] at hf
      refine lv_iload_n (pc := 4) hx hb dX5_wholes_4 rfl (lv_at hl 2 rfl) ?_
      refine lv_aload_n (pc := 5) hx hb dX5_wholes_5 rfl (lv_at hl 0 rfl) ?_
      refine va_get (pc := 6) (D := D) (ci := 5) (v := .ref (q 0)) (C := RX5) (T := TX5) (N := 41) hx hb hts iX5 hown hK.1 hP 0 rfl rfl 0 (by decide) (hts _ fl_RX5_7) (fun _ h => h) rfl dX5_wholes_6 ?_
      refine lv_iconst (v := 0) (pc := 9) hx hb dX5_wholes_9 (by decide) ?_
      have h4 : vp_in 0 59 := by unfold vp_in; decide
      refine va_iald (pc := 10) (f := om.2.2 0) hx hb hK.1 hP 1 0 rfl rfl h4 dX5_wholes_10 ?_
      refine lv_icmp_ge (pc := 11) (tgt := 37) hx hb dX5_wholes_11 (by decide) (fun c5 => ?_) (fun c5 => ?_)
      · replace hf := ip c5 hf
        cases hf
        exact K2 H locs ls hP hD hS (lv_sub hl [0, 1, 2] rfl)
      · replace hf := im c5 hf
        refine lv_iload_n (pc := 14) hx hb dX5_wholes_14 rfl (lv_at hl 1 rfl) ?_
        refine lv_aload_n (pc := 15) hx hb dX5_wholes_15 rfl (lv_at hl 0 rfl) ?_
        refine lv_iload_n (pc := 16) hx hb dX5_wholes_16 rfl (lv_at hl 2 rfl) ?_
        refine lv_iconst (v := 4) (pc := 17) hx hb dX5_wholes_17 (by decide) ?_
        obtain ⟨x6, ex6, hf⟩ := bd_some hf
        refine ct_V (pc := 18) (As := [.int v2, .int 4]) (rest := [.int v1]) (wr := []) (W1 := bX5 cI cZ a q om) ⟨hx, hb, hml, hown, hts⟩ hK (c_X5_ofPile l D cI cZ cS a q v2 4 om x6 ex6) gv_RX5_117 rfl hs_X5_ofPile rfl ⟨Nat.le_of_ble_eq_true rfl, Nat.le_of_ble_eq_true rfl⟩ (ci := 5) (q0 := 0) rfl rfl rfl hl.1 rfl (Nat.le_of_ble_eq_true rfl) dX5_wholes_18 ⟨Nat.zero_le _, Nat.zero_le _⟩ hP hD hS hA [0, 1, 2, 3, 4, 5, 6, 7, 8, 9, 10, 11, 12, 13, 14] [] [0, 1, 2, 3, 4, 5, 6, 7, 8, 9, 10, 11, 12, 13, 14] rfl rfl rfl rfl rfl rfl rfl (fun H locs hP hD hS => ?_)
        refine lv_if_ne (pc := 21) (tgt := 28) hx hb dX5_wholes_21 (by decide) (fun c7 => ?_) (fun c7 => ?_)
        · replace hf := im c7 hf
          refine lv_iconst (v := 0) (pc := 28) hx hb dX5_wholes_28 (by decide) ?_
          refine lv_iadd (pc := 29) hx hb dX5_wholes_29 ?_
          refine lv_istore_n (lv' := [(1, .int (v1 + 0)), (0, .ref a), (2, .int v2)]) (pc := 30) hx hb dX5_wholes_30 rfl hl (by decide) rfl (fun ls hl => ?_)
          refine lv_iinc (v := (v2 + 1)) (lv' := [(2, .int (v2 + 1)), (1, .int (v1 + 0)), (0, .ref a)]) (pc := 31) hx hb dX5_wholes_31 hl (k := 2) rfl rfl (by decide) rfl (fun ls hl => ?_)
          refine lv_goto (pc := 34) (tgt := 4) hx hb dX5_wholes_34 (by decide) ?_
          exact ih _ _ H locs ls hf hP hD hS (lv_sub hl [2, 1, 0] rfl)
        · replace hf := ip c7 hf
          refine lv_iconst (v := 1) (pc := 24) hx hb dX5_wholes_24 (by decide) ?_
          refine lv_goto (pc := 25) (tgt := 29) hx hb dX5_wholes_25 (by decide) ?_
          refine lv_iadd (pc := 29) hx hb dX5_wholes_29 ?_
          refine lv_istore_n (lv' := [(1, .int (v1 + 1)), (0, .ref a), (2, .int v2)]) (pc := 30) hx hb dX5_wholes_30 rfl hl (by decide) rfl (fun ls hl => ?_)
          refine lv_iinc (v := (v2 + 1)) (lv' := [(2, .int (v2 + 1)), (1, .int (v1 + 1)), (0, .ref a)]) (pc := 31) hx hb dX5_wholes_31 hl (k := 2) rfl rfl (by decide) rfl (fun ls hl => ?_)
          refine lv_goto (pc := 34) (tgt := 4) hx hb dX5_wholes_34 (by decide) ?_
          exact ih _ _ H locs ls hf hP hD hS (lv_sub hl [2, 1, 0] rfl)
  exact KL3 1000 _ _ H locs ls hz1 hP hD hS (lv_sub hl [2, 1, 0] rfl)
def f_X5_type (i0 : Int32) (om : OS) : Option (Int32 × OS) := Option.bind (f_X5_in i0 0 255) fun x1 => if x1 = 0 then some ((-1), om) else if (om.1 9) = 160 then some ((-3), om) else ck (om.1 9) 160 (some (((om.1 9) + 1), (sI (sA om 8 (((om.1 9) : Int32).toNatClampNeg) i0) 9 ((om.1 9) + 1))))
set_option maxHeartbeats 4000000 in
set_option maxRecDepth 100000 in
theorem c_X5_type (l : Launch) (D : va_G) (cI cZ cS : ClassId) (a : Nat) (q : Nat → Nat) (i0 : Int32) (om : OS) (x : (Int32 × OS)) (hf : f_X5_type i0 om = some x) : Ct l yX5_type cX5_type 2 (some .int) 1 22 D cI cZ cS [.ref a, .int i0] (bX5 cI cZ a q om) (some (.int x.1)) (bX5 cI cZ a q x.2) := by
  intro sz
  refine Met.ofW (cc := cX5_type) (maxL := 2) (ret := (some .int)) (by decide) rfl ?_
  intro p e s m args below meth c s₁ B hml hv
  obtain ⟨rfl, hsz, hP, hK, hD0⟩ := hv
  have hx := B.exec
  have hb := B.bytes
  have hr := B.returns
  have hts0 := atoms_spec (ws := .code yX5_type cX5_type 2 (some .int) :: TB) B.pre
  have hts := fun w (h : w ∈ TB) => hts0 w (List.mem_cons_of_mem _ h)
  have hown : s.vm.findClass RX5 = some m.cls := findClass_of_methodNamed B.named
  have hlocks := B.notSynchronized
  subst hsz
  have hD := hD0.self (sz := s.heap.size)
  generalize hAe : va_A (bX5 cI cZ a q om) s.heap.size = A at hD ⊢
  have hA : ∀ q : Nat, s.heap.size ≤ q → A q := fun q h => by rw [← hAe]; exact Or.inr h
  have hS : va_S A s.heap s.heap [] := va_S.rf
  obtain ⟨H, hH⟩ : ∃ H, H = s.heap := ⟨_, rfl⟩
  rw [← hH] at hP
  have hS : va_S A s.heap H [] := by rw [hH]; exact hS
  have hl := lv_entry ([.ref a, .int i0]) (n := 2) (Nat.le_of_ble_eq_true rfl)
  rw [lg_entry_eq]
  generalize (lg_sl ([.ref a, .int i0]) ++ List.replicate (2 - (lg_sl ([.ref a, .int i0])).length) Slot.unset).toArray = ls at hl ⊢
  have hl : lv_has ls 2 [(0, .ref a), (1, .int i0)] := hl
  refine W_heap hH ?_
  obtain ⟨locs, hlo⟩ : ∃ locs : List Loc, locs = [] := ⟨_, rfl⟩
  rw [← hlo] at hS ⊢
  unfold f_X5_type at hf
  refine lv_iload_n (pc := 0) hx hb dX5_type_0 rfl (lv_at hl 1 rfl) ?_
  refine lv_iconst (v := 0) (pc := 1) hx hb dX5_type_1 (by decide) ?_
  refine lv_sipush (v := 255) (pc := 2) hx hb dX5_type_2 (by decide) ?_
  obtain ⟨x1, ex1, hf⟩ := bd_some hf
  refine ct_S (pc := 5) (As := [.int i0, .int 0, .int 255]) (rest := []) (wr := bX5 cI cZ a q om) (W1 := bX5 cI cZ a q om) ⟨hx, hb, hml, hown, hts⟩ hK (c_X5_in l D cI cZ cS i0 0 255 x1 ex1) gs_RX5_57 hs_X5_in rfl ⟨Nat.le_of_ble_eq_true rfl, Nat.le_of_ble_eq_true rfl⟩ hl.1 rfl (Nat.le_of_ble_eq_true rfl) dX5_type_5 ⟨Nat.zero_le _, Nat.zero_le _⟩ hP hD hS hA [] [0, 1, 2, 3, 4, 5, 6, 7, 8, 9, 10, 11, 12, 13, 14] [0, 1, 2, 3, 4, 5, 6, 7, 8, 9, 10, 11, 12, 13, 14] rfl rfl rfl rfl rfl rfl rfl (fun H locs hP hD hS => ?_)
  refine lv_if_ne (pc := 8) (tgt := 13) hx hb dX5_type_8 (by decide) (fun c2 => ?_) (fun c2 => ?_)
  · replace hf := im c2 hf
    refine lv_aload_n (pc := 13) hx hb dX5_type_13 rfl (lv_at hl 0 rfl) ?_
    refine va_get (pc := 14) (D := D) (ci := 5) (v := .int (om.1 9)) (C := RX5) (T := TX5) (N := 41) hx hb hts iX5 hown hK.1 hP 0 rfl rfl 9 (by decide) (hts _ fl_RX5_61) (fun _ h => h) rfl dX5_type_14 ?_
    refine lv_sipush (v := 160) (pc := 17) hx hb dX5_type_17 (by decide) ?_
    refine lv_icmp_ne (pc := 20) (tgt := 26) hx hb dX5_type_20 (by decide) (fun c3 => ?_) (fun c3 => ?_)
    · replace hf := im c3 hf
      refine lv_aload_n (pc := 26) hx hb dX5_type_26 rfl (lv_at hl 0 rfl) ?_
      refine va_get (pc := 27) (D := D) (ci := 5) (v := .ref (q 8)) (C := RX5) (T := TX5) (N := 41) hx hb hts iX5 hown hK.1 hP 0 rfl rfl 8 (by decide) (hts _ fl_RX5_30) (fun _ h => h) rfl dX5_type_27 ?_
      refine lv_aload_n (pc := 30) hx hb dX5_type_30 rfl (lv_at hl 0 rfl) ?_
      refine va_get (pc := 31) (D := D) (ci := 5) (v := .int (om.1 9)) (C := RX5) (T := TX5) (N := 41) hx hb hts iX5 hown hK.1 hP 0 rfl rfl 9 (by decide) (hts _ fl_RX5_61) (fun _ h => h) rfl dX5_type_31 ?_
      refine lv_iload_n (pc := 34) hx hb dX5_type_34 rfl (lv_at hl 1 rfl) ?_
      obtain ⟨h4, hf⟩ := ck_some hf
      refine va_iast (pc := 35) (f := om.2.2 8) hx hb hK.1 hP hD hS 6 0 rfl rfl h4 dX5_type_35 (fun H locs hP hD hS => ?_)
      replace hP : va_P D vwCl (bX5 cI cZ a q (sA om 8 (((om.1 9) : Int32).toNatClampNeg) i0)) H := hP
      replace hD : va_D A (bX5 cI cZ a q (sA om 8 (((om.1 9) : Int32).toNatClampNeg) i0)) := hD
      refine lv_aload_n (pc := 36) hx hb dX5_type_36 rfl (lv_at hl 0 rfl) ?_
      refine lv_dup (pc := 37) hx hb dX5_type_37 rfl ?_
      refine va_get (pc := 38) (D := D) (ci := 5) (v := .int (om.1 9)) (C := RX5) (T := TX5) (N := 41) hx hb hts iX5 hown hK.1 hP 0 rfl rfl 9 (by decide) (hts _ fl_RX5_61) (fun _ h => h) rfl dX5_type_38 ?_
      refine lv_iconst (v := 1) (pc := 41) hx hb dX5_type_41 (by decide) ?_
      refine lv_iadd (pc := 42) hx hb dX5_type_42 ?_
      refine va_put (pc := 43) (D := D) (ci := 5) (v := .int ((om.1 9) + 1)) (ty := .int) (C := RX5) (T := TX5) (N := 41) hx hb hts iX5 tyX5 tyX5_ok nmX5 hown hK.1 hP hD hS 0 rfl rfl 9 (by decide) (hts _ fl_RX5_61) (fun _ h => h) rfl (tyX5_ok 9 (by decide)) rfl rfl (Nat.le_of_ble_eq_true rfl) dX5_type_43 (fun H locs hP hD hS => ?_)
      replace hP : va_P D vwCl (bX5 cI cZ a q (sI (sA om 8 (((om.1 9) : Int32).toNatClampNeg) i0) 9 ((om.1 9) + 1))) H := hP
      replace hD : va_D A (bX5 cI cZ a q (sI (sA om 8 (((om.1 9) : Int32).toNatClampNeg) i0) 9 ((om.1 9) + 1))) := hD
      refine lv_aload_n (pc := 46) hx hb dX5_type_46 rfl (lv_at hl 0 rfl) ?_
      refine va_get (pc := 47) (D := D) (ci := 5) (v := .int ((om.1 9) + 1)) (C := RX5) (T := TX5) (N := 41) hx hb hts iX5 hown hK.1 hP 0 rfl rfl 9 (by decide) (hts _ fl_RX5_61) (fun _ h => h) rfl dX5_type_47 ?_
      cases hf
      exact W.iret hx hb hr (fun t ht hW => ⟨rfl, by rw [ht]; exact hP, hD, hS.F ht⟩) hS.2.2 dX5_type_50
    · replace hf := ip c3 hf
      refine lv_bipush (v := -3) (pc := 23) hx hb dX5_type_23 (by decide) ?_
      cases hf
      exact W.iret hx hb hr (fun t ht hW => ⟨rfl, by rw [ht]; exact hP, hD, hS.F ht⟩) hS.2.2 dX5_type_25
  · replace hf := ip c2 hf
    refine lv_iconst (v := -1) (pc := 11) hx hb dX5_type_11 (by decide) ?_
    cases hf
    exact W.iret hx hb hr (fun t ht hW => ⟨rfl, by rw [ht]; exact hP, hD, hS.F ht⟩) hS.2.2 dX5_type_12
end
