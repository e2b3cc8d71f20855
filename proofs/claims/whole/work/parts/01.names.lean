-- ===== PART A: goes FIRST, ahead of the names: the tables' words, and 'selects' of the private methods out of them =====
/-- a private method of a class that the tables say can be made, by its rows of tables_1 -/
def lw_okq (q : MethodName × Nat) : Prop := (q.1.cls ≠ "java/lang/invoke/MethodHandle" ∧ q.1.cls ≠ "java/lang/invoke/VarHandle") ∧ Cond.instantiable q.1.cls q.2 ∈ tables_1 ∧ Cond.privateMethod q.1 ∈ tables_1 ∧ Cond.instanceMethod q.1 ∈ tables_1
theorem lw_p0 : lw_okq (⟨"StrayKeys", "found", "(I)I"⟩, 15) := ⟨⟨by decide +kernel, by decide +kernel⟩, List.mem_of_getElem? (i := 11) (by decide +kernel), List.mem_of_getElem? (i := 188) (by decide +kernel), List.mem_of_getElem? (i := 189) (by decide +kernel)⟩
theorem lw_p1 : lw_okq (⟨"StrayKeys", "refusePlace", "(LStrayKeys$Shelf;II)I"⟩, 15) := ⟨⟨by decide +kernel, by decide +kernel⟩, List.mem_of_getElem? (i := 11) (by decide +kernel), List.mem_of_getElem? (i := 196) (by decide +kernel), List.mem_of_getElem? (i := 197) (by decide +kernel)⟩
theorem lw_p2 : lw_okq (⟨"StrayKeys", "refuseShelfPlace", "(LStrayKeys$Shelf;I)I"⟩, 15) := ⟨⟨by decide +kernel, by decide +kernel⟩, List.mem_of_getElem? (i := 11) (by decide +kernel), List.mem_of_getElem? (i := 200) (by decide +kernel), List.mem_of_getElem? (i := 201) (by decide +kernel)⟩
theorem lw_p3 : lw_okq (⟨"StrayKeys$Layout", "rightSigns", "(LStrayKeys$Shelf;II)I"⟩, 5) := ⟨⟨by decide +kernel, by decide +kernel⟩, List.mem_of_getElem? (i := 43) (by decide +kernel), List.mem_of_getElem? (i := 279) (by decide +kernel), List.mem_of_getElem? (i := 280) (by decide +kernel)⟩
theorem lw_p4 : lw_okq (⟨"StrayKeys", "keyFact", "(II)I"⟩, 15) := ⟨⟨by decide +kernel, by decide +kernel⟩, List.mem_of_getElem? (i := 11) (by decide +kernel), List.mem_of_getElem? (i := 316) (by decide +kernel), List.mem_of_getElem? (i := 317) (by decide +kernel)⟩
theorem lw_p5 : lw_okq (⟨"StrayKeys", "toldNow", "()I"⟩, 15) := ⟨⟨by decide +kernel, by decide +kernel⟩, List.mem_of_getElem? (i := 11) (by decide +kernel), List.mem_of_getElem? (i := 349) (by decide +kernel), List.mem_of_getElem? (i := 350) (by decide +kernel)⟩
theorem lw_p6 : lw_okq (⟨"StrayKeys", "toldAt", "(LStrayKeys$Moment;)I"⟩, 15) := ⟨⟨by decide +kernel, by decide +kernel⟩, List.mem_of_getElem? (i := 11) (by decide +kernel), List.mem_of_getElem? (i := 353) (by decide +kernel), List.mem_of_getElem? (i := 354) (by decide +kernel)⟩
theorem lw_p7 : lw_okq (⟨"StrayKeys$Wires", "connect", "(I)V"⟩, 9) := ⟨⟨by decide +kernel, by decide +kernel⟩, List.mem_of_getElem? (i := 94) (by decide +kernel), List.mem_of_getElem? (i := 372) (by decide +kernel), List.mem_of_getElem? (i := 373) (by decide +kernel)⟩
theorem lw_p8 : lw_okq (⟨"StrayKeys$Wires", "columnsFrom", "(I)I"⟩, 9) := ⟨⟨by decide +kernel, by decide +kernel⟩, List.mem_of_getElem? (i := 94) (by decide +kernel), List.mem_of_getElem? (i := 376) (by decide +kernel), List.mem_of_getElem? (i := 377) (by decide +kernel)⟩
theorem lw_p9 : lw_okq (⟨"StrayKeys", "toldWerePlain", "(I)I"⟩, 15) := ⟨⟨by decide +kernel, by decide +kernel⟩, List.mem_of_getElem? (i := 11) (by decide +kernel), List.mem_of_getElem? (i := 386) (by decide +kernel), List.mem_of_getElem? (i := 387) (by decide +kernel)⟩
theorem lw_p10 : lw_okq (⟨"StrayKeys", "scansConducting", "(II)I"⟩, 15) := ⟨⟨by decide +kernel, by decide +kernel⟩, List.mem_of_getElem? (i := 11) (by decide +kernel), List.mem_of_getElem? (i := 400) (by decide +kernel), List.mem_of_getElem? (i := 401) (by decide +kernel)⟩
theorem lw_p11 : lw_okq (⟨"StrayKeys", "hasNoRoomFor", "(I)Z"⟩, 15) := ⟨⟨by decide +kernel, by decide +kernel⟩, List.mem_of_getElem? (i := 11) (by decide +kernel), List.mem_of_getElem? (i := 429) (by decide +kernel), List.mem_of_getElem? (i := 430) (by decide +kernel)⟩
theorem lw_p12 : lw_okq (⟨"StrayKeys", "perform", "(I)V"⟩, 15) := ⟨⟨by decide +kernel, by decide +kernel⟩, List.mem_of_getElem? (i := 11) (by decide +kernel), List.mem_of_getElem? (i := 433) (by decide +kernel), List.mem_of_getElem? (i := 434) (by decide +kernel)⟩
theorem lw_p13 : lw_okq (⟨"StrayKeys", "replay", "()V"⟩, 15) := ⟨⟨by decide +kernel, by decide +kernel⟩, List.mem_of_getElem? (i := 11) (by decide +kernel), List.mem_of_getElem? (i := 463) (by decide +kernel), List.mem_of_getElem? (i := 464) (by decide +kernel)⟩
theorem lw_p14 : lw_okq (⟨"StrayKeys", "isAmongFirst", "(II)Z"⟩, 15) := ⟨⟨by decide +kernel, by decide +kernel⟩, List.mem_of_getElem? (i := 11) (by decide +kernel), List.mem_of_getElem? (i := 493) (by decide +kernel), List.mem_of_getElem? (i := 494) (by decide +kernel)⟩
theorem lw_p15 : lw_okq (⟨"StrayKeys", "fillBySet", "()V"⟩, 15) := ⟨⟨by decide +kernel, by decide +kernel⟩, List.mem_of_getElem? (i := 11) (by decide +kernel), List.mem_of_getElem? (i := 515) (by decide +kernel), List.mem_of_getElem? (i := 516) (by decide +kernel)⟩
def lw_privs_1 : List (MethodName × Nat) := [(⟨"StrayKeys", "found", "(I)I"⟩, 15), (⟨"StrayKeys", "refusePlace", "(LStrayKeys$Shelf;II)I"⟩, 15), (⟨"StrayKeys", "refuseShelfPlace", "(LStrayKeys$Shelf;I)I"⟩, 15), (⟨"StrayKeys$Layout", "rightSigns", "(LStrayKeys$Shelf;II)I"⟩, 5), (⟨"StrayKeys", "keyFact", "(II)I"⟩, 15), (⟨"StrayKeys", "toldNow", "()I"⟩, 15), (⟨"StrayKeys", "toldAt", "(LStrayKeys$Moment;)I"⟩, 15), (⟨"StrayKeys$Wires", "connect", "(I)V"⟩, 9), (⟨"StrayKeys$Wires", "columnsFrom", "(I)I"⟩, 9), (⟨"StrayKeys", "toldWerePlain", "(I)I"⟩, 15), (⟨"StrayKeys", "scansConducting", "(II)I"⟩, 15), (⟨"StrayKeys", "hasNoRoomFor", "(I)Z"⟩, 15), (⟨"StrayKeys", "perform", "(I)V"⟩, 15), (⟨"StrayKeys", "replay", "()V"⟩, 15), (⟨"StrayKeys", "isAmongFirst", "(II)Z"⟩, 15), (⟨"StrayKeys", "fillBySet", "()V"⟩, 15)]
theorem lw_r1 : ∀ q ∈ lw_privs_1, lw_okq q := List.forall_mem_cons.mpr ⟨lw_p0, List.forall_mem_cons.mpr ⟨lw_p1, List.forall_mem_cons.mpr ⟨lw_p2, List.forall_mem_cons.mpr ⟨lw_p3, List.forall_mem_cons.mpr ⟨lw_p4, List.forall_mem_cons.mpr ⟨lw_p5, List.forall_mem_cons.mpr ⟨lw_p6, List.forall_mem_cons.mpr ⟨lw_p7, List.forall_mem_cons.mpr ⟨lw_p8, List.forall_mem_cons.mpr ⟨lw_p9, List.forall_mem_cons.mpr ⟨lw_p10, List.forall_mem_cons.mpr ⟨lw_p11, List.forall_mem_cons.mpr ⟨lw_p12, List.forall_mem_cons.mpr ⟨lw_p13, List.forall_mem_cons.mpr ⟨lw_p14, List.forall_mem_cons.mpr ⟨lw_p15, fun _ h => absurd h List.not_mem_nil⟩⟩⟩⟩⟩⟩⟩⟩⟩⟩⟩⟩⟩⟩⟩⟩
theorem lw_p16 : lw_okq (⟨"StrayKeys", "rightSetsOf", "(LStrayKeys$Layout;)I"⟩, 15) := ⟨⟨by decide +kernel, by decide +kernel⟩, List.mem_of_getElem? (i := 11) (by decide +kernel), List.mem_of_getElem? (i := 528) (by decide +kernel), List.mem_of_getElem? (i := 529) (by decide +kernel)⟩
theorem lw_p17 : lw_okq (⟨"StrayKeys", "refusePairs", "(II)I"⟩, 15) := ⟨⟨by decide +kernel, by decide +kernel⟩, List.mem_of_getElem? (i := 11) (by decide +kernel), List.mem_of_getElem? (i := 536) (by decide +kernel), List.mem_of_getElem? (i := 537) (by decide +kernel)⟩
theorem lw_p18 : lw_okq (⟨"StrayKeys", "kindsThatFit", "(II)I"⟩, 15) := ⟨⟨by decide +kernel, by decide +kernel⟩, List.mem_of_getElem? (i := 11) (by decide +kernel), List.mem_of_getElem? (i := 540) (by decide +kernel), List.mem_of_getElem? (i := 541) (by decide +kernel)⟩
theorem lw_p19 : lw_okq (⟨"StrayKeys", "fits", "(LStrayKeys$Layout;I)Z"⟩, 15) := ⟨⟨by decide +kernel, by decide +kernel⟩, List.mem_of_getElem? (i := 11) (by decide +kernel), List.mem_of_getElem? (i := 544) (by decide +kernel), List.mem_of_getElem? (i := 545) (by decide +kernel)⟩
theorem lw_p20 : lw_okq (⟨"StrayKeys", "fillByKind", "(II)V"⟩, 15) := ⟨⟨by decide +kernel, by decide +kernel⟩, List.mem_of_getElem? (i := 11) (by decide +kernel), List.mem_of_getElem? (i := 561) (by decide +kernel), List.mem_of_getElem? (i := 562) (by decide +kernel)⟩
theorem lw_p21 : lw_okq (⟨"StrayKeys", "greatestPart", "(II)I"⟩, 15) := ⟨⟨by decide +kernel, by decide +kernel⟩, List.mem_of_getElem? (i := 11) (by decide +kernel), List.mem_of_getElem? (i := 565) (by decide +kernel), List.mem_of_getElem? (i := 566) (by decide +kernel)⟩
theorem lw_p22 : lw_okq (⟨"StrayKeys", "ghostsOf", "(I)I"⟩, 15) := ⟨⟨by decide +kernel, by decide +kernel⟩, List.mem_of_getElem? (i := 11) (by decide +kernel), List.mem_of_getElem? (i := 573) (by decide +kernel), List.mem_of_getElem? (i := 574) (by decide +kernel)⟩
theorem lw_p23 : lw_okq (⟨"StrayKeys", "valueOf", "(I)I"⟩, 15) := ⟨⟨by decide +kernel, by decide +kernel⟩, List.mem_of_getElem? (i := 11) (by decide +kernel), List.mem_of_getElem? (i := 577) (by decide +kernel), List.mem_of_getElem? (i := 578) (by decide +kernel)⟩
theorem lw_p24 : lw_okq (⟨"StrayKeys", "takeBackTurn", "(Z)V"⟩, 15) := ⟨⟨by decide +kernel, by decide +kernel⟩, List.mem_of_getElem? (i := 11) (by decide +kernel), List.mem_of_getElem? (i := 581) (by decide +kernel), List.mem_of_getElem? (i := 582) (by decide +kernel)⟩
theorem lw_p25 : lw_okq (⟨"StrayKeys", "refuseChance", "(I)I"⟩, 15) := ⟨⟨by decide +kernel, by decide +kernel⟩, List.mem_of_getElem? (i := 11) (by decide +kernel), List.mem_of_getElem? (i := 589) (by decide +kernel), List.mem_of_getElem? (i := 590) (by decide +kernel)⟩
theorem lw_p26 : lw_okq (⟨"StrayKeys", "weight", "(II)J"⟩, 15) := ⟨⟨by decide +kernel, by decide +kernel⟩, List.mem_of_getElem? (i := 11) (by decide +kernel), List.mem_of_getElem? (i := 593) (by decide +kernel), List.mem_of_getElem? (i := 594) (by decide +kernel)⟩
theorem lw_p27 : lw_okq (⟨"StrayKeys", "tellFraction", "(JJ)V"⟩, 15) := ⟨⟨by decide +kernel, by decide +kernel⟩, List.mem_of_getElem? (i := 11) (by decide +kernel), List.mem_of_getElem? (i := 601) (by decide +kernel), List.mem_of_getElem? (i := 602) (by decide +kernel)⟩
theorem lw_p28 : lw_okq (⟨"StrayKeys", "deedByLot", "(J)I"⟩, 15) := ⟨⟨by decide +kernel, by decide +kernel⟩, List.mem_of_getElem? (i := 11) (by decide +kernel), List.mem_of_getElem? (i := 616) (by decide +kernel), List.mem_of_getElem? (i := 617) (by decide +kernel)⟩
theorem lw_p29 : lw_okq (⟨"StrayKeysModel", "find", "(I)I"⟩, 27) := ⟨⟨by decide +kernel, by decide +kernel⟩, List.mem_of_getElem? (i := 668) (by decide +kernel), List.mem_of_getElem? (i := 767) (by decide +kernel), List.mem_of_getElem? (i := 768) (by decide +kernel)⟩
theorem lw_p30 : lw_okq (⟨"StrayKeysModel", "tellAsked", "(I)I"⟩, 27) := ⟨⟨by decide +kernel, by decide +kernel⟩, List.mem_of_getElem? (i := 668) (by decide +kernel), List.mem_of_getElem? (i := 775) (by decide +kernel), List.mem_of_getElem? (i := 776) (by decide +kernel)⟩
theorem lw_p31 : lw_okq (⟨"StrayKeysModel", "read", "(I)I"⟩, 27) := ⟨⟨by decide +kernel, by decide +kernel⟩, List.mem_of_getElem? (i := 668) (by decide +kernel), List.mem_of_getElem? (i := 810) (by decide +kernel), List.mem_of_getElem? (i := 811) (by decide +kernel)⟩
def lw_privs_2 : List (MethodName × Nat) := [(⟨"StrayKeys", "rightSetsOf", "(LStrayKeys$Layout;)I"⟩, 15), (⟨"StrayKeys", "refusePairs", "(II)I"⟩, 15), (⟨"StrayKeys", "kindsThatFit", "(II)I"⟩, 15), (⟨"StrayKeys", "fits", "(LStrayKeys$Layout;I)Z"⟩, 15), (⟨"StrayKeys", "fillByKind", "(II)V"⟩, 15), (⟨"StrayKeys", "greatestPart", "(II)I"⟩, 15), (⟨"StrayKeys", "ghostsOf", "(I)I"⟩, 15), (⟨"StrayKeys", "valueOf", "(I)I"⟩, 15), (⟨"StrayKeys", "takeBackTurn", "(Z)V"⟩, 15), (⟨"StrayKeys", "refuseChance", "(I)I"⟩, 15), (⟨"StrayKeys", "weight", "(II)J"⟩, 15), (⟨"StrayKeys", "tellFraction", "(JJ)V"⟩, 15), (⟨"StrayKeys", "deedByLot", "(J)I"⟩, 15), (⟨"StrayKeysModel", "find", "(I)I"⟩, 27), (⟨"StrayKeysModel", "tellAsked", "(I)I"⟩, 27), (⟨"StrayKeysModel", "read", "(I)I"⟩, 27)]
theorem lw_r2 : ∀ q ∈ lw_privs_2, lw_okq q := List.forall_mem_cons.mpr ⟨lw_p16, List.forall_mem_cons.mpr ⟨lw_p17, List.forall_mem_cons.mpr ⟨lw_p18, List.forall_mem_cons.mpr ⟨lw_p19, List.forall_mem_cons.mpr ⟨lw_p20, List.forall_mem_cons.mpr ⟨lw_p21, List.forall_mem_cons.mpr ⟨lw_p22, List.forall_mem_cons.mpr ⟨lw_p23, List.forall_mem_cons.mpr ⟨lw_p24, List.forall_mem_cons.mpr ⟨lw_p25, List.forall_mem_cons.mpr ⟨lw_p26, List.forall_mem_cons.mpr ⟨lw_p27, List.forall_mem_cons.mpr ⟨lw_p28, List.forall_mem_cons.mpr ⟨lw_p29, List.forall_mem_cons.mpr ⟨lw_p30, List.forall_mem_cons.mpr ⟨lw_p31, fun _ h => absurd h List.not_mem_nil⟩⟩⟩⟩⟩⟩⟩⟩⟩⟩⟩⟩⟩⟩⟩⟩
theorem lw_p32 : lw_okq (⟨"StrayKeysModel", "figure", "(III)I"⟩, 27) := ⟨⟨by decide +kernel, by decide +kernel⟩, List.mem_of_getElem? (i := 668) (by decide +kernel), List.mem_of_getElem? (i := 817) (by decide +kernel), List.mem_of_getElem? (i := 818) (by decide +kernel)⟩
theorem lw_p33 : lw_okq (⟨"StrayKeysModel", "isKey", "(I)Z"⟩, 27) := ⟨⟨by decide +kernel, by decide +kernel⟩, List.mem_of_getElem? (i := 668) (by decide +kernel), List.mem_of_getElem? (i := 829) (by decide +kernel), List.mem_of_getElem? (i := 830) (by decide +kernel)⟩
theorem lw_p34 : lw_okq (⟨"StrayKeysModel", "factOf", "(II)I"⟩, 27) := ⟨⟨by decide +kernel, by decide +kernel⟩, List.mem_of_getElem? (i := 668) (by decide +kernel), List.mem_of_getElem? (i := 833) (by decide +kernel), List.mem_of_getElem? (i := 834) (by decide +kernel)⟩
theorem lw_p35 : lw_okq (⟨"StrayKeysModel", "now", "(I)I"⟩, 27) := ⟨⟨by decide +kernel, by decide +kernel⟩, List.mem_of_getElem? (i := 668) (by decide +kernel), List.mem_of_getElem? (i := 837) (by decide +kernel), List.mem_of_getElem? (i := 838) (by decide +kernel)⟩
theorem lw_p36 : lw_okq (⟨"StrayKeysModel", "take", "()V"⟩, 27) := ⟨⟨by decide +kernel, by decide +kernel⟩, List.mem_of_getElem? (i := 668) (by decide +kernel), List.mem_of_getElem? (i := 844) (by decide +kernel), List.mem_of_getElem? (i := 845) (by decide +kernel)⟩
theorem lw_p37 : lw_okq (⟨"StrayKeysModel", "conducts", "(I)Z"⟩, 27) := ⟨⟨by decide +kernel, by decide +kernel⟩, List.mem_of_getElem? (i := 668) (by decide +kernel), List.mem_of_getElem? (i := 848) (by decide +kernel), List.mem_of_getElem? (i := 849) (by decide +kernel)⟩
theorem lw_p38 : lw_okq (⟨"StrayKeysModel", "toldNow", "()I"⟩, 27) := ⟨⟨by decide +kernel, by decide +kernel⟩, List.mem_of_getElem? (i := 668) (by decide +kernel), List.mem_of_getElem? (i := 855) (by decide +kernel), List.mem_of_getElem? (i := 856) (by decide +kernel)⟩
theorem lw_p39 : lw_okq (⟨"StrayKeysModel", "toldBy", "()I"⟩, 27) := ⟨⟨by decide +kernel, by decide +kernel⟩, List.mem_of_getElem? (i := 668) (by decide +kernel), List.mem_of_getElem? (i := 859) (by decide +kernel), List.mem_of_getElem? (i := 860) (by decide +kernel)⟩
theorem lw_p40 : lw_okq (⟨"StrayKeysModel", "readBy", "(I)I"⟩, 27) := ⟨⟨by decide +kernel, by decide +kernel⟩, List.mem_of_getElem? (i := 668) (by decide +kernel), List.mem_of_getElem? (i := 863) (by decide +kernel), List.mem_of_getElem? (i := 864) (by decide +kernel)⟩
theorem lw_p41 : lw_okq (⟨"StrayKeysModel", "begin", "()V"⟩, 27) := ⟨⟨by decide +kernel, by decide +kernel⟩, List.mem_of_getElem? (i := 668) (by decide +kernel), List.mem_of_getElem? (i := 885) (by decide +kernel), List.mem_of_getElem? (i := 886) (by decide +kernel)⟩
theorem lw_p42 : lw_okq (⟨"StrayKeysModel", "pressNow", "(I)V"⟩, 27) := ⟨⟨by decide +kernel, by decide +kernel⟩, List.mem_of_getElem? (i := 668) (by decide +kernel), List.mem_of_getElem? (i := 889) (by decide +kernel), List.mem_of_getElem? (i := 890) (by decide +kernel)⟩
theorem lw_p43 : lw_okq (⟨"StrayKeysModel", "passOn", "([II)V"⟩, 27) := ⟨⟨by decide +kernel, by decide +kernel⟩, List.mem_of_getElem? (i := 668) (by decide +kernel), List.mem_of_getElem? (i := 900) (by decide +kernel), List.mem_of_getElem? (i := 901) (by decide +kernel)⟩
theorem lw_p44 : lw_okq (⟨"StrayKeysModel", "isSet", "(I)Z"⟩, 27) := ⟨⟨by decide +kernel, by decide +kernel⟩, List.mem_of_getElem? (i := 668) (by decide +kernel), List.mem_of_getElem? (i := 936) (by decide +kernel), List.mem_of_getElem? (i := 937) (by decide +kernel)⟩
theorem lw_p45 : lw_okq (⟨"StrayKeysModel", "toldOf", "(I)I"⟩, 27) := ⟨⟨by decide +kernel, by decide +kernel⟩, List.mem_of_getElem? (i := 668) (by decide +kernel), List.mem_of_getElem? (i := 940) (by decide +kernel), List.mem_of_getElem? (i := 941) (by decide +kernel)⟩
theorem lw_p46 : lw_okq (⟨"StrayKeysModel", "rightSets", "()I"⟩, 27) := ⟨⟨by decide +kernel, by decide +kernel⟩, List.mem_of_getElem? (i := 668) (by decide +kernel), List.mem_of_getElem? (i := 952) (by decide +kernel), List.mem_of_getElem? (i := 953) (by decide +kernel)⟩
theorem lw_p47 : lw_okq (⟨"StrayKeysModel", "pairs", "(I)I"⟩, 27) := ⟨⟨by decide +kernel, by decide +kernel⟩, List.mem_of_getElem? (i := 668) (by decide +kernel), List.mem_of_getElem? (i := 968) (by decide +kernel), List.mem_of_getElem? (i := 969) (by decide +kernel)⟩
def lw_privs_3 : List (MethodName × Nat) := [(⟨"StrayKeysModel", "figure", "(III)I"⟩, 27), (⟨"StrayKeysModel", "isKey", "(I)Z"⟩, 27), (⟨"StrayKeysModel", "factOf", "(II)I"⟩, 27), (⟨"StrayKeysModel", "now", "(I)I"⟩, 27), (⟨"StrayKeysModel", "take", "()V"⟩, 27), (⟨"StrayKeysModel", "conducts", "(I)Z"⟩, 27), (⟨"StrayKeysModel", "toldNow", "()I"⟩, 27), (⟨"StrayKeysModel", "toldBy", "()I"⟩, 27), (⟨"StrayKeysModel", "readBy", "(I)I"⟩, 27), (⟨"StrayKeysModel", "begin", "()V"⟩, 27), (⟨"StrayKeysModel", "pressNow", "(I)V"⟩, 27), (⟨"StrayKeysModel", "passOn", "([II)V"⟩, 27), (⟨"StrayKeysModel", "isSet", "(I)Z"⟩, 27), (⟨"StrayKeysModel", "toldOf", "(I)I"⟩, 27), (⟨"StrayKeysModel", "rightSets", "()I"⟩, 27), (⟨"StrayKeysModel", "pairs", "(I)I"⟩, 27)]
theorem lw_r3 : ∀ q ∈ lw_privs_3, lw_okq q := List.forall_mem_cons.mpr ⟨lw_p32, List.forall_mem_cons.mpr ⟨lw_p33, List.forall_mem_cons.mpr ⟨lw_p34, List.forall_mem_cons.mpr ⟨lw_p35, List.forall_mem_cons.mpr ⟨lw_p36, List.forall_mem_cons.mpr ⟨lw_p37, List.forall_mem_cons.mpr ⟨lw_p38, List.forall_mem_cons.mpr ⟨lw_p39, List.forall_mem_cons.mpr ⟨lw_p40, List.forall_mem_cons.mpr ⟨lw_p41, List.forall_mem_cons.mpr ⟨lw_p42, List.forall_mem_cons.mpr ⟨lw_p43, List.forall_mem_cons.mpr ⟨lw_p44, List.forall_mem_cons.mpr ⟨lw_p45, List.forall_mem_cons.mpr ⟨lw_p46, List.forall_mem_cons.mpr ⟨lw_p47, fun _ h => absurd h List.not_mem_nil⟩⟩⟩⟩⟩⟩⟩⟩⟩⟩⟩⟩⟩⟩⟩⟩
theorem lw_p48 : lw_okq (⟨"StrayKeysModel", "kindsBy", "(II)I"⟩, 27) := ⟨⟨by decide +kernel, by decide +kernel⟩, List.mem_of_getElem? (i := 668) (by decide +kernel), List.mem_of_getElem? (i := 972) (by decide +kernel), List.mem_of_getElem? (i := 973) (by decide +kernel)⟩
theorem lw_p49 : lw_okq (⟨"StrayKeysModel", "isSo", "(I)Z"⟩, 27) := ⟨⟨by decide +kernel, by decide +kernel⟩, List.mem_of_getElem? (i := 668) (by decide +kernel), List.mem_of_getElem? (i := 976) (by decide +kernel), List.mem_of_getElem? (i := 977) (by decide +kernel)⟩
theorem lw_p50 : lw_okq (⟨"StrayKeysModel", "isFree", "(III)Z"⟩, 27) := ⟨⟨by decide +kernel, by decide +kernel⟩, List.mem_of_getElem? (i := 668) (by decide +kernel), List.mem_of_getElem? (i := 984) (by decide +kernel), List.mem_of_getElem? (i := 985) (by decide +kernel)⟩
theorem lw_p51 : lw_okq (⟨"StrayKeysModel", "waysOf", "(II)J"⟩, 27) := ⟨⟨by decide +kernel, by decide +kernel⟩, List.mem_of_getElem? (i := 668) (by decide +kernel), List.mem_of_getElem? (i := 1000) (by decide +kernel), List.mem_of_getElem? (i := 1001) (by decide +kernel)⟩
theorem lw_p52 : lw_okq (⟨"StrayKeysModel", "allWays", "()J"⟩, 27) := ⟨⟨by decide +kernel, by decide +kernel⟩, List.mem_of_getElem? (i := 668) (by decide +kernel), List.mem_of_getElem? (i := 1005) (by decide +kernel), List.mem_of_getElem? (i := 1006) (by decide +kernel)⟩
theorem lw_p53 : lw_okq (⟨"StrayKeysModel", "fraction", "(JJ)I"⟩, 27) := ⟨⟨by decide +kernel, by decide +kernel⟩, List.mem_of_getElem? (i := 668) (by decide +kernel), List.mem_of_getElem? (i := 1009) (by decide +kernel), List.mem_of_getElem? (i := 1010) (by decide +kernel)⟩
theorem lw_p54 : lw_okq (⟨"StrayKeysModel", "thereAre", "(I)I"⟩, 27) := ⟨⟨by decide +kernel, by decide +kernel⟩, List.mem_of_getElem? (i := 668) (by decide +kernel), List.mem_of_getElem? (i := 1042) (by decide +kernel), List.mem_of_getElem? (i := 1043) (by decide +kernel)⟩
theorem lw_p55 : lw_okq (⟨"StrayKeysModel", "ofKinds", "(II)I"⟩, 27) := ⟨⟨by decide +kernel, by decide +kernel⟩, List.mem_of_getElem? (i := 668) (by decide +kernel), List.mem_of_getElem? (i := 1046) (by decide +kernel), List.mem_of_getElem? (i := 1047) (by decide +kernel)⟩
def lw_privs_4 : List (MethodName × Nat) := [(⟨"StrayKeysModel", "kindsBy", "(II)I"⟩, 27), (⟨"StrayKeysModel", "isSo", "(I)Z"⟩, 27), (⟨"StrayKeysModel", "isFree", "(III)Z"⟩, 27), (⟨"StrayKeysModel", "waysOf", "(II)J"⟩, 27), (⟨"StrayKeysModel", "allWays", "()J"⟩, 27), (⟨"StrayKeysModel", "fraction", "(JJ)I"⟩, 27), (⟨"StrayKeysModel", "thereAre", "(I)I"⟩, 27), (⟨"StrayKeysModel", "ofKinds", "(II)I"⟩, 27)]
theorem lw_r4 : ∀ q ∈ lw_privs_4, lw_okq q := List.forall_mem_cons.mpr ⟨lw_p48, List.forall_mem_cons.mpr ⟨lw_p49, List.forall_mem_cons.mpr ⟨lw_p50, List.forall_mem_cons.mpr ⟨lw_p51, List.forall_mem_cons.mpr ⟨lw_p52, List.forall_mem_cons.mpr ⟨lw_p53, List.forall_mem_cons.mpr ⟨lw_p54, List.forall_mem_cons.mpr ⟨lw_p55, fun _ h => absurd h List.not_mem_nil⟩⟩⟩⟩⟩⟩⟩⟩
def lw_privs : List (MethodName × Nat) := lw_privs_1 ++ (lw_privs_2 ++ (lw_privs_3 ++ (lw_privs_4)))
def lw_tbl : List Cond := k2_sels lw_privs ++ tables_1
theorem lw_privs_ok : ∀ q ∈ lw_privs, lw_okq q := by
  show ∀ q ∈ lw_privs_1 ++ (lw_privs_2 ++ (lw_privs_3 ++ (lw_privs_4))), lw_okq q
  exact List.forall_mem_append.mpr ⟨lw_r1, List.forall_mem_append.mpr ⟨lw_r2, List.forall_mem_append.mpr ⟨lw_r3, lw_r4⟩⟩⟩
def RX0 : String := "StrayKeys$Layout"
def TX0 : u_T := fun k => match k with
  | 0 => ("StrayKeys$Layout", "kind", "[I", true)
  | 1 => ("StrayKeys$Layout", "line", "[I", true)
  | 2 => ("StrayKeys$Layout", "column", "[I", true)
  | 3 => ("StrayKeys$Layout", "delay", "[I", true)
  | _ => ("StrayKeys$Layout", "size", "I", false)
def tyX0 : Nat → FieldType := fun k => match k with
  | 0 => .array .int
  | 1 => .array .int
  | 2 => .array .int
  | 3 => .array .int
  | _ => .int
abbrev wsX00 : List Cond := u_ws RX0 TX0 5
theorem nmX0 : ∀ a, a < 5 → ∀ b, b < 5 → a ≠ b → (TX0 a).2.1 ≠ (TX0 b).2.1 := by decide +kernel
theorem tyX0_ok : ∀ k, k < 5 → parseFieldDescriptor (TX0 k).2.2.1 = some (tyX0 k) := by decide +kernel
abbrev cX0_init : ByteArray := prog_2_method_1_code
def yX0_init : MethodName := ⟨RX0, "<init>", "()V"⟩
abbrev cX0_has : ByteArray := prog_2_method_2_code
def yX0_has : MethodName := ⟨RX0, "has", "(I)Z"⟩
abbrev cX0_sets : ByteArray := prog_2_method_3_code
def yX0_sets : MethodName := ⟨RX0, "sets", "()I"⟩
abbrev cX0_kindOf : ByteArray := prog_2_method_4_code
def yX0_kindOf : MethodName := ⟨RX0, "kindOf", "(I)I"⟩
abbrev cX0_lineOf : ByteArray := prog_2_method_5_code
def yX0_lineOf : MethodName := ⟨RX0, "lineOf", "(I)I"⟩
abbrev cX0_columnOf : ByteArray := prog_2_method_6_code
def yX0_columnOf : MethodName := ⟨RX0, "columnOf", "(I)I"⟩
abbrev cX0_delayOf : ByteArray := prog_2_method_7_code
def yX0_delayOf : MethodName := ⟨RX0, "delayOf", "(I)I"⟩
abbrev cX0_keyAt : ByteArray := prog_2_method_8_code
def yX0_keyAt : MethodName := ⟨RX0, "keyAt", "(II)I"⟩
abbrev cX0_howManyOf : ByteArray := prog_2_method_9_code
def yX0_howManyOf : MethodName := ⟨RX0, "howManyOf", "(I)I"⟩
abbrev cX0_turnInto : ByteArray := prog_2_method_10_code
def yX0_turnInto : MethodName := ⟨RX0, "turnInto", "(II)V"⟩
abbrev cX0_seat : ByteArray := prog_2_method_11_code
def yX0_seat : MethodName := ⟨RX0, "seat", "(III)V"⟩
abbrev cX0_copyFrom : ByteArray := prog_2_method_12_code
def yX0_copyFrom : MethodName := ⟨RX0, "copyFrom", "(LStrayKeys$Layout;)V"⟩
abbrev cX0_conducts : ByteArray := prog_2_method_13_code
def yX0_conducts : MethodName := ⟨RX0, "conducts", "(ILStrayKeys$Moment;I)Z"⟩
abbrev cX0_readFrom : ByteArray := prog_2_method_14_code
def yX0_readFrom : MethodName := ⟨RX0, "readFrom", "(LStrayKeys$Shelf;I)I"⟩
abbrev cX0_behindBlanks : ByteArray := prog_2_method_15_code
def yX0_behindBlanks : MethodName := ⟨RX0, "behindBlanks", "(LStrayKeys$Shelf;II)I"⟩
abbrev cX0_rightSigns : ByteArray := prog_2_method_16_code
def yX0_rightSigns : MethodName := ⟨RX0, "rightSigns", "(LStrayKeys$Shelf;II)I"⟩
abbrev cX0_kindOfLetter : ByteArray := prog_2_method_17_code
def yX0_kindOfLetter : MethodName := ⟨RX0, "kindOfLetter", "(I)I"⟩
abbrev cX0_figure : ByteArray := prog_2_method_18_code
def yX0_figure : MethodName := ⟨RX0, "figure", "(II)I"⟩
def RX1 : String := "StrayKeys$Moment"
def TX1 : u_T := fun k => match k with
  | 0 => ("StrayKeys$Moment", "held", "[I", true)
  | 1 => ("StrayKeys$Moment", "scanNumber", "I", false)
  | 2 => ("StrayKeys$Moment", "pressed", "I", false)
  | _ => ("StrayKeys$Moment", "severed", "I", false)
def tyX1 : Nat → FieldType := fun k => match k with
  | 0 => .array .int
  | 1 => .int
  | 2 => .int
  | _ => .int
abbrev wsX10 : List Cond := u_ws RX1 TX1 4
theorem nmX1 : ∀ a, a < 4 → ∀ b, b < 4 → a ≠ b → (TX1 a).2.1 ≠ (TX1 b).2.1 := by decide +kernel
theorem tyX1_ok : ∀ k, k < 4 → parseFieldDescriptor (TX1 k).2.2.1 = some (tyX1 k) := by decide +kernel
abbrev cX1_init : ByteArray := prog_3_method_1_code
def yX1_init : MethodName := ⟨RX1, "<init>", "()V"⟩
abbrev cX1_heldFor : ByteArray := prog_3_method_2_code
def yX1_heldFor : MethodName := ⟨RX1, "heldFor", "(I)I"⟩
abbrev cX1_reset : ByteArray := prog_3_method_3_code
def yX1_reset : MethodName := ⟨RX1, "reset", "()V"⟩
abbrev cX1_copyFrom : ByteArray := prog_3_method_4_code
def yX1_copyFrom : MethodName := ⟨RX1, "copyFrom", "(LStrayKeys$Moment;)V"⟩
abbrev cX1_undergo : ByteArray := prog_3_method_5_code
def yX1_undergo : MethodName := ⟨RX1, "undergo", "(I)V"⟩
abbrev cX1_passScan : ByteArray := prog_3_method_6_code
def yX1_passScan : MethodName := ⟨RX1, "passScan", "()V"⟩
def RX2 : String := "StrayKeys$Shelf"
def TX2 : u_T := fun k => match k with
  | 0 => ("StrayKeys$Shelf", "places", "I", true)
  | 1 => ("StrayKeys$Shelf", "most", "I", true)
  | 2 => ("StrayKeys$Shelf", "sizes", "[I", true)
  | _ => ("StrayKeys$Shelf", "cells", "[I", true)
def tyX2 : Nat → FieldType := fun k => match k with
  | 0 => .int
  | 1 => .int
  | 2 => .array .int
  | _ => .array .int
abbrev wsX20 : List Cond := u_ws RX2 TX2 4
theorem nmX2 : ∀ a, a < 4 → ∀ b, b < 4 → a ≠ b → (TX2 a).2.1 ≠ (TX2 b).2.1 := by decide +kernel
theorem tyX2_ok : ∀ k, k < 4 → parseFieldDescriptor (TX2 k).2.2.1 = some (tyX2 k) := by decide +kernel
abbrev cX2_init : ByteArray := prog_4_method_1_code
def yX2_init : MethodName := ⟨RX2, "<init>", "(II)V"⟩
abbrev cX2_size : ByteArray := prog_4_method_2_code
def yX2_size : MethodName := ⟨RX2, "size", "(I)I"⟩
abbrev cX2_has : ByteArray := prog_4_method_3_code
def yX2_has : MethodName := ⟨RX2, "has", "(I)Z"⟩
abbrev cX2_howMany : ByteArray := prog_4_method_4_code
def yX2_howMany : MethodName := ⟨RX2, "howMany", "(I)I"⟩
abbrev cX2_get : ByteArray := prog_4_method_5_code
def yX2_get : MethodName := ⟨RX2, "get", "(II)I"⟩
abbrev cX2_set : ByteArray := prog_4_method_6_code
def yX2_set : MethodName := ⟨RX2, "set", "(III)V"⟩
abbrev cX2_make : ByteArray := prog_4_method_7_code
def yX2_make : MethodName := ⟨RX2, "make", "(III)V"⟩
abbrev cX2_remove : ByteArray := prog_4_method_8_code
def yX2_remove : MethodName := ⟨RX2, "remove", "(I)V"⟩
abbrev cX2_add : ByteArray := prog_4_method_9_code
def yX2_add : MethodName := ⟨RX2, "add", "(II)V"⟩
abbrev cX2_shorten : ByteArray := prog_4_method_10_code
def yX2_shorten : MethodName := ⟨RX2, "shorten", "(II)V"⟩
abbrev cX2_reaches : ByteArray := prog_4_method_11_code
def yX2_reaches : MethodName := ⟨RX2, "reaches", "(III)Z"⟩
abbrev cX2_move : ByteArray := prog_4_method_12_code
def yX2_move : MethodName := ⟨RX2, "move", "(IIIII)V"⟩
abbrev cX2_moveAll : ByteArray := prog_4_method_13_code
def yX2_moveAll : MethodName := ⟨RX2, "moveAll", "(II)V"⟩
abbrev cX2_sum : ByteArray := prog_4_method_14_code
def yX2_sum : MethodName := ⟨RX2, "sum", "(I)J"⟩
abbrev cX2_mixInto : ByteArray := prog_4_method_15_code
def yX2_mixInto : MethodName := ⟨RX2, "mixInto", "(J)J"⟩
def RX3 : String := "StrayKeys$Wires"
def TX3 : u_T := fun k => match k with
  | 0 => ("StrayKeys$Wires", "line", "[I", true)
  | 1 => ("StrayKeys$Wires", "columnBit", "[I", true)
  | 2 => ("StrayKeys$Wires", "forth", "[I", true)
  | 3 => ("StrayKeys$Wires", "back", "[I", true)
  | 4 => ("StrayKeys$Wires", "comesOut", "[I", true)
  | 5 => ("StrayKeys$Wires", "size", "I", false)
  | 6 => ("StrayKeys$Wires", "ready", "I", false)
  | 7 => ("StrayKeys$Wires", "always", "I", false)
  | _ => ("StrayKeys$Wires", "oneWay", "I", false)
def tyX3 : Nat → FieldType := fun k => match k with
  | 0 => .array .int
  | 1 => .array .int
  | 2 => .array .int
  | 3 => .array .int
  | 4 => .array .int
  | 5 => .int
  | 6 => .int
  | 7 => .int
  | _ => .int
abbrev wsX30 : List Cond := u_ws RX3 TX3 9
theorem nmX3 : ∀ a, a < 9 → ∀ b, b < 9 → a ≠ b → (TX3 a).2.1 ≠ (TX3 b).2.1 := by decide +kernel
theorem tyX3_ok : ∀ k, k < 9 → parseFieldDescriptor (TX3 k).2.2.1 = some (tyX3 k) := by decide +kernel
abbrev cX3_init : ByteArray := prog_5_method_1_code
def yX3_init : MethodName := ⟨RX3, "<init>", "()V"⟩
abbrev cX3_attach : ByteArray := prog_5_method_2_code
def yX3_attach : MethodName := ⟨RX3, "attach", "(LStrayKeys$Layout;LStrayKeys$Moment;)V"⟩
abbrev cX3_connect : ByteArray := prog_5_method_3_code
def yX3_connect : MethodName := ⟨RX3, "connect", "(I)V"⟩
abbrev cX3_columnsFrom : ByteArray := prog_5_method_4_code
def yX3_columnsFrom : MethodName := ⟨RX3, "columnsFrom", "(I)I"⟩
abbrev cX3_columnsReadBy : ByteArray := prog_5_method_5_code
def yX3_columnsReadBy : MethodName := ⟨RX3, "columnsReadBy", "(II)I"⟩
abbrev cX3_toldOf : ByteArray := prog_5_method_6_code
def yX3_toldOf : MethodName := ⟨RX3, "toldOf", "(I)I"⟩
def RX4 : String := "StrayKeys"
def TX4 : u_T := fun k => match k with
  | 0 => ("StrayKeys", "rows", "LStrayKeys$Shelf;", true)
  | 1 => ("StrayKeys", "texts", "LStrayKeys$Shelf;", true)
  | 2 => ("StrayKeys", "deeds", "LStrayKeys$Shelf;", true)
  | 3 => ("StrayKeys", "keys", "LStrayKeys$Layout;", true)
  | 4 => ("StrayKeys", "guess", "LStrayKeys$Layout;", true)
  | 5 => ("StrayKeys", "now", "LStrayKeys$Moment;", true)
  | 6 => ("StrayKeys", "ahead", "LStrayKeys$Moment;", true)
  | 7 => ("StrayKeys", "wires", "LStrayKeys$Wires;", true)
  | 8 => ("StrayKeys", "bySet", "[I", true)
  | 9 => ("StrayKeys", "byKind", "[[I", true)
  | 10 => ("StrayKeys", "timesFound", "[I", true)
  | 11 => ("StrayKeys", "latestFinding", "I", false)
  | 12 => ("StrayKeys", "answer", "I", false)
  | 13 => ("StrayKeys", "above", "J", false)
  | _ => ("StrayKeys", "below", "J", false)
def tyX4 : Nat → FieldType := fun k => match k with
  | 0 => .object "StrayKeys$Shelf"
  | 1 => .object "StrayKeys$Shelf"
  | 2 => .object "StrayKeys$Shelf"
  | 3 => .object "StrayKeys$Layout"
  | 4 => .object "StrayKeys$Layout"
  | 5 => .object "StrayKeys$Moment"
  | 6 => .object "StrayKeys$Moment"
  | 7 => .object "StrayKeys$Wires"
  | 8 => .array .int
  | 9 => .array (.array .int)
  | 10 => .array .int
  | 11 => .int
  | 12 => .int
  | 13 => .long
  | _ => .long
abbrev wsX40 : List Cond := u_ws RX4 TX4 15
theorem nmX4 : ∀ a, a < 15 → ∀ b, b < 15 → a ≠ b → (TX4 a).2.1 ≠ (TX4 b).2.1 := by decide +kernel
theorem tyX4_ok : ∀ k, k < 15 → parseFieldDescriptor (TX4 k).2.2.1 = some (tyX4 k) := by decide +kernel
abbrev cX4_init : ByteArray := prog_1_method_1_code
def yX4_init : MethodName := ⟨RX4, "<init>", "()V"⟩
abbrev cX4_row : ByteArray := prog_1_method_2_code
def yX4_row : MethodName := ⟨RX4, "row", "(II)I"⟩
abbrev cX4_lay : ByteArray := prog_1_method_3_code
def yX4_lay : MethodName := ⟨RX4, "lay", "(III)I"⟩
abbrev cX4_at : ByteArray := prog_1_method_4_code
def yX4_at : MethodName := ⟨RX4, "at", "(II)I"⟩
abbrev cX4_tear : ByteArray := prog_1_method_5_code
def yX4_tear : MethodName := ⟨RX4, "tear", "(I)I"⟩
abbrev cX4_copy : ByteArray := prog_1_method_6_code
def yX4_copy : MethodName := ⟨RX4, "copy", "(IIIII)I"⟩
abbrev cX4_mean : ByteArray := prog_1_method_7_code
def yX4_mean : MethodName := ⟨RX4, "mean", "(I)I"⟩
abbrev cX4_text : ByteArray := prog_1_method_8_code
def yX4_text : MethodName := ⟨RX4, "text", "(II)I"⟩
abbrev cX4_put : ByteArray := prog_1_method_9_code
def yX4_put : MethodName := ⟨RX4, "put", "(III)I"⟩
abbrev cX4_fault : ByteArray := prog_1_method_10_code
def yX4_fault : MethodName := ⟨RX4, "fault", "(I)I"⟩
abbrev cX4_board : ByteArray := prog_1_method_11_code
def yX4_board : MethodName := ⟨RX4, "board", "(I)I"⟩
abbrev cX4_key : ByteArray := prog_1_method_12_code
def yX4_key : MethodName := ⟨RX4, "key", "(II)I"⟩
abbrev cX4_mark : ByteArray := prog_1_method_13_code
def yX4_mark : MethodName := ⟨RX4, "mark", "(II)I"⟩
abbrev cX4_reads : ByteArray := prog_1_method_14_code
def yX4_reads : MethodName := ⟨RX4, "reads", "(I)I"⟩
abbrev cX4_press : ByteArray := prog_1_method_15_code
def yX4_press : MethodName := ⟨RX4, "press", "(I)I"⟩
abbrev cX4_scan : ByteArray := prog_1_method_16_code
def yX4_scan : MethodName := ⟨RX4, "scan", "()I"⟩
abbrev cX4_cut : ByteArray := prog_1_method_17_code
def yX4_cut : MethodName := ⟨RX4, "cut", "(I)I"⟩
abbrev cX4_undo : ByteArray := prog_1_method_18_code
def yX4_undo : MethodName := ⟨RX4, "undo", "(I)I"⟩
abbrev cX4_keep : ByteArray := prog_1_method_19_code
def yX4_keep : MethodName := ⟨RX4, "keep", "(I)I"⟩
abbrev cX4_on : ByteArray := prog_1_method_20_code
def yX4_on : MethodName := ⟨RX4, "on", "(I)I"⟩
abbrev cX4_told : ByteArray := prog_1_method_21_code
def yX4_told : MethodName := ⟨RX4, "told", "()I"⟩
abbrev cX4_ghosts : ByteArray := prog_1_method_22_code
def yX4_ghosts : MethodName := ⟨RX4, "ghosts", "()I"⟩
abbrev cX4_later : ByteArray := prog_1_method_23_code
def yX4_later : MethodName := ⟨RX4, "later", "(I)I"⟩
abbrev cX4_would : ByteArray := prog_1_method_24_code
def yX4_would : MethodName := ⟨RX4, "would", "(I)I"⟩
abbrev cX4_haunts : ByteArray := prog_1_method_25_code
def yX4_haunts : MethodName := ⟨RX4, "haunts", "(I)I"⟩
abbrev cX4_right : ByteArray := prog_1_method_26_code
def yX4_right : MethodName := ⟨RX4, "right", "()I"⟩
abbrev cX4_alike : ByteArray := prog_1_method_27_code
def yX4_alike : MethodName := ⟨RX4, "alike", "()I"⟩
abbrev cX4_best : ByteArray := prog_1_method_28_code
def yX4_best : MethodName := ⟨RX4, "best", "()I"⟩
abbrev cX4_kinds : ByteArray := prog_1_method_29_code
def yX4_kinds : MethodName := ⟨RX4, "kinds", "(II)I"⟩
abbrev cX4_places : ByteArray := prog_1_method_30_code
def yX4_places : MethodName := ⟨RX4, "places", "(II)I"⟩
abbrev cX4_test : ByteArray := prog_1_method_31_code
def yX4_test : MethodName := ⟨RX4, "test", "(II)I"⟩
abbrev cX4_duel : ByteArray := prog_1_method_32_code
def yX4_duel : MethodName := ⟨RX4, "duel", "(I)I"⟩
abbrev cX4_odds : ByteArray := prog_1_method_33_code
def yX4_odds : MethodName := ⟨RX4, "odds", "(I)I"⟩
abbrev cX4_mid : ByteArray := prog_1_method_34_code
def yX4_mid : MethodName := ⟨RX4, "mid", "(I)I"⟩
abbrev cX4_lots : ByteArray := prog_1_method_35_code
def yX4_lots : MethodName := ⟨RX4, "lots", "(II)I"⟩
abbrev cX4_asked : ByteArray := prog_1_method_36_code
def yX4_asked : MethodName := ⟨RX4, "asked", "()I"⟩
abbrev cX4_upper : ByteArray := prog_1_method_37_code
def yX4_upper : MethodName := ⟨RX4, "upper", "()J"⟩
abbrev cX4_lower : ByteArray := prog_1_method_38_code
def yX4_lower : MethodName := ⟨RX4, "lower", "()J"⟩
abbrev cX4_count : ByteArray := prog_1_method_39_code
def yX4_count : MethodName := ⟨RX4, "count", "(I)I"⟩
abbrev cX4_finding : ByteArray := prog_1_method_40_code
def yX4_finding : MethodName := ⟨RX4, "finding", "()I"⟩
abbrev cX4_findings : ByteArray := prog_1_method_41_code
def yX4_findings : MethodName := ⟨RX4, "findings", "(I)I"⟩
abbrev cX4_digest : ByteArray := prog_1_method_42_code
def yX4_digest : MethodName := ⟨RX4, "digest", "()J"⟩
abbrev cX4_within : ByteArray := prog_1_method_43_code
def yX4_within : MethodName := ⟨RX4, "within", "(II)Z"⟩
abbrev cX4_found : ByteArray := prog_1_method_44_code
def yX4_found : MethodName := ⟨RX4, "found", "(I)I"⟩
abbrev cX4_refuseShelfPlace : ByteArray := prog_1_method_45_code
def yX4_refuseShelfPlace : MethodName := ⟨RX4, "refuseShelfPlace", "(LStrayKeys$Shelf;I)I"⟩
abbrev cX4_refusePlace : ByteArray := prog_1_method_46_code
def yX4_refusePlace : MethodName := ⟨RX4, "refusePlace", "(LStrayKeys$Shelf;II)I"⟩
abbrev cX4_refusePairs : ByteArray := prog_1_method_47_code
def yX4_refusePairs : MethodName := ⟨RX4, "refusePairs", "(II)I"⟩
abbrev cX4_refuseChance : ByteArray := prog_1_method_48_code
def yX4_refuseChance : MethodName := ⟨RX4, "refuseChance", "(I)I"⟩
abbrev cX4_hasNoRoomFor : ByteArray := prog_1_method_49_code
def yX4_hasNoRoomFor : MethodName := ⟨RX4, "hasNoRoomFor", "(I)Z"⟩
abbrev cX4_perform : ByteArray := prog_1_method_50_code
def yX4_perform : MethodName := ⟨RX4, "perform", "(I)V"⟩
abbrev cX4_replay : ByteArray := prog_1_method_51_code
def yX4_replay : MethodName := ⟨RX4, "replay", "()V"⟩
abbrev cX4_deedByLot : ByteArray := prog_1_method_52_code
def yX4_deedByLot : MethodName := ⟨RX4, "deedByLot", "(J)I"⟩
abbrev cX4_holds : ByteArray := prog_1_method_53_code
def yX4_holds : MethodName := ⟨RX4, "holds", "(II)Z"⟩
abbrev cX4_isOf : ByteArray := prog_1_method_54_code
def yX4_isOf : MethodName := ⟨RX4, "isOf", "(II)Z"⟩
abbrev cX4_toldNow : ByteArray := prog_1_method_55_code
def yX4_toldNow : MethodName := ⟨RX4, "toldNow", "()I"⟩
abbrev cX4_toldAt : ByteArray := prog_1_method_56_code
def yX4_toldAt : MethodName := ⟨RX4, "toldAt", "(LStrayKeys$Moment;)I"⟩
abbrev cX4_keyFact : ByteArray := prog_1_method_57_code
def yX4_keyFact : MethodName := ⟨RX4, "keyFact", "(II)I"⟩
abbrev cX4_toldWerePlain : ByteArray := prog_1_method_58_code
def yX4_toldWerePlain : MethodName := ⟨RX4, "toldWerePlain", "(I)I"⟩
abbrev cX4_scansConducting : ByteArray := prog_1_method_59_code
def yX4_scansConducting : MethodName := ⟨RX4, "scansConducting", "(II)I"⟩
abbrev cX4_isAmongFirst : ByteArray := prog_1_method_60_code
def yX4_isAmongFirst : MethodName := ⟨RX4, "isAmongFirst", "(II)Z"⟩
abbrev cX4_fillBySet : ByteArray := prog_1_method_61_code
def yX4_fillBySet : MethodName := ⟨RX4, "fillBySet", "()V"⟩
abbrev cX4_rightSetsOf : ByteArray := prog_1_method_62_code
def yX4_rightSetsOf : MethodName := ⟨RX4, "rightSetsOf", "(LStrayKeys$Layout;)I"⟩
abbrev cX4_valueOf : ByteArray := prog_1_method_63_code
def yX4_valueOf : MethodName := ⟨RX4, "valueOf", "(I)I"⟩
abbrev cX4_ghostsOf : ByteArray := prog_1_method_64_code
def yX4_ghostsOf : MethodName := ⟨RX4, "ghostsOf", "(I)I"⟩
abbrev cX4_fits : ByteArray := prog_1_method_65_code
def yX4_fits : MethodName := ⟨RX4, "fits", "(LStrayKeys$Layout;I)Z"⟩
abbrev cX4_kindsThatFit : ByteArray := prog_1_method_66_code
def yX4_kindsThatFit : MethodName := ⟨RX4, "kindsThatFit", "(II)I"⟩
abbrev cX4_fillByKind : ByteArray := prog_1_method_67_code
def yX4_fillByKind : MethodName := ⟨RX4, "fillByKind", "(II)V"⟩
abbrev cX4_greatestPart : ByteArray := prog_1_method_68_code
def yX4_greatestPart : MethodName := ⟨RX4, "greatestPart", "(II)I"⟩
abbrev cX4_takeBackTurn : ByteArray := prog_1_method_69_code
def yX4_takeBackTurn : MethodName := ⟨RX4, "takeBackTurn", "(Z)V"⟩
abbrev cX4_power : ByteArray := prog_1_method_70_code
def yX4_power : MethodName := ⟨RX4, "power", "(JI)J"⟩
abbrev cX4_weight : ByteArray := prog_1_method_71_code
def yX4_weight : MethodName := ⟨RX4, "weight", "(II)J"⟩
abbrev cX4_tellFraction : ByteArray := prog_1_method_72_code
def yX4_tellFraction : MethodName := ⟨RX4, "tellFraction", "(JJ)V"⟩
def RX5 : String := "StrayKeysModel"
def TX5 : u_T := fun k => match k with
  | 0 => ("StrayKeysModel", "latest", "I", false)
  | 1 => ("StrayKeysModel", "found", "[I", true)
  | 2 => ("StrayKeysModel", "asked", "I", false)
  | 3 => ("StrayKeysModel", "upper", "J", false)
  | 4 => ("StrayKeysModel", "lower", "J", false)
  | 5 => ("StrayKeysModel", "wide", "[I", true)
  | 6 => ("StrayKeysModel", "rows", "[I", true)
  | 7 => ("StrayKeysModel", "far", "[I", true)
  | 8 => ("StrayKeysModel", "texts", "[B", true)
  | 9 => ("StrayKeysModel", "moved", "[I", true)
  | 10 => ("StrayKeysModel", "keys", "I", false)
  | 11 => ("StrayKeysModel", "kind", "[I", true)
  | 12 => ("StrayKeysModel", "line", "[I", true)
  | 13 => ("StrayKeysModel", "column", "[I", true)
  | 14 => ("StrayKeysModel", "delay", "[I", true)
  | 15 => ("StrayKeysModel", "all", "[I", true)
  | 16 => ("StrayKeysModel", "deeds", "I", false)
  | 17 => ("StrayKeysModel", "kept", "[I", true)
  | 18 => ("StrayKeysModel", "keptDeeds", "[I", true)
  | 19 => ("StrayKeysModel", "tried", "[I", true)
  | 20 => ("StrayKeysModel", "sort", "[I", true)
  | 21 => ("StrayKeysModel", "across", "[I", true)
  | 22 => ("StrayKeysModel", "down", "[I", true)
  | 23 => ("StrayKeysModel", "columnsOf", "[I", true)
  | 24 => ("StrayKeysModel", "sets", "[I", true)
  | 25 => ("StrayKeysModel", "toldAs", "[I", true)
  | _ => ("StrayKeysModel", "comes", "[I", true)
def tyX5 : Nat → FieldType := fun k => match k with
  | 0 => .int
  | 1 => .array .int
  | 2 => .int
  | 3 => .long
  | 4 => .long
  | 5 => .array .int
  | 6 => .array .int
  | 7 => .array .int
  | 8 => .array .byte
  | 9 => .array .int
  | 10 => .int
  | 11 => .array .int
  | 12 => .array .int
  | 13 => .array .int
  | 14 => .array .int
  | 15 => .array .int
  | 16 => .int
  | 17 => .array .int
  | 18 => .array .int
  | 19 => .array .int
  | 20 => .array .int
  | 21 => .array .int
  | 22 => .array .int
  | 23 => .array .int
  | 24 => .array .int
  | 25 => .array .int
  | _ => .array .int
abbrev wsX50 : List Cond := u_ws RX5 TX5 27
theorem nmX5 : ∀ a, a < 27 → ∀ b, b < 27 → a ≠ b → (TX5 a).2.1 ≠ (TX5 b).2.1 := by decide +kernel
theorem tyX5_ok : ∀ k, k < 27 → parseFieldDescriptor (TX5 k).2.2.1 = some (tyX5 k) := by decide +kernel
abbrev cX5_init : ByteArray := prog_7_method_1_code
def yX5_init : MethodName := ⟨RX5, "<init>", "()V"⟩
abbrev cX5_in : ByteArray := prog_7_method_3_code
def yX5_in : MethodName := ⟨RX5, "in", "(III)Z"⟩
abbrev cX5_has : ByteArray := prog_7_method_4_code
def yX5_has : MethodName := ⟨RX5, "has", "(II)Z"⟩
abbrev cX5_bitsOf : ByteArray := prog_7_method_5_code
def yX5_bitsOf : MethodName := ⟨RX5, "bitsOf", "(I)I"⟩
abbrev cX5_find : ByteArray := prog_7_method_6_code
def yX5_find : MethodName := ⟨RX5, "find", "(I)I"⟩
abbrev cX5_tellAsked : ByteArray := prog_7_method_7_code
def yX5_tellAsked : MethodName := ⟨RX5, "tellAsked", "(I)I"⟩
abbrev cX5_fraction : ByteArray := prog_7_method_8_code
def yX5_fraction : MethodName := ⟨RX5, "fraction", "(JJ)I"⟩
abbrev cX5_isRow : ByteArray := prog_7_method_9_code
def yX5_isRow : MethodName := ⟨RX5, "isRow", "(I)Z"⟩
abbrev cX5_isText : ByteArray := prog_7_method_10_code
def yX5_isText : MethodName := ⟨RX5, "isText", "(I)Z"⟩
abbrev cX5_row : ByteArray := prog_7_method_11_code
def yX5_row : MethodName := ⟨RX5, "row", "(II)I"⟩
abbrev cX5_lay : ByteArray := prog_7_method_12_code
def yX5_lay : MethodName := ⟨RX5, "lay", "(III)I"⟩
abbrev cX5_at : ByteArray := prog_7_method_13_code
def yX5_at : MethodName := ⟨RX5, "at", "(II)I"⟩
abbrev cX5_tear : ByteArray := prog_7_method_14_code
def yX5_tear : MethodName := ⟨RX5, "tear", "(I)I"⟩
abbrev cX5_copy : ByteArray := prog_7_method_15_code
def yX5_copy : MethodName := ⟨RX5, "copy", "(IIIII)I"⟩
abbrev cX5_mean : ByteArray := prog_7_method_16_code
def yX5_mean : MethodName := ⟨RX5, "mean", "(I)I"⟩
abbrev cX5_text : ByteArray := prog_7_method_17_code
def yX5_text : MethodName := ⟨RX5, "text", "(II)I"⟩
abbrev cX5_put : ByteArray := prog_7_method_18_code
def yX5_put : MethodName := ⟨RX5, "put", "(III)I"⟩
abbrev cX5_kindOf : ByteArray := prog_7_method_19_code
def yX5_kindOf : MethodName := ⟨RX5, "kindOf", "(I)I"⟩
abbrev cX5_figure : ByteArray := prog_7_method_20_code
def yX5_figure : MethodName := ⟨RX5, "figure", "(III)I"⟩
abbrev cX5_read : ByteArray := prog_7_method_21_code
def yX5_read : MethodName := ⟨RX5, "read", "(I)I"⟩
abbrev cX5_fault : ByteArray := prog_7_method_22_code
def yX5_fault : MethodName := ⟨RX5, "fault", "(I)I"⟩
abbrev cX5_board : ByteArray := prog_7_method_23_code
def yX5_board : MethodName := ⟨RX5, "board", "(I)I"⟩
abbrev cX5_now : ByteArray := prog_7_method_24_code
def yX5_now : MethodName := ⟨RX5, "now", "(I)I"⟩
abbrev cX5_take : ByteArray := prog_7_method_25_code
def yX5_take : MethodName := ⟨RX5, "take", "()V"⟩
abbrev cX5_isKey : ByteArray := prog_7_method_26_code
def yX5_isKey : MethodName := ⟨RX5, "isKey", "(I)Z"⟩
abbrev cX5_isSet : ByteArray := prog_7_method_27_code
def yX5_isSet : MethodName := ⟨RX5, "isSet", "(I)Z"⟩
abbrev cX5_isLine : ByteArray := prog_7_method_28_code
def yX5_isLine : MethodName := ⟨RX5, "isLine", "(I)Z"⟩
abbrev cX5_doesBy : ByteArray := prog_7_method_29_code
def yX5_doesBy : MethodName := ⟨RX5, "doesBy", "(IIII)Z"⟩
abbrev cX5_conducts : ByteArray := prog_7_method_30_code
def yX5_conducts : MethodName := ⟨RX5, "conducts", "(I)Z"⟩
abbrev cX5_readBy : ByteArray := prog_7_method_31_code
def yX5_readBy : MethodName := ⟨RX5, "readBy", "(I)I"⟩
abbrev cX5_toldBy : ByteArray := prog_7_method_32_code
def yX5_toldBy : MethodName := ⟨RX5, "toldBy", "()I"⟩
abbrev cX5_toldNow : ByteArray := prog_7_method_33_code
def yX5_toldNow : MethodName := ⟨RX5, "toldNow", "()I"⟩
abbrev cX5_toldOf : ByteArray := prog_7_method_34_code
def yX5_toldOf : MethodName := ⟨RX5, "toldOf", "(I)I"⟩
abbrev cX5_factOf : ByteArray := prog_7_method_35_code
def yX5_factOf : MethodName := ⟨RX5, "factOf", "(II)I"⟩
abbrev cX5_key : ByteArray := prog_7_method_36_code
def yX5_key : MethodName := ⟨RX5, "key", "(II)I"⟩
abbrev cX5_mark : ByteArray := prog_7_method_37_code
def yX5_mark : MethodName := ⟨RX5, "mark", "(II)I"⟩
abbrev cX5_reads : ByteArray := prog_7_method_38_code
def yX5_reads : MethodName := ⟨RX5, "reads", "(I)I"⟩
abbrev cX5_begin : ByteArray := prog_7_method_39_code
def yX5_begin : MethodName := ⟨RX5, "begin", "()V"⟩
abbrev cX5_flipped : ByteArray := prog_7_method_40_code
def yX5_flipped : MethodName := ⟨RX5, "flipped", "(II)I"⟩
abbrev cX5_pressNow : ByteArray := prog_7_method_41_code
def yX5_pressNow : MethodName := ⟨RX5, "pressNow", "(I)V"⟩
abbrev cX5_passOn : ByteArray := prog_7_method_42_code
def yX5_passOn : MethodName := ⟨RX5, "passOn", "([II)V"⟩
abbrev cX5_press : ByteArray := prog_7_method_43_code
def yX5_press : MethodName := ⟨RX5, "press", "(I)I"⟩
abbrev cX5_scan : ByteArray := prog_7_method_44_code
def yX5_scan : MethodName := ⟨RX5, "scan", "()I"⟩
abbrev cX5_cut : ByteArray := prog_7_method_45_code
def yX5_cut : MethodName := ⟨RX5, "cut", "(I)I"⟩
abbrev cX5_undo : ByteArray := prog_7_method_46_code
def yX5_undo : MethodName := ⟨RX5, "undo", "(I)I"⟩
abbrev cX5_keep : ByteArray := prog_7_method_47_code
def yX5_keep : MethodName := ⟨RX5, "keep", "(I)I"⟩
abbrev cX5_on : ByteArray := prog_7_method_48_code
def yX5_on : MethodName := ⟨RX5, "on", "(I)I"⟩
abbrev cX5_told : ByteArray := prog_7_method_49_code
def yX5_told : MethodName := ⟨RX5, "told", "()I"⟩
abbrev cX5_ghosts : ByteArray := prog_7_method_50_code
def yX5_ghosts : MethodName := ⟨RX5, "ghosts", "()I"⟩
abbrev cX5_later : ByteArray := prog_7_method_51_code
def yX5_later : MethodName := ⟨RX5, "later", "(I)I"⟩
abbrev cX5_would : ByteArray := prog_7_method_52_code
def yX5_would : MethodName := ⟨RX5, "would", "(I)I"⟩
abbrev cX5_haunts : ByteArray := prog_7_method_53_code
def yX5_haunts : MethodName := ⟨RX5, "haunts", "(I)I"⟩
abbrev cX5_rightSets : ByteArray := prog_7_method_54_code
def yX5_rightSets : MethodName := ⟨RX5, "rightSets", "()I"⟩
abbrev cX5_right : ByteArray := prog_7_method_55_code
def yX5_right : MethodName := ⟨RX5, "right", "()I"⟩
abbrev cX5_alike : ByteArray := prog_7_method_56_code
def yX5_alike : MethodName := ⟨RX5, "alike", "()I"⟩
abbrev cX5_best : ByteArray := prog_7_method_57_code
def yX5_best : MethodName := ⟨RX5, "best", "()I"⟩
abbrev cX5_pairs : ByteArray := prog_7_method_58_code
def yX5_pairs : MethodName := ⟨RX5, "pairs", "(I)I"⟩
abbrev cX5_isSo : ByteArray := prog_7_method_59_code
def yX5_isSo : MethodName := ⟨RX5, "isSo", "(I)Z"⟩
abbrev cX5_kindsBy : ByteArray := prog_7_method_60_code
def yX5_kindsBy : MethodName := ⟨RX5, "kindsBy", "(II)I"⟩
abbrev cX5_kinds : ByteArray := prog_7_method_61_code
def yX5_kinds : MethodName := ⟨RX5, "kinds", "(II)I"⟩
abbrev cX5_isFree : ByteArray := prog_7_method_62_code
def yX5_isFree : MethodName := ⟨RX5, "isFree", "(III)Z"⟩
abbrev cX5_places : ByteArray := prog_7_method_63_code
def yX5_places : MethodName := ⟨RX5, "places", "(II)I"⟩
abbrev cX5_test : ByteArray := prog_7_method_64_code
def yX5_test : MethodName := ⟨RX5, "test", "(II)I"⟩
abbrev cX5_duel : ByteArray := prog_7_method_65_code
def yX5_duel : MethodName := ⟨RX5, "duel", "(I)I"⟩
abbrev cX5_waysOf : ByteArray := prog_7_method_66_code
def yX5_waysOf : MethodName := ⟨RX5, "waysOf", "(II)J"⟩
abbrev cX5_allWays : ByteArray := prog_7_method_67_code
def yX5_allWays : MethodName := ⟨RX5, "allWays", "()J"⟩
abbrev cX5_odds : ByteArray := prog_7_method_68_code
def yX5_odds : MethodName := ⟨RX5, "odds", "(I)I"⟩
abbrev cX5_mid : ByteArray := prog_7_method_69_code
def yX5_mid : MethodName := ⟨RX5, "mid", "(I)I"⟩
abbrev cX5_lots : ByteArray := prog_7_method_70_code
def yX5_lots : MethodName := ⟨RX5, "lots", "(II)I"⟩
abbrev cX5_asked : ByteArray := prog_7_method_71_code
def yX5_asked : MethodName := ⟨RX5, "asked", "()I"⟩
abbrev cX5_upper : ByteArray := prog_7_method_72_code
def yX5_upper : MethodName := ⟨RX5, "upper", "()J"⟩
abbrev cX5_lower : ByteArray := prog_7_method_73_code
def yX5_lower : MethodName := ⟨RX5, "lower", "()J"⟩
abbrev cX5_thereAre : ByteArray := prog_7_method_74_code
def yX5_thereAre : MethodName := ⟨RX5, "thereAre", "(I)I"⟩
abbrev cX5_ofKinds : ByteArray := prog_7_method_75_code
def yX5_ofKinds : MethodName := ⟨RX5, "ofKinds", "(II)I"⟩
abbrev cX5_count : ByteArray := prog_7_method_76_code
def yX5_count : MethodName := ⟨RX5, "count", "(I)I"⟩
abbrev cX5_finding : ByteArray := prog_7_method_77_code
def yX5_finding : MethodName := ⟨RX5, "finding", "()I"⟩
abbrev cX5_findings : ByteArray := prog_7_method_78_code
def yX5_findings : MethodName := ⟨RX5, "findings", "(I)I"⟩
abbrev cX5_digest : ByteArray := prog_7_method_79_code
def yX5_digest : MethodName := ⟨RX5, "digest", "()J"⟩
def RJ6 : String := "java/lang/Integer"
def TJ6 : u_T := fun k => match k with
  | _ => ("", "", "", false)
def tyJ6 : Nat → FieldType := fun k => match k with
  | _ => .int
abbrev wsJ60 : List Cond := u_ws RJ6 TJ6 0
theorem nmJ6 : ∀ a, a < 0 → ∀ b, b < 0 → a ≠ b → (TJ6 a).2.1 ≠ (TJ6 b).2.1 := by decide +kernel
theorem tyJ6_ok : ∀ k, k < 0 → parseFieldDescriptor (TJ6 k).2.2.1 = some (tyJ6 k) := by decide +kernel
abbrev cJ6_bitCount_0f7a4 : ByteArray := prog_8_method_49_code
def yJ6_bitCount_0f7a4 : MethodName := ⟨RJ6, "bitCount", "(I)I"⟩
def RJ9 : String := "java/lang/Math"
def TJ9 : u_T := fun k => match k with
  | _ => ("", "", "", false)
def tyJ9 : Nat → FieldType := fun k => match k with
  | _ => .int
abbrev wsJ90 : List Cond := u_ws RJ9 TJ9 0
theorem nmJ9 : ∀ a, a < 0 → ∀ b, b < 0 → a ≠ b → (TJ9 a).2.1 ≠ (TJ9 b).2.1 := by decide +kernel
theorem tyJ9_ok : ∀ k, k < 0 → parseFieldDescriptor (TJ9 k).2.2.1 = some (tyJ9 k) := by decide +kernel
abbrev cJ9_max_7cf53 : ByteArray := prog_9_method_65_code
def yJ9_max_7cf53 : MethodName := ⟨RJ9, "max", "(II)I"⟩
abbrev cJ9_min_7cf53 : ByteArray := prog_9_method_69_code
def yJ9_min_7cf53 : MethodName := ⟨RJ9, "min", "(II)I"⟩
def RJ10 : String := "java/lang/System"
def TJ10 : u_T := fun k => match k with
  | _ => ("", "", "", false)
def tyJ10 : Nat → FieldType := fun k => match k with
  | _ => .int
abbrev wsJ100 : List Cond := u_ws RJ10 TJ10 0
theorem nmJ10 : ∀ a, a < 0 → ∀ b, b < 0 → a ≠ b → (TJ10 a).2.1 ≠ (TJ10 b).2.1 := by decide +kernel
theorem tyJ10_ok : ∀ k, k < 0 → parseFieldDescriptor (TJ10 k).2.2.1 = some (tyJ10 k) := by decide +kernel
def RL : String := "StrayKeysLaw"
abbrev cL_law : ByteArray := code
def yL_law : MethodName := ⟨RL, "law", "([I)Z"⟩
abbrev vwCl : List vw_C := [(RX0, TX0, 5), (RX1, TX1, 4), (RX2, TX2, 4), (RX3, TX3, 9), (RX4, TX4, 15), (RX5, TX5, 27)]
