section
-- ===== PART A: goes FIRST, ahead of the names: the tables' words, and 'selects' of the private methods out of them =====
/-- a private method of a class that the tables say can be made, by its rows of tables_1 -/
def lw_okq (q : MethodName × Nat) : Prop := (q.1.cls ≠ "java/lang/invoke/MethodHandle" ∧ q.1.cls ≠ "java/lang/invoke/VarHandle") ∧ Cond.instantiable q.1.cls q.2 ∈ tables_1 ∧ Cond.privateMethod q.1 ∈ tables_1 ∧ Cond.instanceMethod q.1 ∈ tables_1
theorem lw_p0 : lw_okq (⟨"StrayKeys", "found", "(I)I"⟩, 15) := ⟨⟨by decide +kernel, by decide +kernel⟩, List.mem_of_getElem? (i := 11) (by decide +kernel), List.mem_of_getElem? (i := 188) (by decide +kernel), List.mem_of_getElem? (i := 189) (by decide +kernel)⟩
theorem lw_p1 : lw_okq (⟨"StrayKeys", "refusePlace", "(LStrayKeys$Shelf;II)I"⟩, 15) := ⟨⟨by decide +kernel, by decide +kernel⟩, List.mem_of_getElem? (i := 11) (by decide +kernel), List.mem_of_getElem? (i := 196) (by decide +kernel), List.mem_of_getElem? (i := 197) (by decide +kernel)⟩
theorem lw_p2 : lw_okq (⟨"StrayKeys", "refuseShelfPlace", "(LStrayKeys$Shelf;I)I"⟩, 15) := ⟨⟨by decide +kernel, by decide +kernel⟩, List.mem_of_getElem? (i := 11) (by decide +kernel), List.mem_of_getElem? (i := 200) (by decide +kernel), List.mem_of_getElem? (i := 201) (by decide +kernel)⟩
theorem lw_p3 : lw_okq (⟨"StrayKeys$Layout", "rightSigns", "(LStrayKeys$Shelf;II)I"⟩, 5) := ⟨⟨by decide +kernel, by decide +kernel⟩, List.mem_of_getElem? (i := 43) (by decide +kernel), List.mem_of_getElem? (i := 279) (by decide +kernel), List.mem_of_getElem? (i := 280) (by decide +kernel)⟩
theorem lw_p4 : lw_okq (⟨"StrayKeys", "keyFact", "(II)I"⟩, 15) := ⟨⟨by decide +kernel, by decide +kernel⟩, List.mem_of_getElem? (i := 11) (by decide +kernel), List.mem_of_getElem? (i := 316) (by decide +kernel), List.mem_of_getElem? (i := 317) (by decide +kernel)⟩
theorem lw_p5 : lw_okq (⟨"StrayKeys", "toldNow", "()I"⟩, 15) := ⟨⟨by decide +kernel, by decide +kernel⟩, List.mem_of_getElem? (i := 11) (by decide +kernel), List.mem_of_getElem? (i := 349) (by decide +kernel), List.mem_of_getElem? (i := 350) (by decide +kernel)⟩
theorem lw_p6 : lw_okq (⟨"StrayKeys", "toldAt", "(LStrayKeys$Moment;)I"⟩, 15) := ⟨⟨by decide +kernel, by decide +kernel⟩, List.mem_of_getElem? (i := 11) (by decide +kernel), List.mem_of_getElem? (i := 353) (by decide +kernel), List.mem_of_getElem? (i := 354) (by decide +kernel)⟩
theorem lw_p7 : lw_okq (⟨"StrayKeys$Wires", "connect", "(I)V"⟩, 9) := ⟨⟨by decide +kernel, by decide +kernel⟩, List.mem_of_getElem? (i := 94) (by decide +kernel), List.mem_of_getElem? (i := 372) (by decide +kernel), List.mem_of_getElem? (i := 373) (by decide +kernel)⟩
theorem lw_p8 : lw_okq (⟨"StrayKeys$Wires", "columnsFrom", "(I)I"⟩, 9) := ⟨⟨by decide +kernel, by decide +kernel⟩, List.mem_of_getElem? (i := 94) (by decide +kernel), List.mem_of_getElem? (i := 376) (by decide +kernel), List.mem_of_getElem? (i := 377) (by decide +kernel)⟩
theorem lw_p9 : lw_okq (⟨"StrayKeys", "toldWerePlain", "(I)I"⟩, 15) := ⟨⟨by decide +kernel, by decide +kernel⟩, List.mem_of_getElem? (i := 11) (by decide +kernel), List.mem_of_getElem? (i := 386) (by decide +kernel), List.mem_of_getElem? (i := 387) (by decide +kernel)⟩
theorem lw_p10 : lw_okq (⟨"StrayKeys", "scansConducting", "(II)I"⟩, 15) := ⟨⟨by decide +kernel, by decide +kernel⟩, List.mem_of_getElem? (i := 11) (by decide +kernel), List.mem_of_getElem? (i := 400) (by decide +kernel), List.mem_of_getElem? (i := 401) (by decide +kernel)⟩
theorem lw_p11 : lw_okq (⟨"StrayKeys", "hasNoRoomFor", "(I)Z"⟩, 15) := ⟨⟨by decide +kernel, by decide +kernel⟩, List.mem_of_getElem? (i := 11) (by decide +kernel), List.mem_of_getElem? (i := 429) (by decide +kernel), List.mem_of_getElem? (i := 430) (by decide +kernel)⟩
theorem lw_p12 : lw_okq (⟨"StrayKeys", "perform", "(I)V"⟩, 15) := ⟨⟨by decide +kernel, by decide +kernel⟩, List.mem_of_getElem? (i := 11) (by decide +kernel), List.mem_of_getElem? (i := 433) (by decide +kernel), List.mem_of_getElem? (i := 434) (by decide +kernel)⟩
theorem lw_p13 : lw_okq (⟨"StrayKeys", "replay", "()V"⟩, 15) := ⟨⟨by decide +kernel, by decide +kernel⟩, List.mem_of_getElem? (i := 11) (by decide +kernel), List.mem_of_getElem? (i := 463) (by decide +kernel), List.mem_of_getElem? (i := 464) (by decide +kernel)⟩
theorem lw_p14 : lw_okq (⟨"StrayKeys", "isAmongFirst", "(II)Z"⟩, 15) := ⟨⟨by decide +kernel, by decide +kernel⟩, List.mem_of_getElem? (i := 11) (by decide +kernel), List.mem_of_getElem? (i := 493) (by decide +kernel), List.mem_of_getElem? (i := 494) (by decide +kernel)⟩
theorem lw_p15 : lw_okq (⟨"StrayKeys", "fillBySet", "()V"⟩, 15) := ⟨⟨by decide +kernel, by decide +kernel⟩, List.mem_of_getElem? (i := 11) (by decide +kernel), List.mem_of_getElem? (i := 515) (by decide +kernel), List.mem_of_getElem? (i := 516) (by decide +kernel)⟩
def lw_privs_1 : List (MethodName × Nat) := [(⟨"StrayKeys", "found", "(I)I"⟩, 15), (⟨"StrayKeys", "refusePlace", "(LStrayKeys$Shelf;II)I"⟩, 15), (⟨"StrayKeys", "refuseShelfPlace", "(LStrayKeys$Shelf;I)I"⟩, 15), (⟨"StrayKeys$Layout", "rightSigns", "(LStrayKeys$Shelf;II)I"⟩, 5), (⟨"StrayKeys", "keyFact", "(II)I"⟩, 15), (⟨"StrayKeys", "toldNow", "()I"⟩, 15), (⟨"StrayKeys", "toldAt", "(LStrayKeys$Moment;)I"⟩, 15), (⟨"StrayKeys$Wires", "connect", "(I)V"⟩, 9), (⟨"StrayKeys$Wires", "columnsFrom", "(I)I"⟩, 9), (⟨"StrayKeys", "toldWerePlain", "(I)I"⟩, 15), (⟨"StrayKeys", "scansConducting", "(II)I"⟩, 15), (⟨"StrayKeys", "hasNoRoomFor", "(I)Z"⟩, 15), (⟨"StrayKeys", "perform", "(I)V"⟩, 15), (⟨"StrayKeys", "replay", "()V"⟩, 15), (⟨"StrayKeys", "isAmongFirst", "(II)Z"⟩, 15), (⟨"StrayKeys", "fillBySet", "()V"⟩, 15)]
theorem lw_r1 : ∀ q ∈ lw_privs_1, lw_okq q := List.forall_mem_cons.mpr ⟨lw_p0, List.forall_mem_cons.mpr ⟨lw_p1, List.forall_mem_cons.mpr ⟨lw_p2, List.forall_mem_cons.mpr ⟨lw_p3, List.forall_mem_cons.mpr ⟨lw_p4, List.forall_mem_cons.mpr ⟨lw_p5, List.forall_mem_cons.mpr ⟨lw_p6, List.forall_mem_cons.mpr ⟨lw_p7, List.forall_mem_cons.mpr ⟨lw_p8, List.forall_mem_cons.mpr ⟨lw_p9, List.forall_mem_cons.mpr ⟨lw_p10, List.forall_mem_cons.mpr ⟨lw_p11, List.forall_mem_cons.mpr ⟨lw_p12, List.forall_mem_cons.mpr ⟨lw_p13, List.forall_mem_cons.mpr ⟨lw_p14, List.forall_mem_cons.mpr ⟨lw_p15, fun _ h => absurd h List.not_mem_nil⟩⟩⟩⟩⟩⟩⟩⟩⟩⟩⟩⟩⟩⟩⟩⟩
theorem lw_p16 : lw_okq (⟨"StrayKeys", "rightSetsOf", "(LStrayKeys$Layout;)I"⟩, 15) := ⟨⟨by decide +kernel, by decide +kernel⟩, List.mem_of_getElem? (i := 11) (by decide +kernel), List.mem_of_getElem? (i := 528) (by decide +kernel), List.mem_of_getElem? (i := 529) (by decide +kernel)⟩
theorem lw_p17 : lw_okq (⟨"StrayKeys", "refusePairs", "(II)I"⟩, 15) := ⟨⟨by decide +kernel, by decide +kernel⟩, List.mem_of_getElem? (i := 11) (by decide +kernel), List.mem_of_getElem? (i := 536) (by decide +kernel), List.mem_of_getElem? (i := 537) (by decide +kernel)⟩
theorem lw_p18 : lw_okq (⟨"StrayKeys", "kindsThatFit", "(II)I"⟩, 15) := ⟨⟨by decide +kernel, by decide +kernel⟩, List.mem_of_getElem? (i := 11) (by decide +kernel), List.mem_of_getElem? (i := 540) (by decide +kernel), List.mem_of_getElem? (i := 541) (by decide +kernel)⟩
theorem lw_p19 : lw_okq (⟨"StrayKeys", "fits", "(LStrayKeys$Layout;I)Z"⟩, 15) := ⟨⟨by decide +kernel, by decide +kernel⟩, List.mem_of_getElem? (i := 11) (by decide +kernel), List.mem_of_getElem? (i := 544) (by decide +kernel), List.mem_of_getElem? (i := 545) (by decide +kernel)⟩
theorem lw_p20 : lw_okq (⟨"StrayKeys", "fillByKind", "(II)V"⟩, 15) := ⟨⟨by decide +kernel, by decide +kernel⟩, List.mem_of_getElem? (i := 11) (by decide +kernel), List.mem_of_getElem? (i := 561) (by decide +kernel), List.mem_of_getElem? (i := 562) (by decide +kernel)⟩
theorem lw_p21 : lw_okq (⟨"StrayKeys", "greatestPart", "(II)I"⟩, 15) := ⟨⟨by decide +kernel, by decide +kernel⟩, List.mem_of_getElem? (i := 11) (by decide +kernel), List.mem_of_getElem? (i := 565) (by decide +kernel), List.mem_of_getElem? (i := 566) (by decide +kernel)⟩
theorem lw_p22 : lw_okq (⟨"StrayKeys", "ghostsOf", "(I)I"⟩, 15) := ⟨⟨by decide +kernel, by decide +kernel⟩, List.mem_of_getElem? (i := 11) (by decide +kernel), List.mem_of_getElem? (i := 573) (by decide +kernel), List.mem_of_getElem? (i := 574) (by decide +kernel)⟩
theorem lw_p23 : lw_okq (⟨"StrayKeys", "valueOf", "(I)I"⟩, 15) := ⟨⟨by decide +kernel, by decide +kernel⟩, List.mem_of_getElem? (i := 11) (by decide +kernel), List.mem_of_getElem? (i := 577) (by decide +kernel), List.mem_of_getElem? (i := 578) (by decide +kernel)⟩
theorem lw_p24 : lw_okq (⟨"StrayKeys", "takeBackTurn", "(Z)V"⟩, 15) := ⟨⟨by decide +kernel, by decide +kernel⟩, List.mem_of_getElem? (i := 11) (by decide +kernel), List.mem_of_getElem? (i := 581) (by decide +kernel), List.mem_of_getElem? (i := 582) (by decide +kernel)⟩
theorem lw_p25 : lw_okq (⟨"StrayKeys", "refuseChance", "(I)I"⟩, 15) := ⟨⟨by decide +kernel, by decide +kernel⟩, List.mem_of_getElem? (i := 11) (by decide +kernel), List.mem_of_getElem? (i := 589) (by decide +kernel), List.mem_of_getElem? (i := 590) (by decide +kernel)⟩
theorem lw_p26 : lw_okq (⟨"StrayKeys", "weight", "(II)J"⟩, 15) := ⟨⟨by decide +kernel, by decide +kernel⟩, List.mem_of_getElem? (i := 11) (by decide +kernel), List.mem_of_getElem? (i := 593) (by decide +kernel), List.mem_of_getElem? (i := 594) (by decide +kernel)⟩
theorem lw_p27 : lw_okq (⟨"StrayKeys", "tellFraction", "(JJ)V"⟩, 15) := ⟨⟨by decide +kernel, by decide +kernel⟩, List.mem_of_getElem? (i := 11) (by decide +kernel), List.mem_of_getElem? (i := 601) (by decide +kernel), List.mem_of_getElem? (i := 602) (by decide +kernel)⟩
theorem lw_p28 : lw_okq (⟨"StrayKeys", "deedByLot", "(J)I"⟩, 15) := ⟨⟨by decide +kernel, by decide +kernel⟩, List.mem_of_getElem? (i := 11) (by decide +kernel), List.mem_of_getElem? (i := 616) (by decide +kernel), List.mem_of_getElem? (i := 617) (by decide +kernel)⟩
theorem lw_p29 : lw_okq (⟨"StrayKeysModel", "find", "(I)I"⟩, 27) := ⟨⟨by decide +kernel, by decide +kernel⟩, List.mem_of_getElem? (i := 668) (by decide +kernel), List.mem_of_getElem? (i := 767) (by decide +kernel), List.mem_of_getElem? (i := 768) (by decide +kernel)⟩
theorem lw_p30 : lw_okq (⟨"StrayKeysModel", "tellAsked", "(I)I"⟩, 27) := ⟨⟨by decide +kernel, by decide +kernel⟩, List.mem_of_getElem? (i := 668) (by decide +kernel), List.mem_of_getElem? (i := 775) (by decide +kernel), List.mem_of_getElem? (i := 776) (by decide +kernel)⟩
theorem lw_p31 : lw_okq (⟨"StrayKeysModel", "read", "(I)I"⟩, 27) := ⟨⟨by decide +kernel, by decide +kernel⟩, List.mem_of_getElem? (i := 668) (by decide +kernel), List.mem_of_getElem? (i := 810) (by decide +kernel), List.mem_of_getElem? (i := 811) (by decide +kernel)⟩
def lw_privs_2 : List (MethodName × Nat) := [(⟨"StrayKeys", "rightSetsOf", "(LStrayKeys$Layout;)I"⟩, 15), (⟨"StrayKeys", "refusePairs", "(II)I"⟩, 15), (⟨"StrayKeys", "kindsThatFit", "(II)I"⟩, 15), (⟨"StrayKeys", "fits", "(LStrayKeys$Layout;I)Z"⟩, 15), (⟨"StrayKeys", "fillByKind", "(II)V"⟩, 15), (⟨"StrayKeys", "greatestPart", "(II)I"⟩, 15), (⟨"StrayKeys", "ghostsOf", "(I)I"⟩, 15), (⟨"StrayKeys", "valueOf", "(I)I"⟩, 15), (⟨"StrayKeys", "takeBackTurn", "(Z)V"⟩, 15), (⟨"StrayKeys", "refuseChance", "(I)I"⟩, 15), (⟨"StrayKeys", "weight", "(II)J"⟩, 15), (⟨"StrayKeys", "tellFraction", "(JJ)V"⟩, 15), (⟨"StrayKeys", "deedByLot", "(J)I"⟩, 15), (⟨"StrayKeysModel", "find", "(I)I"⟩, 27), (⟨"StrayKeysModel", "tellAsked", "(I)I"⟩, 27), (⟨"StrayKeysModel", "read", "(I)I"⟩, 27)]
theorem lw_r2 : ∀ q ∈ lw_privs_2, lw_okq q := List.forall_mem_cons.mpr ⟨lw_p16, List.forall_mem_cons.mpr ⟨lw_p17, List.forall_mem_cons.mpr ⟨lw_p18, List.forall_mem_cons.mpr ⟨lw_p19, List.forall_mem_cons.mpr ⟨lw_p20, List.forall_mem_cons.mpr ⟨lw_p21, List.forall_mem_cons.mpr ⟨lw_p22, List.forall_mem_cons.mpr ⟨lw_p23, List.forall_mem_cons.mpr ⟨lw_p24, List.forall_mem_cons.mpr ⟨lw_p25, List.forall_mem_cons.mpr ⟨lw_p26, List.forall_mem_cons.mpr ⟨lw_p27, List.forall_mem_cons.mpr ⟨lw_p28, List.forall_mem_cons.mpr ⟨lw_p29, List.forall_mem_cons.mpr ⟨lw_p30, List.forall_mem_cons.mpr ⟨lw_p31, fun _ h => absurd h List.not_mem_nil⟩⟩⟩⟩⟩⟩⟩⟩⟩⟩⟩⟩⟩⟩⟩⟩
theorem lw_p32 : lw_okq (⟨"StrayKeysModel", "figure", "(III)I"⟩, 27) := ⟨⟨by decide +kernel, by decide +kernel⟩, List.mem_of_getElem? (i := 668) (by decide +kernel), List.mem_of_getElem? (i := 817) (by decide +kernel), List.mem_of_getElem? (i := 818) (by decide +kernel)⟩
theorem lw_p33 : lw_okq (⟨"StrayKeysModel", "isKey", "(I)Z"⟩, 27) := ⟨⟨by decide +kernel, by decide +kernel⟩, List.mem_of_getElem? (i := 668) (by decide +kernel), List.mem_of_getElem? (i := 829) (by decide +kernel), List.mem_of_getElem? (i := 830) (by decide +kernel)⟩
theorem lw_p34 : lw_okq (⟨"StrayKeysModel", "factOf", "(II)I"⟩, 27) := ⟨⟨by decide +kernel, by decide +kernel⟩, List.mem_of_getElem? (i := 668) (by decide +kernel), List.mem_of_getElem? (i := 833) (by decide +kernel), List.mem_of_getElem? (i := 834) (by decide +kernel)⟩
theorem lw_p35 : lw_okq (⟨"StrayKeysModel", "now", "(I)I"⟩, 27) := ⟨⟨by decide +kernel, by decide +kernel⟩, List.mem_of_getElem? (i := 668) (by decide +kernel), List.mem_of_getElem? (i := 837) (by decide +kernel), List.mem_of_getElem? (i := 838) (by decide +kernel)⟩
theorem lw_p36 : lw_okq (⟨"StrayKeysModel", "take", "()V"⟩, 27) := ⟨⟨by decide +kernel, by decide +kernel⟩, List.mem_of_getElem? (i := 668) (by decide +kernel), List.mem_of_getElem? (i := 844) (by decide +kernel), List.mem_of_getElem? (i := 845) (by decide +kernel)⟩
theorem lw_p37 : lw_okq (⟨"StrayKeysModel", "conducts", "(I)Z"⟩, 27) := ⟨⟨by decide +kernel, by decide +kernel⟩, List.mem_of_getElem? (i := 668) (by decide +kernel), List.mem_of_getElem? (i := 848) (by decide +kernel), List.mem_of_getElem? (i := 849) (by decide +kernel)⟩
theorem lw_p38 : lw_okq (⟨"StrayKeysModel", "toldNow", "()I"⟩, 27) := ⟨⟨by decide +kernel, by decide +kernel⟩, List.mem_of_getElem? (i := 668) (by decide +kernel), List.mem_of_getElem? (i := 855) (by decide +kernel), List.mem_of_getElem? (i := 856) (by decide +kernel)⟩
theorem lw_p39 : lw_okq (⟨"StrayKeysModel", "toldBy", "()I"⟩, 27) := ⟨⟨by decide +kernel, by decide +kernel⟩, List.mem_of_getElem? (i := 668) (by decide +kernel), List.mem_of_getElem? (i := 859) (by decide +kernel), List.mem_of_getElem? (i := 860) (by decide +kernel)⟩
theorem lw_p40 : lw_okq (⟨"StrayKeysModel", "readBy", "(I)I"⟩, 27) := ⟨⟨by decide +kernel, by decide +kernel⟩, List.mem_of_getElem? (i := 668) (by decide +kernel), List.mem_of_getElem? (i := 863) (by decide +kernel), List.mem_of_getElem? (i := 864) (by decide +kernel)⟩
theorem lw_p41 : lw_okq (⟨"StrayKeysModel", "begin", "()V"⟩, 27) := ⟨⟨by decide +kernel, by decide +kernel⟩, List.mem_of_getElem? (i := 668) (by decide +kernel), List.mem_of_getElem? (i := 885) (by decide +kernel), List.mem_of_getElem? (i := 886) (by decide +kernel)⟩
theorem lw_p42 : lw_okq (⟨"StrayKeysModel", "pressNow", "(I)V"⟩, 27) := ⟨⟨by decide +kernel, by decide +kernel⟩, List.mem_of_getElem? (i := 668) (by decide +kernel), List.mem_of_getElem? (i := 889) (by decide +kernel), List.mem_of_getElem? (i := 890) (by decide +kernel)⟩
theorem lw_p43 : lw_okq (⟨"StrayKeysModel", "passOn", "([II)V"⟩, 27) := ⟨⟨by decide +kernel, by decide +kernel⟩, List.mem_of_getElem? (i := 668) (by decide +kernel), List.mem_of_getElem? (i := 900) (by decide +kernel), List.mem_of_getElem? (i := 901) (by decide +kernel)⟩
theorem lw_p44 : lw_okq (⟨"StrayKeysModel", "isSet", "(I)Z"⟩, 27) := ⟨⟨by decide +kernel, by decide +kernel⟩, List.mem_of_getElem? (i := 668) (by decide +kernel), List.mem_of_getElem? (i := 936) (by decide +kernel), List.mem_of_getElem? (i := 937) (by decide +kernel)⟩
theorem lw_p45 : lw_okq (⟨"StrayKeysModel", "toldOf", "(I)I"⟩, 27) := ⟨⟨by decide +kernel, by decide +kernel⟩, List.mem_of_getElem? (i := 668) (by decide +kernel), List.mem_of_getElem? (i := 940) (by decide +kernel), List.mem_of_getElem? (i := 941) (by decide +kernel)⟩
theorem lw_p46 : lw_okq (⟨"StrayKeysModel", "rightSets", "()I"⟩, 27) := ⟨⟨by decide +kernel, by decide +kernel⟩, List.mem_of_getElem? (i := 668) (by decide +kernel), List.mem_of_getElem? (i := 952) (by decide +kernel), List.mem_of_getElem? (i := 953) (by decide +kernel)⟩
theorem lw_p47 : lw_okq (⟨"StrayKeysModel", "pairs", "(I)I"⟩, 27) := ⟨⟨by decide +kernel, by decide +kernel⟩, List.mem_of_getElem? (i := 668) (by decide +kernel), List.mem_of_getElem? (i := 968) (by decide +kernel), List.mem_of_getElem? (i := 969) (by decide +kernel)⟩
def lw_privs_3 : List (MethodName × Nat) := [(⟨"StrayKeysModel", "figure", "(III)I"⟩, 27), (⟨"StrayKeysModel", "isKey", "(I)Z"⟩, 27), (⟨"StrayKeysModel", "factOf", "(II)I"⟩, 27), (⟨"StrayKeysModel", "now", "(I)I"⟩, 27), (⟨"StrayKeysModel", "take", "()V"⟩, 27), (⟨"StrayKeysModel", "conducts", "(I)Z"⟩, 27), (⟨"StrayKeysModel", "toldNow", "()I"⟩, 27), (⟨"StrayKeysModel", "toldBy", "()I"⟩, 27), (⟨"StrayKeysModel", "readBy", "(I)I"⟩, 27), (⟨"StrayKeysModel", "begin", "()V"⟩, 27), (⟨"StrayKeysModel", "pressNow", "(I)V"⟩, 27), (⟨"StrayKeysModel", "passOn", "([II)V"⟩, 27), (⟨"StrayKeysModel", "isSet", "(I)Z"⟩, 27), (⟨"StrayKeysModel", "toldOf", "(I)I"⟩, 27), (⟨"StrayKeysModel", "rightSets", "()I"⟩, 27), (⟨"StrayKeysModel", "pairs", "(I)I"⟩, 27)]
theorem lw_r3 : ∀ q ∈ lw_privs_3, lw_okq q := List.forall_mem_cons.mpr ⟨lw_p32, List.forall_mem_cons.mpr ⟨lw_p33, List.forall_mem_cons.mpr ⟨lw_p34, List.forall_mem_cons.mpr ⟨lw_p35, List.forall_mem_cons.mpr ⟨lw_p36, List.forall_mem_cons.mpr ⟨lw_p37, List.forall_mem_cons.mpr ⟨lw_p38, List.forall_mem_cons.mpr ⟨lw_p39, List.forall_mem_cons.mpr ⟨lw_p40, List.forall_mem_cons.mpr ⟨lw_p41, List.forall_mem_cons.mpr ⟨lw_p42, List.forall_mem_cons.mpr ⟨lw_p43, List.forall_mem_cons.mpr ⟨lw_p44, List.forall_mem_cons.mpr ⟨lw_p45, List.forall_mem_cons.mpr ⟨lw_p46, List.forall_mem_cons.mpr ⟨lw_p47, fun _ h => absurd h List.not_mem_nil⟩⟩⟩⟩⟩⟩⟩⟩⟩⟩⟩⟩⟩⟩⟩⟩
theorem lw_p48 : lw_okq (⟨"StrayKeysModel", "kindsBy", "(II)I"⟩, 27) := ⟨⟨by decide +kernel, by decide +kernel⟩, List.mem_of_getElem? (i := 668) (by decide +kernel), List.mem_of_getElem? (i := 972) (by decide +kernel), List.mem_of_getElem? (i := 973) (by decide +kernel)⟩
theorem lw_p49 : lw_okq (⟨"StrayKeysModel", "isSo", "(I)Z"⟩, 27) := ⟨⟨by decide +kernel, by decide +kernel⟩, List.mem_of_getElem? (i := 668) (by decide +kernel), List.mem_of_getElem? (i := 976) (by decide +kernel), List.mem_of_getElem? (i := 977) (by decide +kernel)⟩
theorem lw_p50 : lw_okq (⟨"StrayKeysModel", "isFree", "(III)Z"⟩, 27) := ⟨⟨by decide +kernel, by decide +kernel⟩, List.mem_of_getElem? (i := 668) (by decide +kernel), List.mem_of_getElem? (i := 984) (by decide +kernel), List.mem_of_getElem? (i := 985) (by decide +kernel)⟩
theorem lw_p51 : lw_okq (⟨"StrayKeysModel", "waysOf", "(II)J"⟩, 27) := ⟨⟨by decide +kernel, by decide +kernel⟩, List.mem_of_getElem? (i := 668) (by decide +kernel), List.mem_of_getElem? (i := 1000) (by decide +kernel), List.mem_of_getElem? (i := 1001) (by decide +kernel)⟩
theorem lw_p52 : lw_okq (⟨"StrayKeysModel", "allWays", "()J"⟩, 27) := ⟨⟨by decide +kernel, by decide +kernel⟩, List.mem_of_getElem? (i := 668) (by decide +kernel), List.mem_of_getElem? (i := 1005) (by decide +kernel), List.mem_of_getElem? (i := 1006) (by decide +kernel)⟩
theorem lw_p53 : lw_okq (⟨"StrayKeysModel", "fraction", "(JJ)I"⟩, 27) := ⟨⟨by decide +kernel, by decide +kernel⟩, List.mem_of_getElem? (i := 668) (by decide +kernel), List.mem_of_getElem? (i := 1009) (by decide +kernel), List.mem_of_getElem? (i := 1010) (by decide +kernel)⟩
theorem lw_p54 : lw_okq (⟨"StrayKeysModel", "thereAre", "(I)I"⟩, 27) := ⟨⟨by decide +kernel, by decide +kernel⟩, List.mem_of_getElem? (i := 668) (by decide +kernel), List.mem_of_getElem? (i := 1042) (by decide +kernel), List.mem_of_getElem? (i := 1043) (by decide +kernel)⟩
theorem lw_p55 : lw_okq (⟨"StrayKeysModel", "ofKinds", "(II)I"⟩, 27) := ⟨⟨by decide +kernel, by decide +kernel⟩, List.mem_of_getElem? (i := 668) (by decide +kernel), List.mem_of_getElem? (i := 1046) (by decide +kernel), List.mem_of_getElem? (i := 1047) (by decide +kernel)⟩
def lw_privs_4 : List (MethodName × Nat) := [(⟨"StrayKeysModel", "kindsBy", "(II)I"⟩, 27), (⟨"StrayKeysModel", "isSo", "(I)Z"⟩, 27), (⟨"StrayKeysModel", "isFree", "(III)Z"⟩, 27), (⟨"StrayKeysModel", "waysOf", "(II)J"⟩, 27), (⟨"StrayKeysModel", "allWays", "()J"⟩, 27), (⟨"StrayKeysModel", "fraction", "(JJ)I"⟩, 27), (⟨"StrayKeysModel", "thereAre", "(I)I"⟩, 27), (⟨"StrayKeysModel", "ofKinds", "(II)I"⟩, 27)]
theorem lw_r4 : ∀ q ∈ lw_privs_4, lw_okq q := List.forall_mem_cons.mpr ⟨lw_p48, List.forall_mem_cons.mpr ⟨lw_p49, List.forall_mem_cons.mpr ⟨lw_p50, List.forall_mem_cons.mpr ⟨lw_p51, List.forall_mem_cons.mpr ⟨lw_p52, List.forall_mem_cons.mpr ⟨lw_p53, List.forall_mem_cons.mpr ⟨lw_p54, List.forall_mem_cons.mpr ⟨lw_p55, fun _ h => absurd h List.not_mem_nil⟩⟩⟩⟩⟩⟩⟩⟩
def lw_privs : List (MethodName × Nat) := lw_privs_1 ++ (lw_privs_2 ++ (lw_privs_3 ++ (lw_privs_4)))
def lw_tbl : List Cond := k2_sels lw_privs ++ tables_1
theorem lw_privs_ok : ∀ q ∈ lw_privs, lw_okq q := by
  show ∀ q ∈ lw_privs_1 ++ (lw_privs_2 ++ (lw_privs_3 ++ (lw_privs_4))), lw_okq q
  exact List.forall_mem_append.mpr ⟨lw_r1, List.forall_mem_append.mpr ⟨lw_r2, List.forall_mem_append.mpr ⟨lw_r3, lw_r4⟩⟩⟩
def RX0 : String := "StrayKeys$Layout"
def TX0 : u_T := fun k => match k with
  | 0 => ("StrayKeys$Layout", "kind", "[I", true)
  | 1 => ("StrayKeys$Layout", "line", "[I", true)
  | 2 => ("StrayKeys$Layout", "column", "[I", true)
  | 3 => ("StrayKeys$Layout", "delay", "[I", true)
  | _ => ("StrayKeys$Layout", "size", "I", false)
def tyX0 : Nat → FieldType := fun k => match k with
  | 0 => .array .int
  | 1 => .array .int
  | 2 => .array .int
  | 3 => .array .int
  | _ => .int
abbrev wsX00 : List Cond := u_ws RX0 TX0 5
theorem nmX0 : ∀ a, a < 5 → ∀ b, b < 5 → a ≠ b → (TX0 a).2.1 ≠ (TX0 b).2.1 := by decide +kernel
theorem tyX0_ok : ∀ k, k < 5 → parseFieldDescriptor (TX0 k).2.2.1 = some (tyX0 k) := by decide +kernel
abbrev cX0_init : ByteArray := prog_2_method_1_code
def yX0_init : MethodName := ⟨RX0, "<init>", "()V"⟩
abbrev cX0_has : ByteArray := prog_2_method_2_code
def yX0_has : MethodName := ⟨RX0, "has", "(I)Z"⟩
abbrev cX0_sets : ByteArray := prog_2_method_3_code
def yX0_sets : MethodName := ⟨RX0, "sets", "()I"⟩
abbrev cX0_kindOf : ByteArray := prog_2_method_4_code
def yX0_kindOf : MethodName := ⟨RX0, "kindOf", "(I)I"⟩
abbrev cX0_lineOf : ByteArray := prog_2_method_5_code
def yX0_lineOf : MethodName := ⟨RX0, "lineOf", "(I)I"⟩
abbrev cX0_columnOf : ByteArray := prog_2_method_6_code
def yX0_columnOf : MethodName := ⟨RX0, "columnOf", "(I)I"⟩
abbrev cX0_delayOf : ByteArray := prog_2_method_7_code
def yX0_delayOf : MethodName := ⟨RX0, "delayOf", "(I)I"⟩
abbrev cX0_keyAt : ByteArray := prog_2_method_8_code
def yX0_keyAt : MethodName := ⟨RX0, "keyAt", "(II)I"⟩
abbrev cX0_howManyOf : ByteArray := prog_2_method_9_code
def yX0_howManyOf : MethodName := ⟨RX0, "howManyOf", "(I)I"⟩
abbrev cX0_turnInto : ByteArray := prog_2_method_10_code
def yX0_turnInto : MethodName := ⟨RX0, "turnInto", "(II)V"⟩
abbrev cX0_seat : ByteArray := prog_2_method_11_code
def yX0_seat : MethodName := ⟨RX0, "seat", "(III)V"⟩
abbrev cX0_copyFrom : ByteArray := prog_2_method_12_code
def yX0_copyFrom : MethodName := ⟨RX0, "copyFrom", "(LStrayKeys$Layout;)V"⟩
abbrev cX0_conducts : ByteArray := prog_2_method_13_code
def yX0_conducts : MethodName := ⟨RX0, "conducts", "(ILStrayKeys$Moment;I)Z"⟩
abbrev cX0_readFrom : ByteArray := prog_2_method_14_code
def yX0_readFrom : MethodName := ⟨RX0, "readFrom", "(LStrayKeys$Shelf;I)I"⟩
abbrev cX0_behindBlanks : ByteArray := prog_2_method_15_code
def yX0_behindBlanks : MethodName := ⟨RX0, "behindBlanks", "(LStrayKeys$Shelf;II)I"⟩
abbrev cX0_rightSigns : ByteArray := prog_2_method_16_code
def yX0_rightSigns : MethodName := ⟨RX0, "rightSigns", "(LStrayKeys$Shelf;II)I"⟩
abbrev cX0_kindOfLetter : ByteArray := prog_2_method_17_code
def yX0_kindOfLetter : MethodName := ⟨RX0, "kindOfLetter", "(I)I"⟩
abbrev cX0_figure : ByteArray := prog_2_method_18_code
def yX0_figure : MethodName := ⟨RX0, "figure", "(II)I"⟩
def RX1 : String := "StrayKeys$Moment"
def TX1 : u_T := fun k => match k with
  | 0 => ("StrayKeys$Moment", "held", "[I", true)
  | 1 => ("StrayKeys$Moment", "scanNumber", "I", false)
  | 2 => ("StrayKeys$Moment", "pressed", "I", false)
  | _ => ("StrayKeys$Moment", "severed", "I", false)
def tyX1 : Nat → FieldType := fun k => match k with
  | 0 => .array .int
  | 1 => .int
  | 2 => .int
  | _ => .int
abbrev wsX10 : List Cond := u_ws RX1 TX1 4
theorem nmX1 : ∀ a, a < 4 → ∀ b, b < 4 → a ≠ b → (TX1 a).2.1 ≠ (TX1 b).2.1 := by decide +kernel
theorem tyX1_ok : ∀ k, k < 4 → parseFieldDescriptor (TX1 k).2.2.1 = some (tyX1 k) := by decide +kernel
abbrev cX1_init : ByteArray := prog_3_method_1_code
def yX1_init : MethodName := ⟨RX1, "<init>", "()V"⟩
abbrev cX1_heldFor : ByteArray := prog_3_method_2_code
def yX1_heldFor : MethodName := ⟨RX1, "heldFor", "(I)I"⟩
abbrev cX1_reset : ByteArray := prog_3_method_3_code
def yX1_reset : MethodName := ⟨RX1, "reset", "()V"⟩
abbrev cX1_copyFrom : ByteArray := prog_3_method_4_code
def yX1_copyFrom : MethodName := ⟨RX1, "copyFrom", "(LStrayKeys$Moment;)V"⟩
abbrev cX1_undergo : ByteArray := prog_3_method_5_code
def yX1_undergo : MethodName := ⟨RX1, "undergo", "(I)V"⟩
abbrev cX1_passScan : ByteArray := prog_3_method_6_code
def yX1_passScan : MethodName := ⟨RX1, "passScan", "()V"⟩
def RX2 : String := "StrayKeys$Shelf"
def TX2 : u_T := fun k => match k with
  | 0 => ("StrayKeys$Shelf", "places", "I", true)
  | 1 => ("StrayKeys$Shelf", "most", "I", true)
  | 2 => ("StrayKeys$Shelf", "sizes", "[I", true)
  | _ => ("StrayKeys$Shelf", "cells", "[I", true)
def tyX2 : Nat → FieldType := fun k => match k with
  | 0 => .int
  | 1 => .int
  | 2 => .array .int
  | _ => .array .int
abbrev wsX20 : List Cond := u_ws RX2 TX2 4
theorem nmX2 : ∀ a, a < 4 → ∀ b, b < 4 → a ≠ b → (TX2 a).2.1 ≠ (TX2 b).2.1 := by decide +kernel
theorem tyX2_ok : ∀ k, k < 4 → parseFieldDescriptor (TX2 k).2.2.1 = some (tyX2 k) := by decide +kernel
abbrev cX2_init : ByteArray := prog_4_method_1_code
def yX2_init : MethodName := ⟨RX2, "<init>", "(II)V"⟩
abbrev cX2_size : ByteArray := prog_4_method_2_code
def yX2_size : MethodName := ⟨RX2, "size", "(I)I"⟩
abbrev cX2_has : ByteArray := prog_4_method_3_code
def yX2_has : MethodName := ⟨RX2, "has", "(I)Z"⟩
abbrev cX2_howMany : ByteArray := prog_4_method_4_code
def yX2_howMany : MethodName := ⟨RX2, "howMany", "(I)I"⟩
abbrev cX2_get : ByteArray := prog_4_method_5_code
def yX2_get : MethodName := ⟨RX2, "get", "(II)I"⟩
abbrev cX2_set : ByteArray := prog_4_method_6_code
def yX2_set : MethodName := ⟨RX2, "set", "(III)V"⟩
abbrev cX2_make : ByteArray := prog_4_method_7_code
def yX2_make : MethodName := ⟨RX2, "make", "(III)V"⟩
abbrev cX2_remove : ByteArray := prog_4_method_8_code
def yX2_remove : MethodName := ⟨RX2, "remove", "(I)V"⟩
abbrev cX2_add : ByteArray := prog_4_method_9_code
def yX2_add : MethodName := ⟨RX2, "add", "(II)V"⟩
abbrev cX2_shorten : ByteArray := prog_4_method_10_code
def yX2_shorten : MethodName := ⟨RX2, "shorten", "(II)V"⟩
abbrev cX2_reaches : ByteArray := prog_4_method_11_code
def yX2_reaches : MethodName := ⟨RX2, "reaches", "(III)Z"⟩
abbrev cX2_move : ByteArray := prog_4_method_12_code
def yX2_move : MethodName := ⟨RX2, "move", "(IIIII)V"⟩
abbrev cX2_moveAll : ByteArray := prog_4_method_13_code
def yX2_moveAll : MethodName := ⟨RX2, "moveAll", "(II)V"⟩
abbrev cX2_sum : ByteArray := prog_4_method_14_code
def yX2_sum : MethodName := ⟨RX2, "sum", "(I)J"⟩
abbrev cX2_mixInto : ByteArray := prog_4_method_15_code
def yX2_mixInto : MethodName := ⟨RX2, "mixInto", "(J)J"⟩
def RX3 : String := "StrayKeys$Wires"
def TX3 : u_T := fun k => match k with
  | 0 => ("StrayKeys$Wires", "line", "[I", true)
  | 1 => ("StrayKeys$Wires", "columnBit", "[I", true)
  | 2 => ("StrayKeys$Wires", "forth", "[I", true)
  | 3 => ("StrayKeys$Wires", "back", "[I", true)
  | 4 => ("StrayKeys$Wires", "comesOut", "[I", true)
  | 5 => ("StrayKeys$Wires", "size", "I", false)
  | 6 => ("StrayKeys$Wires", "ready", "I", false)
  | 7 => ("StrayKeys$Wires", "always", "I", false)
  | _ => ("StrayKeys$Wires", "oneWay", "I", false)
def tyX3 : Nat → FieldType := fun k => match k with
  | 0 => .array .int
  | 1 => .array .int
  | 2 => .array .int
  | 3 => .array .int
  | 4 => .array .int
  | 5 => .int
  | 6 => .int
  | 7 => .int
  | _ => .int
abbrev wsX30 : List Cond := u_ws RX3 TX3 9
theorem nmX3 : ∀ a, a < 9 → ∀ b, b < 9 → a ≠ b → (TX3 a).2.1 ≠ (TX3 b).2.1 := by decide +kernel
theorem tyX3_ok : ∀ k, k < 9 → parseFieldDescriptor (TX3 k).2.2.1 = some (tyX3 k) := by decide +kernel
abbrev cX3_init : ByteArray := prog_5_method_1_code
def yX3_init : MethodName := ⟨RX3, "<init>", "()V"⟩
abbrev cX3_attach : ByteArray := prog_5_method_2_code
def yX3_attach : MethodName := ⟨RX3, "attach", "(LStrayKeys$Layout;LStrayKeys$Moment;)V"⟩
abbrev cX3_connect : ByteArray := prog_5_method_3_code
def yX3_connect : MethodName := ⟨RX3, "connect", "(I)V"⟩
abbrev cX3_columnsFrom : ByteArray := prog_5_method_4_code
def yX3_columnsFrom : MethodName := ⟨RX3, "columnsFrom", "(I)I"⟩
abbrev cX3_columnsReadBy : ByteArray := prog_5_method_5_code
def yX3_columnsReadBy : MethodName := ⟨RX3, "columnsReadBy", "(II)I"⟩
abbrev cX3_toldOf : ByteArray := prog_5_method_6_code
def yX3_toldOf : MethodName := ⟨RX3, "toldOf", "(I)I"⟩
def RX4 : String := "StrayKeys"
def TX4 : u_T := fun k => match k with
  | 0 => ("StrayKeys", "rows", "LStrayKeys$Shelf;", true)
  | 1 => ("StrayKeys", "texts", "LStrayKeys$Shelf;", true)
  | 2 => ("StrayKeys", "deeds", "LStrayKeys$Shelf;", true)
  | 3 => ("StrayKeys", "keys", "LStrayKeys$Layout;", true)
  | 4 => ("StrayKeys", "guess", "LStrayKeys$Layout;", true)
  | 5 => ("StrayKeys", "now", "LStrayKeys$Moment;", true)
  | 6 => ("StrayKeys", "ahead", "LStrayKeys$Moment;", true)
  | 7 => ("StrayKeys", "wires", "LStrayKeys$Wires;", true)
  | 8 => ("StrayKeys", "bySet", "[I", true)
  | 9 => ("StrayKeys", "byKind", "[[I", true)
  | 10 => ("StrayKeys", "timesFound", "[I", true)
  | 11 => ("StrayKeys", "latestFinding", "I", false)
  | 12 => ("StrayKeys", "answer", "I", false)
  | 13 => ("StrayKeys", "above", "J", false)
  | _ => ("StrayKeys", "below", "J", false)
def tyX4 : Nat → FieldType := fun k => match k with
  | 0 => .object "StrayKeys$Shelf"
  | 1 => .object "StrayKeys$Shelf"
  | 2 => .object "StrayKeys$Shelf"
  | 3 => .object "StrayKeys$Layout"
  | 4 => .object "StrayKeys$Layout"
  | 5 => .object "StrayKeys$Moment"
  | 6 => .object "StrayKeys$Moment"
  | 7 => .object "StrayKeys$Wires"
  | 8 => .array .int
  | 9 => .array (.array .int)
  | 10 => .array .int
  | 11 => .int
  | 12 => .int
  | 13 => .long
  | _ => .long
abbrev wsX40 : List Cond := u_ws RX4 TX4 15
theorem nmX4 : ∀ a, a < 15 → ∀ b, b < 15 → a ≠ b → (TX4 a).2.1 ≠ (TX4 b).2.1 := by decide +kernel
theorem tyX4_ok : ∀ k, k < 15 → parseFieldDescriptor (TX4 k).2.2.1 = some (tyX4 k) := by decide +kernel
abbrev cX4_init : ByteArray := prog_1_method_1_code
def yX4_init : MethodName := ⟨RX4, "<init>", "()V"⟩
abbrev cX4_row : ByteArray := prog_1_method_2_code
def yX4_row : MethodName := ⟨RX4, "row", "(II)I"⟩
abbrev cX4_lay : ByteArray := prog_1_method_3_code
def yX4_lay : MethodName := ⟨RX4, "lay", "(III)I"⟩
abbrev cX4_at : ByteArray := prog_1_method_4_code
def yX4_at : MethodName := ⟨RX4, "at", "(II)I"⟩
abbrev cX4_tear : ByteArray := prog_1_method_5_code
def yX4_tear : MethodName := ⟨RX4, "tear", "(I)I"⟩
abbrev cX4_copy : ByteArray := prog_1_method_6_code
def yX4_copy : MethodName := ⟨RX4, "copy", "(IIIII)I"⟩
abbrev cX4_mean : ByteArray := prog_1_method_7_code
def yX4_mean : MethodName := ⟨RX4, "mean", "(I)I"⟩
abbrev cX4_text : ByteArray := prog_1_method_8_code
def yX4_text : MethodName := ⟨RX4, "text", "(II)I"⟩
abbrev cX4_put : ByteArray := prog_1_method_9_code
def yX4_put : MethodName := ⟨RX4, "put", "(III)I"⟩
abbrev cX4_fault : ByteArray := prog_1_method_10_code
def yX4_fault : MethodName := ⟨RX4, "fault", "(I)I"⟩
abbrev cX4_board : ByteArray := prog_1_method_11_code
def yX4_board : MethodName := ⟨RX4, "board", "(I)I"⟩
abbrev cX4_key : ByteArray := prog_1_method_12_code
def yX4_key : MethodName := ⟨RX4, "key", "(II)I"⟩
abbrev cX4_mark : ByteArray := prog_1_method_13_code
def yX4_mark : MethodName := ⟨RX4, "mark", "(II)I"⟩
abbrev cX4_reads : ByteArray := prog_1_method_14_code
def yX4_reads : MethodName := ⟨RX4, "reads", "(I)I"⟩
abbrev cX4_press : ByteArray := prog_1_method_15_code
def yX4_press : MethodName := ⟨RX4, "press", "(I)I"⟩
abbrev cX4_scan : ByteArray := prog_1_method_16_code
def yX4_scan : MethodName := ⟨RX4, "scan", "()I"⟩
abbrev cX4_cut : ByteArray := prog_1_method_17_code
def yX4_cut : MethodName := ⟨RX4, "cut", "(I)I"⟩
abbrev cX4_undo : ByteArray := prog_1_method_18_code
def yX4_undo : MethodName := ⟨RX4, "undo", "(I)I"⟩
abbrev cX4_keep : ByteArray := prog_1_method_19_code
def yX4_keep : MethodName := ⟨RX4, "keep", "(I)I"⟩
abbrev cX4_on : ByteArray := prog_1_method_20_code
def yX4_on : MethodName := ⟨RX4, "on", "(I)I"⟩
abbrev cX4_told : ByteArray := prog_1_method_21_code
def yX4_told : MethodName := ⟨RX4, "told", "()I"⟩
abbrev cX4_ghosts : ByteArray := prog_1_method_22_code
def yX4_ghosts : MethodName := ⟨RX4, "ghosts", "()I"⟩
abbrev cX4_later : ByteArray := prog_1_method_23_code
def yX4_later : MethodName := ⟨RX4, "later", "(I)I"⟩
abbrev cX4_would : ByteArray := prog_1_method_24_code
def yX4_would : MethodName := ⟨RX4, "would", "(I)I"⟩
abbrev cX4_haunts : ByteArray := prog_1_method_25_code
def yX4_haunts : MethodName := ⟨RX4, "haunts", "(I)I"⟩
abbrev cX4_right : ByteArray := prog_1_method_26_code
def yX4_right : MethodName := ⟨RX4, "right", "()I"⟩
abbrev cX4_alike : ByteArray := prog_1_method_27_code
def yX4_alike : MethodName := ⟨RX4, "alike", "()I"⟩
abbrev cX4_best : ByteArray := prog_1_method_28_code
def yX4_best : MethodName := ⟨RX4, "best", "()I"⟩
abbrev cX4_kinds : ByteArray := prog_1_method_29_code
def yX4_kinds : MethodName := ⟨RX4, "kinds", "(II)I"⟩
abbrev cX4_places : ByteArray := prog_1_method_30_code
def yX4_places : MethodName := ⟨RX4, "places", "(II)I"⟩
abbrev cX4_test : ByteArray := prog_1_method_31_code
def yX4_test : MethodName := ⟨RX4, "test", "(II)I"⟩
abbrev cX4_duel : ByteArray := prog_1_method_32_code
def yX4_duel : MethodName := ⟨RX4, "duel", "(I)I"⟩
abbrev cX4_odds : ByteArray := prog_1_method_33_code
def yX4_odds : MethodName := ⟨RX4, "odds", "(I)I"⟩
abbrev cX4_mid : ByteArray := prog_1_method_34_code
def yX4_mid : MethodName := ⟨RX4, "mid", "(I)I"⟩
abbrev cX4_lots : ByteArray := prog_1_method_35_code
def yX4_lots : MethodName := ⟨RX4, "lots", "(II)I"⟩
abbrev cX4_asked : ByteArray := prog_1_method_36_code
def yX4_asked : MethodName := ⟨RX4, "asked", "()I"⟩
abbrev cX4_upper : ByteArray := prog_1_method_37_code
def yX4_upper : MethodName := ⟨RX4, "upper", "()J"⟩
abbrev cX4_lower : ByteArray := prog_1_method_38_code
def yX4_lower : MethodName := ⟨RX4, "lower", "()J"⟩
abbrev cX4_count : ByteArray := prog_1_method_39_code
def yX4_count : MethodName := ⟨RX4, "count", "(I)I"⟩
abbrev cX4_finding : ByteArray := prog_1_method_40_code
def yX4_finding : MethodName := ⟨RX4, "finding", "()I"⟩
abbrev cX4_findings : ByteArray := prog_1_method_41_code
def yX4_findings : MethodName := ⟨RX4, "findings", "(I)I"⟩
abbrev cX4_digest : ByteArray := prog_1_method_42_code
def yX4_digest : MethodName := ⟨RX4, "digest", "()J"⟩
abbrev cX4_within : ByteArray := prog_1_method_43_code
def yX4_within : MethodName := ⟨RX4, "within", "(II)Z"⟩
abbrev cX4_found : ByteArray := prog_1_method_44_code
def yX4_found : MethodName := ⟨RX4, "found", "(I)I"⟩
abbrev cX4_refuseShelfPlace : ByteArray := prog_1_method_45_code
def yX4_refuseShelfPlace : MethodName := ⟨RX4, "refuseShelfPlace", "(LStrayKeys$Shelf;I)I"⟩
abbrev cX4_refusePlace : ByteArray := prog_1_method_46_code
def yX4_refusePlace : MethodName := ⟨RX4, "refusePlace", "(LStrayKeys$Shelf;II)I"⟩
abbrev cX4_refusePairs : ByteArray := prog_1_method_47_code
def yX4_refusePairs : MethodName := ⟨RX4, "refusePairs", "(II)I"⟩
abbrev cX4_refuseChance : ByteArray := prog_1_method_48_code
def yX4_refuseChance : MethodName := ⟨RX4, "refuseChance", "(I)I"⟩
abbrev cX4_hasNoRoomFor : ByteArray := prog_1_method_49_code
def yX4_hasNoRoomFor : MethodName := ⟨RX4, "hasNoRoomFor", "(I)Z"⟩
abbrev cX4_perform : ByteArray := prog_1_method_50_code
def yX4_perform : MethodName := ⟨RX4, "perform", "(I)V"⟩
abbrev cX4_replay : ByteArray := prog_1_method_51_code
def yX4_replay : MethodName := ⟨RX4, "replay", "()V"⟩
abbrev cX4_deedByLot : ByteArray := prog_1_method_52_code
def yX4_deedByLot : MethodName := ⟨RX4, "deedByLot", "(J)I"⟩
abbrev cX4_holds : ByteArray := prog_1_method_53_code
def yX4_holds : MethodName := ⟨RX4, "holds", "(II)Z"⟩
abbrev cX4_isOf : ByteArray := prog_1_method_54_code
def yX4_isOf : MethodName := ⟨RX4, "isOf", "(II)Z"⟩
abbrev cX4_toldNow : ByteArray := prog_1_method_55_code
def yX4_toldNow : MethodName := ⟨RX4, "toldNow", "()I"⟩
abbrev cX4_toldAt : ByteArray := prog_1_method_56_code
def yX4_toldAt : MethodName := ⟨RX4, "toldAt", "(LStrayKeys$Moment;)I"⟩
abbrev cX4_keyFact : ByteArray := prog_1_method_57_code
def yX4_keyFact : MethodName := ⟨RX4, "keyFact", "(II)I"⟩
abbrev cX4_toldWerePlain : ByteArray := prog_1_method_58_code
def yX4_toldWerePlain : MethodName := ⟨RX4, "toldWerePlain", "(I)I"⟩
abbrev cX4_scansConducting : ByteArray := prog_1_method_59_code
def yX4_scansConducting : MethodName := ⟨RX4, "scansConducting", "(II)I"⟩
abbrev cX4_isAmongFirst : ByteArray := prog_1_method_60_code
def yX4_isAmongFirst : MethodName := ⟨RX4, "isAmongFirst", "(II)Z"⟩
abbrev cX4_fillBySet : ByteArray := prog_1_method_61_code
def yX4_fillBySet : MethodName := ⟨RX4, "fillBySet", "()V"⟩
abbrev cX4_rightSetsOf : ByteArray := prog_1_method_62_code
def yX4_rightSetsOf : MethodName := ⟨RX4, "rightSetsOf", "(LStrayKeys$Layout;)I"⟩
abbrev cX4_valueOf : ByteArray := prog_1_method_63_code
def yX4_valueOf : MethodName := ⟨RX4, "valueOf", "(I)I"⟩
abbrev cX4_ghostsOf : ByteArray := prog_1_method_64_code
def yX4_ghostsOf : MethodName := ⟨RX4, "ghostsOf", "(I)I"⟩
abbrev cX4_fits : ByteArray := prog_1_method_65_code
def yX4_fits : MethodName := ⟨RX4, "fits", "(LStrayKeys$Layout;I)Z"⟩
abbrev cX4_kindsThatFit : ByteArray := prog_1_method_66_code
def yX4_kindsThatFit : MethodName := ⟨RX4, "kindsThatFit", "(II)I"⟩
abbrev cX4_fillByKind : ByteArray := prog_1_method_67_code
def yX4_fillByKind : MethodName := ⟨RX4, "fillByKind", "(II)V"⟩
abbrev cX4_greatestPart : ByteArray := prog_1_method_68_code
def yX4_greatestPart : MethodName := ⟨RX4, "greatestPart", "(II)I"⟩
abbrev cX4_takeBackTurn : ByteArray := prog_1_method_69_code
def yX4_takeBackTurn : MethodName := ⟨RX4, "takeBackTurn", "(Z)V"⟩
abbrev cX4_power : ByteArray := prog_1_method_70_code
def yX4_power : MethodName := ⟨RX4, "power", "(JI)J"⟩
abbrev cX4_weight : ByteArray := prog_1_method_71_code
def yX4_weight : MethodName := ⟨RX4, "weight", "(II)J"⟩
abbrev cX4_tellFraction : ByteArray := prog_1_method_72_code
def yX4_tellFraction : MethodName := ⟨RX4, "tellFraction", "(JJ)V"⟩
def RX5 : String := "StrayKeysModel"
def TX5 : u_T := fun k => match k with
  | 0 => ("StrayKeysModel", "latest", "I", false)
  | 1 => ("StrayKeysModel", "found", "[I", true)
  | 2 => ("StrayKeysModel", "asked", "I", false)
  | 3 => ("StrayKeysModel", "upper", "J", false)
  | 4 => ("StrayKeysModel", "lower", "J", false)
  | 5 => ("StrayKeysModel", "wide", "[I", true)
  | 6 => ("StrayKeysModel", "rows", "[I", true)
  | 7 => ("StrayKeysModel", "far", "[I", true)
  | 8 => ("StrayKeysModel", "texts", "[B", true)
  | 9 => ("StrayKeysModel", "moved", "[I", true)
  | 10 => ("StrayKeysModel", "keys", "I", false)
  | 11 => ("StrayKeysModel", "kind", "[I", true)
  | 12 => ("StrayKeysModel", "line", "[I", true)
  | 13 => ("StrayKeysModel", "column", "[I", true)
  | 14 => ("StrayKeysModel", "delay", "[I", true)
  | 15 => ("StrayKeysModel", "all", "[I", true)
  | 16 => ("StrayKeysModel", "deeds", "I", false)
  | 17 => ("StrayKeysModel", "kept", "[I", true)
  | 18 => ("StrayKeysModel", "keptDeeds", "[I", true)
  | 19 => ("StrayKeysModel", "tried", "[I", true)
  | 20 => ("StrayKeysModel", "sort", "[I", true)
  | 21 => ("StrayKeysModel", "across", "[I", true)
  | 22 => ("StrayKeysModel", "down", "[I", true)
  | 23 => ("StrayKeysModel", "columnsOf", "[I", true)
  | 24 => ("StrayKeysModel", "sets", "[I", true)
  | 25 => ("StrayKeysModel", "toldAs", "[I", true)
  | _ => ("StrayKeysModel", "comes", "[I", true)
def tyX5 : Nat → FieldType := fun k => match k with
  | 0 => .int
  | 1 => .array .int
  | 2 => .int
  | 3 => .long
  | 4 => .long
  | 5 => .array .int
  | 6 => .array .int
  | 7 => .array .int
  | 8 => .array .byte
  | 9 => .array .int
  | 10 => .int
  | 11 => .array .int
  | 12 => .array .int
  | 13 => .array .int
  | 14 => .array .int
  | 15 => .array .int
  | 16 => .int
  | 17 => .array .int
  | 18 => .array .int
  | 19 => .array .int
  | 20 => .array .int
  | 21 => .array .int
  | 22 => .array .int
  | 23 => .array .int
  | 24 => .array .int
  | 25 => .array .int
  | _ => .array .int
abbrev wsX50 : List Cond := u_ws RX5 TX5 27
theorem nmX5 : ∀ a, a < 27 → ∀ b, b < 27 → a ≠ b → (TX5 a).2.1 ≠ (TX5 b).2.1 := by decide +kernel
theorem tyX5_ok : ∀ k, k < 27 → parseFieldDescriptor (TX5 k).2.2.1 = some (tyX5 k) := by decide +kernel
abbrev cX5_init : ByteArray := prog_7_method_1_code
def yX5_init : MethodName := ⟨RX5, "<init>", "()V"⟩
abbrev cX5_in : ByteArray := prog_7_method_3_code
def yX5_in : MethodName := ⟨RX5, "in", "(III)Z"⟩
abbrev cX5_has : ByteArray := prog_7_method_4_code
def yX5_has : MethodName := ⟨RX5, "has", "(II)Z"⟩
abbrev cX5_bitsOf : ByteArray := prog_7_method_5_code
def yX5_bitsOf : MethodName := ⟨RX5, "bitsOf", "(I)I"⟩
abbrev cX5_find : ByteArray := prog_7_method_6_code
def yX5_find : MethodName := ⟨RX5, "find", "(I)I"⟩
abbrev cX5_tellAsked : ByteArray := prog_7_method_7_code
def yX5_tellAsked : MethodName := ⟨RX5, "tellAsked", "(I)I"⟩
abbrev cX5_fraction : ByteArray := prog_7_method_8_code
def yX5_fraction : MethodName := ⟨RX5, "fraction", "(JJ)I"⟩
abbrev cX5_isRow : ByteArray := prog_7_method_9_code
def yX5_isRow : MethodName := ⟨RX5, "isRow", "(I)Z"⟩
abbrev cX5_isText : ByteArray := prog_7_method_10_code
def yX5_isText : MethodName := ⟨RX5, "isText", "(I)Z"⟩
abbrev cX5_row : ByteArray := prog_7_method_11_code
def yX5_row : MethodName := ⟨RX5, "row", "(II)I"⟩
abbrev cX5_lay : ByteArray := prog_7_method_12_code
def yX5_lay : MethodName := ⟨RX5, "lay", "(III)I"⟩
abbrev cX5_at : ByteArray := prog_7_method_13_code
def yX5_at : MethodName := ⟨RX5, "at", "(II)I"⟩
abbrev cX5_tear : ByteArray := prog_7_method_14_code
def yX5_tear : MethodName := ⟨RX5, "tear", "(I)I"⟩
abbrev cX5_copy : ByteArray := prog_7_method_15_code
def yX5_copy : MethodName := ⟨RX5, "copy", "(IIIII)I"⟩
abbrev cX5_mean : ByteArray := prog_7_method_16_code
def yX5_mean : MethodName := ⟨RX5, "mean", "(I)I"⟩
abbrev cX5_text : ByteArray := prog_7_method_17_code
def yX5_text : MethodName := ⟨RX5, "text", "(II)I"⟩
abbrev cX5_put : ByteArray := prog_7_method_18_code
def yX5_put : MethodName := ⟨RX5, "put", "(III)I"⟩
abbrev cX5_kindOf : ByteArray := prog_7_method_19_code
def yX5_kindOf : MethodName := ⟨RX5, "kindOf", "(I)I"⟩
abbrev cX5_figure : ByteArray := prog_7_method_20_code
def yX5_figure : MethodName := ⟨RX5, "figure", "(III)I"⟩
abbrev cX5_read : ByteArray := prog_7_method_21_code
def yX5_read : MethodName := ⟨RX5, "read", "(I)I"⟩
abbrev cX5_fault : ByteArray := prog_7_method_22_code
def yX5_fault : MethodName := ⟨RX5, "fault", "(I)I"⟩
abbrev cX5_board : ByteArray := prog_7_method_23_code
def yX5_board : MethodName := ⟨RX5, "board", "(I)I"⟩
abbrev cX5_now : ByteArray := prog_7_method_24_code
def yX5_now : MethodName := ⟨RX5, "now", "(I)I"⟩
abbrev cX5_take : ByteArray := prog_7_method_25_code
def yX5_take : MethodName := ⟨RX5, "take", "()V"⟩
abbrev cX5_isKey : ByteArray := prog_7_method_26_code
def yX5_isKey : MethodName := ⟨RX5, "isKey", "(I)Z"⟩
abbrev cX5_isSet : ByteArray := prog_7_method_27_code
def yX5_isSet : MethodName := ⟨RX5, "isSet", "(I)Z"⟩
abbrev cX5_isLine : ByteArray := prog_7_method_28_code
def yX5_isLine : MethodName := ⟨RX5, "isLine", "(I)Z"⟩
abbrev cX5_doesBy : ByteArray := prog_7_method_29_code
def yX5_doesBy : MethodName := ⟨RX5, "doesBy", "(IIII)Z"⟩
abbrev cX5_conducts : ByteArray := prog_7_method_30_code
def yX5_conducts : MethodName := ⟨RX5, "conducts", "(I)Z"⟩
abbrev cX5_readBy : ByteArray := prog_7_method_31_code
def yX5_readBy : MethodName := ⟨RX5, "readBy", "(I)I"⟩
abbrev cX5_toldBy : ByteArray := prog_7_method_32_code
def yX5_toldBy : MethodName := ⟨RX5, "toldBy", "()I"⟩
abbrev cX5_toldNow : ByteArray := prog_7_method_33_code
def yX5_toldNow : MethodName := ⟨RX5, "toldNow", "()I"⟩
abbrev cX5_toldOf : ByteArray := prog_7_method_34_code
def yX5_toldOf : MethodName := ⟨RX5, "toldOf", "(I)I"⟩
abbrev cX5_factOf : ByteArray := prog_7_method_35_code
def yX5_factOf : MethodName := ⟨RX5, "factOf", "(II)I"⟩
abbrev cX5_key : ByteArray := prog_7_method_36_code
def yX5_key : MethodName := ⟨RX5, "key", "(II)I"⟩
abbrev cX5_mark : ByteArray := prog_7_method_37_code
def yX5_mark : MethodName := ⟨RX5, "mark", "(II)I"⟩
abbrev cX5_reads : ByteArray := prog_7_method_38_code
def yX5_reads : MethodName := ⟨RX5, "reads", "(I)I"⟩
abbrev cX5_begin : ByteArray := prog_7_method_39_code
def yX5_begin : MethodName := ⟨RX5, "begin", "()V"⟩
abbrev cX5_flipped : ByteArray := prog_7_method_40_code
def yX5_flipped : MethodName := ⟨RX5, "flipped", "(II)I"⟩
abbrev cX5_pressNow : ByteArray := prog_7_method_41_code
def yX5_pressNow : MethodName := ⟨RX5, "pressNow", "(I)V"⟩
abbrev cX5_passOn : ByteArray := prog_7_method_42_code
def yX5_passOn : MethodName := ⟨RX5, "passOn", "([II)V"⟩
abbrev cX5_press : ByteArray := prog_7_method_43_code
def yX5_press : MethodName := ⟨RX5, "press", "(I)I"⟩
abbrev cX5_scan : ByteArray := prog_7_method_44_code
def yX5_scan : MethodName := ⟨RX5, "scan", "()I"⟩
abbrev cX5_cut : ByteArray := prog_7_method_45_code
def yX5_cut : MethodName := ⟨RX5, "cut", "(I)I"⟩
abbrev cX5_undo : ByteArray := prog_7_method_46_code
def yX5_undo : MethodName := ⟨RX5, "undo", "(I)I"⟩
abbrev cX5_keep : ByteArray := prog_7_method_47_code
def yX5_keep : MethodName := ⟨RX5, "keep", "(I)I"⟩
abbrev cX5_on : ByteArray := prog_7_method_48_code
def yX5_on : MethodName := ⟨RX5, "on", "(I)I"⟩
abbrev cX5_told : ByteArray := prog_7_method_49_code
def yX5_told : MethodName := ⟨RX5, "told", "()I"⟩
abbrev cX5_ghosts : ByteArray := prog_7_method_50_code
def yX5_ghosts : MethodName := ⟨RX5, "ghosts", "()I"⟩
abbrev cX5_later : ByteArray := prog_7_method_51_code
def yX5_later : MethodName := ⟨RX5, "later", "(I)I"⟩
abbrev cX5_would : ByteArray := prog_7_method_52_code
def yX5_would : MethodName := ⟨RX5, "would", "(I)I"⟩
abbrev cX5_haunts : ByteArray := prog_7_method_53_code
def yX5_haunts : MethodName := ⟨RX5, "haunts", "(I)I"⟩
abbrev cX5_rightSets : ByteArray := prog_7_method_54_code
def yX5_rightSets : MethodName := ⟨RX5, "rightSets", "()I"⟩
abbrev cX5_right : ByteArray := prog_7_method_55_code
def yX5_right : MethodName := ⟨RX5, "right", "()I"⟩
abbrev cX5_alike : ByteArray := prog_7_method_56_code
def yX5_alike : MethodName := ⟨RX5, "alike", "()I"⟩
abbrev cX5_best : ByteArray := prog_7_method_57_code
def yX5_best : MethodName := ⟨RX5, "best", "()I"⟩
abbrev cX5_pairs : ByteArray := prog_7_method_58_code
def yX5_pairs : MethodName := ⟨RX5, "pairs", "(I)I"⟩
abbrev cX5_isSo : ByteArray := prog_7_method_59_code
def yX5_isSo : MethodName := ⟨RX5, "isSo", "(I)Z"⟩
abbrev cX5_kindsBy : ByteArray := prog_7_method_60_code
def yX5_kindsBy : MethodName := ⟨RX5, "kindsBy", "(II)I"⟩
abbrev cX5_kinds : ByteArray := prog_7_method_61_code
def yX5_kinds : MethodName := ⟨RX5, "kinds", "(II)I"⟩
abbrev cX5_isFree : ByteArray := prog_7_method_62_code
def yX5_isFree : MethodName := ⟨RX5, "isFree", "(III)Z"⟩
abbrev cX5_places : ByteArray := prog_7_method_63_code
def yX5_places : MethodName := ⟨RX5, "places", "(II)I"⟩
abbrev cX5_test : ByteArray := prog_7_method_64_code
def yX5_test : MethodName := ⟨RX5, "test", "(II)I"⟩
abbrev cX5_duel : ByteArray := prog_7_method_65_code
def yX5_duel : MethodName := ⟨RX5, "duel", "(I)I"⟩
abbrev cX5_waysOf : ByteArray := prog_7_method_66_code
def yX5_waysOf : MethodName := ⟨RX5, "waysOf", "(II)J"⟩
abbrev cX5_allWays : ByteArray := prog_7_method_67_code
def yX5_allWays : MethodName := ⟨RX5, "allWays", "()J"⟩
abbrev cX5_odds : ByteArray := prog_7_method_68_code
def yX5_odds : MethodName := ⟨RX5, "odds", "(I)I"⟩
abbrev cX5_mid : ByteArray := prog_7_method_69_code
def yX5_mid : MethodName := ⟨RX5, "mid", "(I)I"⟩
abbrev cX5_lots : ByteArray := prog_7_method_70_code
def yX5_lots : MethodName := ⟨RX5, "lots", "(II)I"⟩
abbrev cX5_asked : ByteArray := prog_7_method_71_code
def yX5_asked : MethodName := ⟨RX5, "asked", "()I"⟩
abbrev cX5_upper : ByteArray := prog_7_method_72_code
def yX5_upper : MethodName := ⟨RX5, "upper", "()J"⟩
abbrev cX5_lower : ByteArray := prog_7_method_73_code
def yX5_lower : MethodName := ⟨RX5, "lower", "()J"⟩
abbrev cX5_thereAre : ByteArray := prog_7_method_74_code
def yX5_thereAre : MethodName := ⟨RX5, "thereAre", "(I)I"⟩
abbrev cX5_ofKinds : ByteArray := prog_7_method_75_code
def yX5_ofKinds : MethodName := ⟨RX5, "ofKinds", "(II)I"⟩
abbrev cX5_count : ByteArray := prog_7_method_76_code
def yX5_count : MethodName := ⟨RX5, "count", "(I)I"⟩
abbrev cX5_finding : ByteArray := prog_7_method_77_code
def yX5_finding : MethodName := ⟨RX5, "finding", "()I"⟩
abbrev cX5_findings : ByteArray := prog_7_method_78_code
def yX5_findings : MethodName := ⟨RX5, "findings", "(I)I"⟩
abbrev cX5_digest : ByteArray := prog_7_method_79_code
def yX5_digest : MethodName := ⟨RX5, "digest", "()J"⟩
def RJ6 : String := "java/lang/Integer"
def TJ6 : u_T := fun k => match k with
  | _ => ("", "", "", false)
def tyJ6 : Nat → FieldType := fun k => match k with
  | _ => .int
abbrev wsJ60 : List Cond := u_ws RJ6 TJ6 0
theorem nmJ6 : ∀ a, a < 0 → ∀ b, b < 0 → a ≠ b → (TJ6 a).2.1 ≠ (TJ6 b).2.1 := by decide +kernel
theorem tyJ6_ok : ∀ k, k < 0 → parseFieldDescriptor (TJ6 k).2.2.1 = some (tyJ6 k) := by decide +kernel
abbrev cJ6_bitCount_0f7a4 : ByteArray := prog_8_method_49_code
def yJ6_bitCount_0f7a4 : MethodName := ⟨RJ6, "bitCount", "(I)I"⟩
def RJ9 : String := "java/lang/Math"
def TJ9 : u_T := fun k => match k with
  | _ => ("", "", "", false)
def tyJ9 : Nat → FieldType := fun k => match k with
  | _ => .int
abbrev wsJ90 : List Cond := u_ws RJ9 TJ9 0
theorem nmJ9 : ∀ a, a < 0 → ∀ b, b < 0 → a ≠ b → (TJ9 a).2.1 ≠ (TJ9 b).2.1 := by decide +kernel
theorem tyJ9_ok : ∀ k, k < 0 → parseFieldDescriptor (TJ9 k).2.2.1 = some (tyJ9 k) := by decide +kernel
abbrev cJ9_max_7cf53 : ByteArray := prog_9_method_65_code
def yJ9_max_7cf53 : MethodName := ⟨RJ9, "max", "(II)I"⟩
abbrev cJ9_min_7cf53 : ByteArray := prog_9_method_69_code
def yJ9_min_7cf53 : MethodName := ⟨RJ9, "min", "(II)I"⟩
def RJ10 : String := "java/lang/System"
def TJ10 : u_T := fun k => match k with
  | _ => ("", "", "", false)
def tyJ10 : Nat → FieldType := fun k => match k with
  | _ => .int
abbrev wsJ100 : List Cond := u_ws RJ10 TJ10 0
theorem nmJ10 : ∀ a, a < 0 → ∀ b, b < 0 → a ≠ b → (TJ10 a).2.1 ≠ (TJ10 b).2.1 := by decide +kernel
theorem tyJ10_ok : ∀ k, k < 0 → parseFieldDescriptor (TJ10 k).2.2.1 = some (tyJ10 k) := by decide +kernel
def RL : String := "StrayKeysLaw"
abbrev cL_law : ByteArray := code
def yL_law : MethodName := ⟨RL, "law", "([I)Z"⟩
abbrev vwCl : List vw_C := [(RX0, TX0, 5), (RX1, TX1, 4), (RX2, TX2, 4), (RX3, TX3, 9), (RX4, TX4, 15), (RX5, TX5, 27)]
end
section
def BIG : List Cond := (k2_sels lw_privs ++ tables_1).filter goodWord
theorem big_good : ∀ w ∈ BIG, (w.onTables && w.keeps) = true ∨ ∃ ty, w = .arrayClass ty := fun w h => good_of_word (List.mem_filter.mp h).2
theorem big_lw : ∀ w ∈ BIG, w ∈ lw_tbl := fun w h => (List.mem_filter.mp h).1
theorem big_of {w : Cond} (h : w ∈ tables_1) (hg : goodWord w = true) : w ∈ BIG := List.mem_filter.mpr ⟨List.mem_append_right _ h, hg⟩
theorem tb_1 {w : Cond} (i : Nat) (h : tables_1_1[i]? = some w) : w ∈ tables_1 := List.mem_append_left _ (List.mem_of_getElem? h)
theorem tb_2 {w : Cond} (i : Nat) (h : tables_1_2[i]? = some w) : w ∈ tables_1 := List.mem_append_right _ (List.mem_append_left _ (List.mem_of_getElem? h))
theorem tb_3 {w : Cond} (i : Nat) (h : tables_1_3[i]? = some w) : w ∈ tables_1 := List.mem_append_right _ (List.mem_append_right _ (List.mem_append_left _ (List.mem_of_getElem? h)))
theorem tb_4 {w : Cond} (i : Nat) (h : tables_1_4[i]? = some w) : w ∈ tables_1 := List.mem_append_right _ (List.mem_append_right _ (List.mem_append_right _ (List.mem_append_left _ (List.mem_of_getElem? h))))
theorem tb_5 {w : Cond} (i : Nat) (h : tables_1_5[i]? = some w) : w ∈ tables_1 := List.mem_append_right _ (List.mem_append_right _ (List.mem_append_right _ (List.mem_append_right _ (List.mem_of_getElem? h))))
theorem bs_mem {q : MethodName × Nat} (h : q ∈ lw_privs) : Cond.selects q.1.cls q.1 q.1 ∈ BIG := List.mem_filter.mpr ⟨List.mem_append_left _ (List.mem_map.mpr ⟨q, h, rfl⟩), rfl⟩
theorem good_big {w : Cond} (h : w ∈ BIG) : GoodIn BIG (w :: BIG) := fun v hv => (List.mem_cons.mp hv).elim (fun e => e ▸ ⟨h, big_good w h⟩) (fun h => ⟨h, big_good v h⟩)
theorem qi_L : Cond.initialized RL ∈ BIG := big_of (tb_1 0 (by decide +kernel)) rfl
theorem qi_X4 : Cond.initialized RX4 ∈ BIG := big_of (tb_1 1 (by decide +kernel)) rfl
theorem qi_X2 : Cond.initialized RX2 ∈ BIG := big_of (tb_1 2 (by decide +kernel)) rfl
theorem qi_J9 : Cond.initialized RJ9 ∈ BIG := big_of (tb_1 3 (by decide +kernel)) rfl
theorem qi_X0 : Cond.initialized RX0 ∈ BIG := big_of (tb_1 4 (by decide +kernel)) rfl
theorem qi_X1 : Cond.initialized RX1 ∈ BIG := big_of (tb_1 5 (by decide +kernel)) rfl
theorem qi_X3 : Cond.initialized RX3 ∈ BIG := big_of (tb_1 6 (by decide +kernel)) rfl
theorem qi_X5 : Cond.initialized RX5 ∈ BIG := big_of (tb_1 7 (by decide +kernel)) rfl
theorem qi_J10 : Cond.initialized RJ10 ∈ BIG := big_of (tb_1 8 (by decide +kernel)) rfl
theorem qi_J6 : Cond.initialized RJ6 ∈ BIG := big_of (tb_1 9 (by decide +kernel)) rfl
theorem qcl_L_7 : Cond.classLink RL 7 RX4 ∈ BIG := big_of (tb_1 10 (by decide +kernel)) rfl
theorem qcl_X4_7 : Cond.classLink RX4 7 RX2 ∈ BIG := big_of (tb_1 18 (by decide +kernel)) rfl
theorem qcl_X4_24 : Cond.classLink RX4 24 RX0 ∈ BIG := big_of (tb_1 42 (by decide +kernel)) rfl
theorem qcl_X4_34 : Cond.classLink RX4 34 RX1 ∈ BIG := big_of (tb_1 69 (by decide +kernel)) rfl
theorem qcl_X4_44 : Cond.classLink RX4 44 RX3 ∈ BIG := big_of (tb_1 93 (by decide +kernel)) rfl
theorem qcl_X4_55 : Cond.classLink RX4 55 "[[I" ∈ BIG := big_of (tb_1 127 (by decide +kernel)) rfl
theorem qcl_L_10 : Cond.classLink RL 10 RX5 ∈ BIG := big_of (tb_3 187 (by decide +kernel)) rfl
theorem qin_X4 : Cond.instantiable RX4 15 ∈ BIG := big_of (tb_1 11 (by decide +kernel)) rfl
theorem qin_X2 : Cond.instantiable RX2 4 ∈ BIG := big_of (tb_1 19 (by decide +kernel)) rfl
theorem qin_X0 : Cond.instantiable RX0 5 ∈ BIG := big_of (tb_1 43 (by decide +kernel)) rfl
theorem qin_X1 : Cond.instantiable RX1 4 ∈ BIG := big_of (tb_1 70 (by decide +kernel)) rfl
theorem qin_X3 : Cond.instantiable RX3 9 ∈ BIG := big_of (tb_1 94 (by decide +kernel)) rfl
theorem qin_X5 : Cond.instantiable RX5 27 ∈ BIG := big_of (tb_3 188 (by decide +kernel)) rfl
theorem qar_int : Cond.arrayClass Jvm.ClassFile.FieldType.int ∈ BIG := big_of (tb_1 41 (by decide +kernel)) rfl
theorem qar_byte : Cond.arrayClass Jvm.ClassFile.FieldType.byte ∈ BIG := big_of (tb_4 35 (by decide +kernel)) rfl
theorem qk_J6_265 : Cond.constant RJ6 265 1431655765 ∈ BIG := big_of (tb_2 156 (by decide +kernel)) rfl
theorem qk_J6_266 : Cond.constant RJ6 266 858993459 ∈ BIG := big_of (tb_2 157 (by decide +kernel)) rfl
theorem qk_J6_267 : Cond.constant RJ6 267 252645135 ∈ BIG := big_of (tb_2 158 (by decide +kernel)) rfl
theorem qk_X4_287 : Cond.constant RX4 287 2147483647 ∈ BIG := big_of (tb_3 132 (by decide +kernel)) rfl
theorem qk_X5_211 : Cond.constant RX5 211 2147483646 ∈ BIG := big_of (tb_5 60 (by decide +kernel)) rfl
theorem qk_X4_277 : Cond.constantLong RX4 277 12 ∈ BIG := big_of (tb_3 119 (by decide +kernel)) rfl
theorem qk_X4_288 : Cond.constantLong RX4 288 48271 ∈ BIG := big_of (tb_3 133 (by decide +kernel)) rfl
theorem qk_X4_290 : Cond.constantLong RX4 290 2147483647 ∈ BIG := big_of (tb_3 134 (by decide +kernel)) rfl
theorem qk_X4_325 : Cond.constantLong RX4 325 8 ∈ BIG := big_of (tb_3 139 (by decide +kernel)) rfl
theorem qk_X4_327 : Cond.constantLong RX4 327 4 ∈ BIG := big_of (tb_3 140 (by decide +kernel)) rfl
theorem qk_X4_305 : Cond.constantLong RX4 305 17 ∈ BIG := big_of (tb_3 179 (by decide +kernel)) rfl
theorem qk_X4_307 : Cond.constantLong RX4 307 31 ∈ BIG := big_of (tb_3 180 (by decide +kernel)) rfl
theorem qk_X2_64 : Cond.constantLong RX2 64 31 ∈ BIG := big_of (tb_3 186 (by decide +kernel)) rfl
theorem qk_X5_197 : Cond.constantLong RX5 197 12 ∈ BIG := big_of (tb_5 43 (by decide +kernel)) rfl
theorem qk_X5_212 : Cond.constantLong RX5 212 48271 ∈ BIG := big_of (tb_5 61 (by decide +kernel)) rfl
theorem qk_X5_214 : Cond.constantLong RX5 214 2147483647 ∈ BIG := big_of (tb_5 62 (by decide +kernel)) rfl
theorem qk_X5_216 : Cond.constantLong RX5 216 8 ∈ BIG := big_of (tb_5 63 (by decide +kernel)) rfl
theorem qk_X5_218 : Cond.constantLong RX5 218 4 ∈ BIG := big_of (tb_5 64 (by decide +kernel)) rfl
theorem qk_X5_226 : Cond.constantLong RX5 226 17 ∈ BIG := big_of (tb_5 101 (by decide +kernel)) rfl
theorem qk_X5_228 : Cond.constantLong RX5 228 31 ∈ BIG := big_of (tb_5 102 (by decide +kernel)) rfl
theorem qf_X2_15 : Cond.fieldLink RX2 15 "StrayKeys$Shelf" "places" "I" ∈ BIG := big_of (tb_1 27 (by decide +kernel)) rfl
theorem qf_X2_21 : Cond.fieldLink RX2 21 "StrayKeys$Shelf" "most" "I" ∈ BIG := big_of (tb_1 29 (by decide +kernel)) rfl
theorem qf_X2_24 : Cond.fieldLink RX2 24 "StrayKeys$Shelf" "sizes" "[I" ∈ BIG := big_of (tb_1 30 (by decide +kernel)) rfl
theorem qf_X2_28 : Cond.fieldLink RX2 28 "StrayKeys$Shelf" "cells" "[I" ∈ BIG := big_of (tb_1 31 (by decide +kernel)) rfl
theorem qf_X0_9 : Cond.fieldLink RX0 9 "StrayKeys$Layout" "kind" "[I" ∈ BIG := big_of (tb_1 48 (by decide +kernel)) rfl
theorem qf_X0_15 : Cond.fieldLink RX0 15 "StrayKeys$Layout" "line" "[I" ∈ BIG := big_of (tb_1 50 (by decide +kernel)) rfl
theorem qf_X0_18 : Cond.fieldLink RX0 18 "StrayKeys$Layout" "column" "[I" ∈ BIG := big_of (tb_1 52 (by decide +kernel)) rfl
theorem qf_X0_21 : Cond.fieldLink RX0 21 "StrayKeys$Layout" "delay" "[I" ∈ BIG := big_of (tb_1 54 (by decide +kernel)) rfl
theorem qf_X0_24 : Cond.fieldLink RX0 24 "StrayKeys$Layout" "size" "I" ∈ BIG := big_of (tb_1 55 (by decide +kernel)) rfl
theorem qf_X1_9 : Cond.fieldLink RX1 9 "StrayKeys$Moment" "held" "[I" ∈ BIG := big_of (tb_1 75 (by decide +kernel)) rfl
theorem qf_X1_15 : Cond.fieldLink RX1 15 "StrayKeys$Moment" "scanNumber" "I" ∈ BIG := big_of (tb_1 76 (by decide +kernel)) rfl
theorem qf_X1_19 : Cond.fieldLink RX1 19 "StrayKeys$Moment" "pressed" "I" ∈ BIG := big_of (tb_1 79 (by decide +kernel)) rfl
theorem qf_X1_22 : Cond.fieldLink RX1 22 "StrayKeys$Moment" "severed" "I" ∈ BIG := big_of (tb_1 81 (by decide +kernel)) rfl
theorem qf_X3_9 : Cond.fieldLink RX3 9 "StrayKeys$Wires" "line" "[I" ∈ BIG := big_of (tb_1 99 (by decide +kernel)) rfl
theorem qf_X3_15 : Cond.fieldLink RX3 15 "StrayKeys$Wires" "columnBit" "[I" ∈ BIG := big_of (tb_1 100 (by decide +kernel)) rfl
theorem qf_X3_18 : Cond.fieldLink RX3 18 "StrayKeys$Wires" "forth" "[I" ∈ BIG := big_of (tb_1 101 (by decide +kernel)) rfl
theorem qf_X3_21 : Cond.fieldLink RX3 21 "StrayKeys$Wires" "back" "[I" ∈ BIG := big_of (tb_1 102 (by decide +kernel)) rfl
theorem qf_X3_24 : Cond.fieldLink RX3 24 "StrayKeys$Wires" "comesOut" "[I" ∈ BIG := big_of (tb_1 103 (by decide +kernel)) rfl
theorem qf_X3_27 : Cond.fieldLink RX3 27 "StrayKeys$Wires" "size" "I" ∈ BIG := big_of (tb_1 104 (by decide +kernel)) rfl
theorem qf_X3_31 : Cond.fieldLink RX3 31 "StrayKeys$Wires" "ready" "I" ∈ BIG := big_of (tb_1 105 (by decide +kernel)) rfl
theorem qf_X3_34 : Cond.fieldLink RX3 34 "StrayKeys$Wires" "always" "I" ∈ BIG := big_of (tb_1 106 (by decide +kernel)) rfl
theorem qf_X3_37 : Cond.fieldLink RX3 37 "StrayKeys$Wires" "oneWay" "I" ∈ BIG := big_of (tb_1 107 (by decide +kernel)) rfl
theorem qf_X4_14 : Cond.fieldLink RX4 14 "StrayKeys" "rows" "LStrayKeys$Shelf;" ∈ BIG := big_of (tb_1 136 (by decide +kernel)) rfl
theorem qf_X4_18 : Cond.fieldLink RX4 18 "StrayKeys" "texts" "LStrayKeys$Shelf;" ∈ BIG := big_of (tb_1 137 (by decide +kernel)) rfl
theorem qf_X4_21 : Cond.fieldLink RX4 21 "StrayKeys" "deeds" "LStrayKeys$Shelf;" ∈ BIG := big_of (tb_1 138 (by decide +kernel)) rfl
theorem qf_X4_27 : Cond.fieldLink RX4 27 "StrayKeys" "keys" "LStrayKeys$Layout;" ∈ BIG := big_of (tb_1 139 (by decide +kernel)) rfl
theorem qf_X4_31 : Cond.fieldLink RX4 31 "StrayKeys" "guess" "LStrayKeys$Layout;" ∈ BIG := big_of (tb_1 140 (by decide +kernel)) rfl
theorem qf_X4_37 : Cond.fieldLink RX4 37 "StrayKeys" "now" "LStrayKeys$Moment;" ∈ BIG := big_of (tb_1 141 (by decide +kernel)) rfl
theorem qf_X4_41 : Cond.fieldLink RX4 41 "StrayKeys" "ahead" "LStrayKeys$Moment;" ∈ BIG := big_of (tb_1 142 (by decide +kernel)) rfl
theorem qf_X4_47 : Cond.fieldLink RX4 47 "StrayKeys" "wires" "LStrayKeys$Wires;" ∈ BIG := big_of (tb_1 143 (by decide +kernel)) rfl
theorem qf_X4_51 : Cond.fieldLink RX4 51 "StrayKeys" "bySet" "[I" ∈ BIG := big_of (tb_1 144 (by decide +kernel)) rfl
theorem qf_X4_57 : Cond.fieldLink RX4 57 "StrayKeys" "byKind" "[[I" ∈ BIG := big_of (tb_1 145 (by decide +kernel)) rfl
theorem qf_X4_60 : Cond.fieldLink RX4 60 "StrayKeys" "timesFound" "[I" ∈ BIG := big_of (tb_1 146 (by decide +kernel)) rfl
theorem qf_X4_63 : Cond.fieldLink RX4 63 "StrayKeys" "latestFinding" "I" ∈ BIG := big_of (tb_1 147 (by decide +kernel)) rfl
theorem qf_X4_67 : Cond.fieldLink RX4 67 "StrayKeys" "answer" "I" ∈ BIG := big_of (tb_1 148 (by decide +kernel)) rfl
theorem qf_X4_70 : Cond.fieldLink RX4 70 "StrayKeys" "above" "J" ∈ BIG := big_of (tb_1 149 (by decide +kernel)) rfl
theorem qf_X4_74 : Cond.fieldLink RX4 74 "StrayKeys" "below" "J" ∈ BIG := big_of (tb_1 150 (by decide +kernel)) rfl
theorem qf_X4_329 : Cond.fieldLink RX4 329 "StrayKeys" "SORT_OF" "[I" ∈ BIG := big_of (tb_2 125 (by decide +kernel)) rfl
theorem qf_X5_78 : Cond.fieldLink RX5 78 "StrayKeysModel" "latest" "I" ∈ BIG := big_of (tb_3 193 (by decide +kernel)) rfl
theorem qf_X5_7 : Cond.fieldLink RX5 7 "StrayKeysModel" "found" "[I" ∈ BIG := big_of (tb_3 194 (by decide +kernel)) rfl
theorem qf_X5_82 : Cond.fieldLink RX5 82 "StrayKeysModel" "asked" "I" ∈ BIG := big_of (tb_3 195 (by decide +kernel)) rfl
theorem qf_X5_85 : Cond.fieldLink RX5 85 "StrayKeysModel" "upper" "J" ∈ BIG := big_of (tb_3 196 (by decide +kernel)) rfl
theorem qf_X5_13 : Cond.fieldLink RX5 13 "StrayKeysModel" "lower" "J" ∈ BIG := big_of (tb_3 197 (by decide +kernel)) rfl
theorem qf_X5_17 : Cond.fieldLink RX5 17 "StrayKeysModel" "wide" "[I" ∈ BIG := big_of (tb_3 198 (by decide +kernel)) rfl
theorem qf_X5_20 : Cond.fieldLink RX5 20 "StrayKeysModel" "rows" "[I" ∈ BIG := big_of (tb_3 199 (by decide +kernel)) rfl
theorem qf_X5_23 : Cond.fieldLink RX5 23 "StrayKeysModel" "far" "[I" ∈ BIG := big_of (tb_3 200 (by decide +kernel)) rfl
theorem qf_X5_26 : Cond.fieldLink RX5 26 "StrayKeysModel" "texts" "[B" ∈ BIG := big_of (tb_3 201 (by decide +kernel)) rfl
theorem qf_X5_30 : Cond.fieldLink RX5 30 "StrayKeysModel" "moved" "[I" ∈ BIG := big_of (tb_3 202 (by decide +kernel)) rfl
theorem qf_X5_116 : Cond.fieldLink RX5 116 "StrayKeysModel" "keys" "I" ∈ BIG := big_of (tb_3 203 (by decide +kernel)) rfl
theorem qf_X5_33 : Cond.fieldLink RX5 33 "StrayKeysModel" "kind" "[I" ∈ BIG := big_of (tb_3 204 (by decide +kernel)) rfl
theorem qf_X5_36 : Cond.fieldLink RX5 36 "StrayKeysModel" "line" "[I" ∈ BIG := big_of (tb_3 205 (by decide +kernel)) rfl
theorem qf_X5_39 : Cond.fieldLink RX5 39 "StrayKeysModel" "column" "[I" ∈ BIG := big_of (tb_3 206 (by decide +kernel)) rfl
theorem qf_X5_42 : Cond.fieldLink RX5 42 "StrayKeysModel" "delay" "[I" ∈ BIG := big_of (tb_3 207 (by decide +kernel)) rfl
theorem qf_X5_45 : Cond.fieldLink RX5 45 "StrayKeysModel" "all" "[I" ∈ BIG := big_of (tb_3 208 (by decide +kernel)) rfl
theorem qf_X5_119 : Cond.fieldLink RX5 119 "StrayKeysModel" "deeds" "I" ∈ BIG := big_of (tb_3 209 (by decide +kernel)) rfl
theorem qf_X5_48 : Cond.fieldLink RX5 48 "StrayKeysModel" "kept" "[I" ∈ BIG := big_of (tb_3 210 (by decide +kernel)) rfl
theorem qf_X5_51 : Cond.fieldLink RX5 51 "StrayKeysModel" "keptDeeds" "[I" ∈ BIG := big_of (tb_3 211 (by decide +kernel)) rfl
theorem qf_X5_54 : Cond.fieldLink RX5 54 "StrayKeysModel" "tried" "[I" ∈ BIG := big_of (tb_3 212 (by decide +kernel)) rfl
theorem qf_X5_57 : Cond.fieldLink RX5 57 "StrayKeysModel" "sort" "[I" ∈ BIG := big_of (tb_3 213 (by decide +kernel)) rfl
theorem qf_X5_60 : Cond.fieldLink RX5 60 "StrayKeysModel" "across" "[I" ∈ BIG := big_of (tb_3 214 (by decide +kernel)) rfl
theorem qf_X5_63 : Cond.fieldLink RX5 63 "StrayKeysModel" "down" "[I" ∈ BIG := big_of (tb_3 215 (by decide +kernel)) rfl
theorem qf_X5_66 : Cond.fieldLink RX5 66 "StrayKeysModel" "columnsOf" "[I" ∈ BIG := big_of (tb_3 216 (by decide +kernel)) rfl
theorem qf_X5_69 : Cond.fieldLink RX5 69 "StrayKeysModel" "sets" "[I" ∈ BIG := big_of (tb_3 217 (by decide +kernel)) rfl
theorem qf_X5_72 : Cond.fieldLink RX5 72 "StrayKeysModel" "toldAs" "[I" ∈ BIG := big_of (tb_3 218 (by decide +kernel)) rfl
theorem qf_X5_75 : Cond.fieldLink RX5 75 "StrayKeysModel" "comes" "[I" ∈ BIG := big_of (tb_3 219 (by decide +kernel)) rfl
theorem qm_L_9 : Cond.methodLink RL 9 yX4_init ∈ BIG := big_of (tb_1 12 (by decide +kernel)) rfl
theorem qm_X4_1 : Cond.methodLink RX4 1 objectInit ∈ BIG := big_of (tb_1 15 (by decide +kernel)) rfl
theorem qm_X4_11 : Cond.methodLink RX4 11 yX2_init ∈ BIG := big_of (tb_1 20 (by decide +kernel)) rfl
theorem qm_X2_3 : Cond.methodLink RX2 3 objectInit ∈ BIG := big_of (tb_1 23 (by decide +kernel)) rfl
theorem qm_X2_9 : Cond.methodLink RX2 9 Lib.Math.max.name ∈ BIG := big_of (tb_1 24 (by decide +kernel)) rfl
theorem qm_X0_3 : Cond.methodLink RX0 3 objectInit ∈ BIG := big_of (tb_1 47 (by decide +kernel)) rfl
theorem qm_X1_3 : Cond.methodLink RX1 3 objectInit ∈ BIG := big_of (tb_1 74 (by decide +kernel)) rfl
theorem qm_X3_3 : Cond.methodLink RX3 3 objectInit ∈ BIG := big_of (tb_1 98 (by decide +kernel)) rfl
theorem qm_X4_77 : Cond.methodLink RX4 77 yX2_make ∈ BIG := big_of (tb_1 129 (by decide +kernel)) rfl
theorem qm_L_13 : Cond.methodLink RL 13 yX4_row ∈ BIG := big_of (tb_1 182 (by decide +kernel)) rfl
theorem qm_X4_81 : Cond.methodLink RX4 81 yX4_within ∈ BIG := big_of (tb_1 186 (by decide +kernel)) rfl
theorem qm_X4_85 : Cond.methodLink RX4 85 yX4_found ∈ BIG := big_of (tb_1 187 (by decide +kernel)) rfl
theorem qm_L_18 : Cond.methodLink RL 18 yX4_lay ∈ BIG := big_of (tb_1 191 (by decide +kernel)) rfl
theorem qm_X4_89 : Cond.methodLink RX4 89 yX4_refusePlace ∈ BIG := big_of (tb_1 195 (by decide +kernel)) rfl
theorem qm_X4_100 : Cond.methodLink RX4 100 yX4_refuseShelfPlace ∈ BIG := big_of (tb_1 199 (by decide +kernel)) rfl
theorem qm_X4_108 : Cond.methodLink RX4 108 yX2_has ∈ BIG := big_of (tb_1 203 (by decide +kernel)) rfl
theorem qm_X2_35 : Cond.methodLink RX2 35 yX2_size ∈ BIG := big_of (tb_1 207 (by decide +kernel)) rfl
theorem qm_X4_120 : Cond.methodLink RX4 120 yX2_size ∈ BIG := big_of (tb_1 211 (by decide +kernel)) rfl
theorem qm_X4_93 : Cond.methodLink RX4 93 yX2_get ∈ BIG := big_of (tb_1 212 (by decide +kernel)) rfl
theorem qm_X4_97 : Cond.methodLink RX4 97 yX2_set ∈ BIG := big_of (tb_1 216 (by decide +kernel)) rfl
theorem qm_L_23 : Cond.methodLink RL 23 yX4_at ∈ BIG := big_of (tb_1 220 (by decide +kernel)) rfl
theorem qm_L_27 : Cond.methodLink RL 27 yX4_tear ∈ BIG := big_of (tb_1 224 (by decide +kernel)) rfl
theorem qm_X4_104 : Cond.methodLink RX4 104 yX2_remove ∈ BIG := big_of (tb_1 228 (by decide +kernel)) rfl
theorem qm_L_32 : Cond.methodLink RL 32 yX4_copy ∈ BIG := big_of (tb_1 232 (by decide +kernel)) rfl
theorem qm_X4_112 : Cond.methodLink RX4 112 yX2_reaches ∈ BIG := big_of (tb_1 236 (by decide +kernel)) rfl
theorem qm_X4_116 : Cond.methodLink RX4 116 yX2_move ∈ BIG := big_of (tb_2 0 (by decide +kernel)) rfl
theorem qm_X2_43 : Cond.methodLink RX2 43 yX2_reaches ∈ BIG := big_of (tb_2 4 (by decide +kernel)) rfl
theorem qm_X2_47 : Cond.methodLink RX2 47 arraycopyName ∈ BIG := big_of (tb_2 5 (by decide +kernel)) rfl
theorem qm_L_37 : Cond.methodLink RL 37 yX4_mean ∈ BIG := big_of (tb_2 8 (by decide +kernel)) rfl
theorem qm_X4_123 : Cond.methodLink RX4 123 yX2_sum ∈ BIG := big_of (tb_2 12 (by decide +kernel)) rfl
theorem qm_X2_61 : Cond.methodLink RX2 61 yX2_get ∈ BIG := big_of (tb_2 16 (by decide +kernel)) rfl
theorem qm_L_41 : Cond.methodLink RL 41 yX4_text ∈ BIG := big_of (tb_2 17 (by decide +kernel)) rfl
theorem qm_L_45 : Cond.methodLink RL 45 yX4_put ∈ BIG := big_of (tb_2 21 (by decide +kernel)) rfl
theorem qm_L_49 : Cond.methodLink RL 49 yX4_fault ∈ BIG := big_of (tb_2 25 (by decide +kernel)) rfl
theorem qm_X4_127 : Cond.methodLink RX4 127 yX0_readFrom ∈ BIG := big_of (tb_2 29 (by decide +kernel)) rfl
theorem qm_X0_54 : Cond.methodLink RX0 54 yX2_size ∈ BIG := big_of (tb_2 33 (by decide +kernel)) rfl
theorem qm_X0_58 : Cond.methodLink RX0 58 yX0_behindBlanks ∈ BIG := big_of (tb_2 34 (by decide +kernel)) rfl
theorem qm_X0_65 : Cond.methodLink RX0 65 yX2_get ∈ BIG := big_of (tb_2 37 (by decide +kernel)) rfl
theorem qm_X0_62 : Cond.methodLink RX0 62 yX0_rightSigns ∈ BIG := big_of (tb_2 38 (by decide +kernel)) rfl
theorem qm_X0_68 : Cond.methodLink RX0 68 yX0_kindOfLetter ∈ BIG := big_of (tb_2 42 (by decide +kernel)) rfl
theorem qm_X0_71 : Cond.methodLink RX0 71 yX0_figure ∈ BIG := big_of (tb_2 47 (by decide +kernel)) rfl
theorem qm_X0_74 : Cond.methodLink RX0 74 yX0_keyAt ∈ BIG := big_of (tb_2 51 (by decide +kernel)) rfl
theorem qm_L_53 : Cond.methodLink RL 53 yX4_board ∈ BIG := big_of (tb_2 55 (by decide +kernel)) rfl
theorem qm_X4_130 : Cond.methodLink RX4 130 yX0_copyFrom ∈ BIG := big_of (tb_2 59 (by decide +kernel)) rfl
theorem qm_X4_134 : Cond.methodLink RX4 134 yX1_reset ∈ BIG := big_of (tb_2 63 (by decide +kernel)) rfl
theorem qm_L_57 : Cond.methodLink RL 57 yX4_key ∈ BIG := big_of (tb_2 67 (by decide +kernel)) rfl
theorem qm_X4_139 : Cond.methodLink RX4 139 yX0_has ∈ BIG := big_of (tb_2 71 (by decide +kernel)) rfl
theorem qm_X4_140 : Cond.methodLink RX4 140 yX4_keyFact ∈ BIG := big_of (tb_2 75 (by decide +kernel)) rfl
theorem qm_X4_143 : Cond.methodLink RX4 143 yX0_kindOf ∈ BIG := big_of (tb_2 79 (by decide +kernel)) rfl
theorem qm_X0_34 : Cond.methodLink RX0 34 yX0_has ∈ BIG := big_of (tb_2 83 (by decide +kernel)) rfl
theorem qm_X4_332 : Cond.methodLink RX4 332 yX0_lineOf ∈ BIG := big_of (tb_2 84 (by decide +kernel)) rfl
theorem qm_X4_335 : Cond.methodLink RX4 335 yX0_columnOf ∈ BIG := big_of (tb_2 88 (by decide +kernel)) rfl
theorem qm_X4_164 : Cond.methodLink RX4 164 yX0_delayOf ∈ BIG := big_of (tb_2 92 (by decide +kernel)) rfl
theorem qm_X4_167 : Cond.methodLink RX4 167 yX1_heldFor ∈ BIG := big_of (tb_2 96 (by decide +kernel)) rfl
theorem qm_X4_338 : Cond.methodLink RX4 338 yX0_conducts ∈ BIG := big_of (tb_2 100 (by decide +kernel)) rfl
theorem qm_X0_45 : Cond.methodLink RX0 45 yX1_heldFor ∈ BIG := big_of (tb_2 107 (by decide +kernel)) rfl
theorem qm_X4_152 : Cond.methodLink RX4 152 yX4_toldNow ∈ BIG := big_of (tb_2 108 (by decide +kernel)) rfl
theorem qm_X4_206 : Cond.methodLink RX4 206 yX4_toldAt ∈ BIG := big_of (tb_2 112 (by decide +kernel)) rfl
theorem qm_X4_175 : Cond.methodLink RX4 175 yX3_attach ∈ BIG := big_of (tb_2 116 (by decide +kernel)) rfl
theorem qm_X3_56 : Cond.methodLink RX3 56 yX0_conducts ∈ BIG := big_of (tb_2 121 (by decide +kernel)) rfl
theorem qm_X4_219 : Cond.methodLink RX4 219 yX3_toldOf ∈ BIG := big_of (tb_2 127 (by decide +kernel)) rfl
theorem qm_X3_69 : Cond.methodLink RX3 69 yX3_connect ∈ BIG := big_of (tb_2 131 (by decide +kernel)) rfl
theorem qm_X3_73 : Cond.methodLink RX3 73 yX3_columnsFrom ∈ BIG := big_of (tb_2 135 (by decide +kernel)) rfl
theorem qm_L_61 : Cond.methodLink RL 61 yX4_mark ∈ BIG := big_of (tb_2 140 (by decide +kernel)) rfl
theorem qm_X4_146 : Cond.methodLink RX4 146 yX4_isOf ∈ BIG := big_of (tb_2 144 (by decide +kernel)) rfl
theorem qm_X4_149 : Cond.methodLink RX4 149 yX4_toldWerePlain ∈ BIG := big_of (tb_2 145 (by decide +kernel)) rfl
theorem qm_X4_235 : Cond.methodLink RX4 235 yX0_turnInto ∈ BIG := big_of (tb_2 149 (by decide +kernel)) rfl
theorem qm_X4_156 : Cond.methodLink RX4 156 yJ6_bitCount_0f7a4 ∈ BIG := big_of (tb_2 153 (by decide +kernel)) rfl
theorem qm_X4_161 : Cond.methodLink RX4 161 yX4_scansConducting ∈ BIG := big_of (tb_2 159 (by decide +kernel)) rfl
theorem qm_X4_203 : Cond.methodLink RX4 203 yX1_copyFrom ∈ BIG := big_of (tb_2 163 (by decide +kernel)) rfl
theorem qm_X4_210 : Cond.methodLink RX4 210 yX1_passScan ∈ BIG := big_of (tb_2 167 (by decide +kernel)) rfl
theorem qm_X1_35 : Cond.methodLink RX1 35 Lib.Math.min.name ∈ BIG := big_of (tb_2 172 (by decide +kernel)) rfl
theorem qm_X4_170 : Cond.methodLink RX4 170 Lib.Math.max.name ∈ BIG := big_of (tb_2 175 (by decide +kernel)) rfl
theorem qm_L_65 : Cond.methodLink RL 65 yX4_reads ∈ BIG := big_of (tb_2 176 (by decide +kernel)) rfl
theorem qm_X4_182 : Cond.methodLink RX4 182 yX3_columnsReadBy ∈ BIG := big_of (tb_2 180 (by decide +kernel)) rfl
theorem qm_L_69 : Cond.methodLink RL 69 yX4_press ∈ BIG := big_of (tb_2 184 (by decide +kernel)) rfl
theorem qm_X4_185 : Cond.methodLink RX4 185 yX4_hasNoRoomFor ∈ BIG := big_of (tb_2 188 (by decide +kernel)) rfl
theorem qm_X4_188 : Cond.methodLink RX4 188 yX4_perform ∈ BIG := big_of (tb_2 192 (by decide +kernel)) rfl
theorem qm_X4_319 : Cond.methodLink RX4 319 yX2_add ∈ BIG := big_of (tb_2 196 (by decide +kernel)) rfl
theorem qm_X4_322 : Cond.methodLink RX4 322 yX1_undergo ∈ BIG := big_of (tb_2 200 (by decide +kernel)) rfl
theorem qm_X1_25 : Cond.methodLink RX1 25 yX1_passScan ∈ BIG := big_of (tb_2 204 (by decide +kernel)) rfl
theorem qm_L_73 : Cond.methodLink RL 73 yX4_scan ∈ BIG := big_of (tb_2 206 (by decide +kernel)) rfl
theorem qm_L_78 : Cond.methodLink RL 78 yX4_cut ∈ BIG := big_of (tb_2 210 (by decide +kernel)) rfl
theorem qm_L_82 : Cond.methodLink RL 82 yX4_undo ∈ BIG := big_of (tb_2 214 (by decide +kernel)) rfl
theorem qm_X4_194 : Cond.methodLink RX4 194 yX2_shorten ∈ BIG := big_of (tb_2 218 (by decide +kernel)) rfl
theorem qm_X4_197 : Cond.methodLink RX4 197 yX4_replay ∈ BIG := big_of (tb_2 222 (by decide +kernel)) rfl
theorem qm_L_86 : Cond.methodLink RL 86 yX4_keep ∈ BIG := big_of (tb_2 226 (by decide +kernel)) rfl
theorem qm_X4_200 : Cond.methodLink RX4 200 yX2_moveAll ∈ BIG := big_of (tb_2 230 (by decide +kernel)) rfl
theorem qm_X2_53 : Cond.methodLink RX2 53 yX2_make ∈ BIG := big_of (tb_2 234 (by decide +kernel)) rfl
theorem qm_X2_57 : Cond.methodLink RX2 57 yX2_move ∈ BIG := big_of (tb_2 235 (by decide +kernel)) rfl
theorem qm_L_90 : Cond.methodLink RL 90 yX4_on ∈ BIG := big_of (tb_2 236 (by decide +kernel)) rfl
theorem qm_L_94 : Cond.methodLink RL 94 yX4_told ∈ BIG := big_of (tb_3 0 (by decide +kernel)) rfl
theorem qm_L_98 : Cond.methodLink RL 98 yX4_ghosts ∈ BIG := big_of (tb_3 4 (by decide +kernel)) rfl
theorem qm_L_102 : Cond.methodLink RL 102 yX4_later ∈ BIG := big_of (tb_3 8 (by decide +kernel)) rfl
theorem qm_X4_213 : Cond.methodLink RX4 213 yX4_isAmongFirst ∈ BIG := big_of (tb_3 12 (by decide +kernel)) rfl
theorem qm_L_106 : Cond.methodLink RL 106 yX4_would ∈ BIG := big_of (tb_3 16 (by decide +kernel)) rfl
theorem qm_X4_216 : Cond.methodLink RX4 216 yX0_sets ∈ BIG := big_of (tb_3 20 (by decide +kernel)) rfl
theorem qm_X0_28 : Cond.methodLink RX0 28 Lib.Math.min.name ∈ BIG := big_of (tb_3 24 (by decide +kernel)) rfl
theorem qm_L_110 : Cond.methodLink RL 110 yX4_haunts ∈ BIG := big_of (tb_3 25 (by decide +kernel)) rfl
theorem qm_X4_222 : Cond.methodLink RX4 222 yX4_holds ∈ BIG := big_of (tb_3 29 (by decide +kernel)) rfl
theorem qm_L_114 : Cond.methodLink RL 114 yX4_right ∈ BIG := big_of (tb_3 30 (by decide +kernel)) rfl
theorem qm_X4_225 : Cond.methodLink RX4 225 yX4_fillBySet ∈ BIG := big_of (tb_3 34 (by decide +kernel)) rfl
theorem qm_X4_228 : Cond.methodLink RX4 228 Lib.Math.min.name ∈ BIG := big_of (tb_3 38 (by decide +kernel)) rfl
theorem qm_L_118 : Cond.methodLink RL 118 yX4_alike ∈ BIG := big_of (tb_3 39 (by decide +kernel)) rfl
theorem qm_L_122 : Cond.methodLink RL 122 yX4_best ∈ BIG := big_of (tb_3 43 (by decide +kernel)) rfl
theorem qm_X4_231 : Cond.methodLink RX4 231 yX4_rightSetsOf ∈ BIG := big_of (tb_3 47 (by decide +kernel)) rfl
theorem qm_L_126 : Cond.methodLink RL 126 yX4_kinds ∈ BIG := big_of (tb_3 51 (by decide +kernel)) rfl
theorem qm_X4_238 : Cond.methodLink RX4 238 yX4_refusePairs ∈ BIG := big_of (tb_3 55 (by decide +kernel)) rfl
theorem qm_X4_241 : Cond.methodLink RX4 241 yX4_kindsThatFit ∈ BIG := big_of (tb_3 59 (by decide +kernel)) rfl
theorem qm_X4_250 : Cond.methodLink RX4 250 yX4_fits ∈ BIG := big_of (tb_3 63 (by decide +kernel)) rfl
theorem qm_L_130 : Cond.methodLink RL 130 yX4_places ∈ BIG := big_of (tb_3 67 (by decide +kernel)) rfl
theorem qm_X4_244 : Cond.methodLink RX4 244 yX0_keyAt ∈ BIG := big_of (tb_3 71 (by decide +kernel)) rfl
theorem qm_X4_247 : Cond.methodLink RX4 247 yX0_seat ∈ BIG := big_of (tb_3 72 (by decide +kernel)) rfl
theorem qm_L_134 : Cond.methodLink RL 134 yX4_test ∈ BIG := big_of (tb_3 76 (by decide +kernel)) rfl
theorem qm_X4_254 : Cond.methodLink RX4 254 yX4_fillByKind ∈ BIG := big_of (tb_3 80 (by decide +kernel)) rfl
theorem qm_X4_257 : Cond.methodLink RX4 257 yX4_greatestPart ∈ BIG := big_of (tb_3 84 (by decide +kernel)) rfl
theorem qm_L_138 : Cond.methodLink RL 138 yX4_duel ∈ BIG := big_of (tb_3 88 (by decide +kernel)) rfl
theorem qm_X4_260 : Cond.methodLink RX4 260 yX4_ghostsOf ∈ BIG := big_of (tb_3 92 (by decide +kernel)) rfl
theorem qm_X4_267 : Cond.methodLink RX4 267 yX4_valueOf ∈ BIG := big_of (tb_3 96 (by decide +kernel)) rfl
theorem qm_X4_263 : Cond.methodLink RX4 263 yX4_takeBackTurn ∈ BIG := big_of (tb_3 100 (by decide +kernel)) rfl
theorem qm_L_142 : Cond.methodLink RL 142 yX4_odds ∈ BIG := big_of (tb_3 104 (by decide +kernel)) rfl
theorem qm_X4_270 : Cond.methodLink RX4 270 yX4_refuseChance ∈ BIG := big_of (tb_3 108 (by decide +kernel)) rfl
theorem qm_X4_273 : Cond.methodLink RX4 273 yX4_weight ∈ BIG := big_of (tb_3 112 (by decide +kernel)) rfl
theorem qm_X4_279 : Cond.methodLink RX4 279 yX4_power ∈ BIG := big_of (tb_3 116 (by decide +kernel)) rfl
theorem qm_X4_283 : Cond.methodLink RX4 283 yX4_tellFraction ∈ BIG := big_of (tb_3 120 (by decide +kernel)) rfl
theorem qm_L_146 : Cond.methodLink RL 146 yX4_mid ∈ BIG := big_of (tb_3 124 (by decide +kernel)) rfl
theorem qm_L_150 : Cond.methodLink RL 150 yX4_lots ∈ BIG := big_of (tb_3 128 (by decide +kernel)) rfl
theorem qm_X4_292 : Cond.methodLink RX4 292 yX4_deedByLot ∈ BIG := big_of (tb_3 135 (by decide +kernel)) rfl
theorem qm_L_154 : Cond.methodLink RL 154 yX4_asked ∈ BIG := big_of (tb_3 141 (by decide +kernel)) rfl
theorem qm_L_158 : Cond.methodLink RL 158 yX4_upper ∈ BIG := big_of (tb_3 145 (by decide +kernel)) rfl
theorem qm_L_163 : Cond.methodLink RL 163 yX4_lower ∈ BIG := big_of (tb_3 149 (by decide +kernel)) rfl
theorem qm_L_167 : Cond.methodLink RL 167 yX4_count ∈ BIG := big_of (tb_3 153 (by decide +kernel)) rfl
theorem qm_X4_299 : Cond.methodLink RX4 299 yX2_howMany ∈ BIG := big_of (tb_3 157 (by decide +kernel)) rfl
theorem qm_X2_39 : Cond.methodLink RX2 39 yX2_has ∈ BIG := big_of (tb_3 161 (by decide +kernel)) rfl
theorem qm_X4_302 : Cond.methodLink RX4 302 yX0_howManyOf ∈ BIG := big_of (tb_3 162 (by decide +kernel)) rfl
theorem qm_L_171 : Cond.methodLink RL 171 yX4_finding ∈ BIG := big_of (tb_3 167 (by decide +kernel)) rfl
theorem qm_L_175 : Cond.methodLink RL 175 yX4_findings ∈ BIG := big_of (tb_3 171 (by decide +kernel)) rfl
theorem qm_L_179 : Cond.methodLink RL 179 yX4_digest ∈ BIG := big_of (tb_3 175 (by decide +kernel)) rfl
theorem qm_X4_309 : Cond.methodLink RX4 309 yX4_count ∈ BIG := big_of (tb_3 181 (by decide +kernel)) rfl
theorem qm_X4_312 : Cond.methodLink RX4 312 yX2_mixInto ∈ BIG := big_of (tb_3 182 (by decide +kernel)) rfl
theorem qm_L_12 : Cond.methodLink RL 12 yX5_init ∈ BIG := big_of (tb_3 189 (by decide +kernel)) rfl
theorem qm_X5_1 : Cond.methodLink RX5 1 objectInit ∈ BIG := big_of (tb_3 192 (by decide +kernel)) rfl
theorem qm_L_17 : Cond.methodLink RL 17 yX5_row ∈ BIG := big_of (tb_4 36 (by decide +kernel)) rfl
theorem qm_X5_92 : Cond.methodLink RX5 92 yX5_isRow ∈ BIG := big_of (tb_4 40 (by decide +kernel)) rfl
theorem qm_X5_88 : Cond.methodLink RX5 88 yX5_in ∈ BIG := big_of (tb_4 43 (by decide +kernel)) rfl
theorem qm_X5_96 : Cond.methodLink RX5 96 yX5_find ∈ BIG := big_of (tb_4 46 (by decide +kernel)) rfl
theorem qm_L_22 : Cond.methodLink RL 22 yX5_lay ∈ BIG := big_of (tb_4 50 (by decide +kernel)) rfl
theorem qm_X5_100 : Cond.methodLink RX5 100 yX5_tellAsked ∈ BIG := big_of (tb_4 54 (by decide +kernel)) rfl
theorem qm_L_26 : Cond.methodLink RL 26 yX5_at ∈ BIG := big_of (tb_4 58 (by decide +kernel)) rfl
theorem qm_L_31 : Cond.methodLink RL 31 yX5_tear ∈ BIG := big_of (tb_4 62 (by decide +kernel)) rfl
theorem qm_L_36 : Cond.methodLink RL 36 yX5_copy ∈ BIG := big_of (tb_4 66 (by decide +kernel)) rfl
theorem qm_L_40 : Cond.methodLink RL 40 yX5_mean ∈ BIG := big_of (tb_4 70 (by decide +kernel)) rfl
theorem qm_L_44 : Cond.methodLink RL 44 yX5_text ∈ BIG := big_of (tb_4 74 (by decide +kernel)) rfl
theorem qm_X5_103 : Cond.methodLink RX5 103 yX5_isText ∈ BIG := big_of (tb_4 78 (by decide +kernel)) rfl
theorem qm_L_48 : Cond.methodLink RL 48 yX5_put ∈ BIG := big_of (tb_4 81 (by decide +kernel)) rfl
theorem qm_L_52 : Cond.methodLink RL 52 yX5_fault ∈ BIG := big_of (tb_4 85 (by decide +kernel)) rfl
theorem qm_X5_113 : Cond.methodLink RX5 113 yX5_read ∈ BIG := big_of (tb_4 89 (by decide +kernel)) rfl
theorem qm_X5_106 : Cond.methodLink RX5 106 yX5_kindOf ∈ BIG := big_of (tb_4 93 (by decide +kernel)) rfl
theorem qm_X5_109 : Cond.methodLink RX5 109 yX5_figure ∈ BIG := big_of (tb_4 96 (by decide +kernel)) rfl
theorem qm_L_56 : Cond.methodLink RL 56 yX5_board ∈ BIG := big_of (tb_4 100 (by decide +kernel)) rfl
theorem qm_L_60 : Cond.methodLink RL 60 yX5_key ∈ BIG := big_of (tb_4 104 (by decide +kernel)) rfl
theorem qm_X5_149 : Cond.methodLink RX5 149 yX5_isKey ∈ BIG := big_of (tb_4 108 (by decide +kernel)) rfl
theorem qm_X5_152 : Cond.methodLink RX5 152 yX5_factOf ∈ BIG := big_of (tb_4 112 (by decide +kernel)) rfl
theorem qm_X5_122 : Cond.methodLink RX5 122 yX5_now ∈ BIG := big_of (tb_4 116 (by decide +kernel)) rfl
theorem qm_X5_125 : Cond.methodLink RX5 125 yX5_has ∈ BIG := big_of (tb_4 120 (by decide +kernel)) rfl
theorem qm_X5_139 : Cond.methodLink RX5 139 yX5_take ∈ BIG := big_of (tb_4 123 (by decide +kernel)) rfl
theorem qm_X5_133 : Cond.methodLink RX5 133 yX5_conducts ∈ BIG := big_of (tb_4 127 (by decide +kernel)) rfl
theorem qm_X5_129 : Cond.methodLink RX5 129 yX5_doesBy ∈ BIG := big_of (tb_4 131 (by decide +kernel)) rfl
theorem qm_X5_146 : Cond.methodLink RX5 146 yX5_toldNow ∈ BIG := big_of (tb_4 134 (by decide +kernel)) rfl
theorem qm_X5_142 : Cond.methodLink RX5 142 yX5_toldBy ∈ BIG := big_of (tb_4 138 (by decide +kernel)) rfl
theorem qm_X5_136 : Cond.methodLink RX5 136 yX5_readBy ∈ BIG := big_of (tb_4 142 (by decide +kernel)) rfl
theorem qm_L_64 : Cond.methodLink RL 64 yX5_mark ∈ BIG := big_of (tb_4 146 (by decide +kernel)) rfl
theorem qm_X5_156 : Cond.methodLink RX5 156 yX5_bitsOf ∈ BIG := big_of (tb_4 150 (by decide +kernel)) rfl
theorem qm_L_68 : Cond.methodLink RL 68 yX5_reads ∈ BIG := big_of (tb_4 153 (by decide +kernel)) rfl
theorem qm_X5_159 : Cond.methodLink RX5 159 yX5_isLine ∈ BIG := big_of (tb_4 157 (by decide +kernel)) rfl
theorem qm_L_72 : Cond.methodLink RL 72 yX5_press ∈ BIG := big_of (tb_4 160 (by decide +kernel)) rfl
theorem qm_X5_165 : Cond.methodLink RX5 165 yX5_begin ∈ BIG := big_of (tb_4 164 (by decide +kernel)) rfl
theorem qm_X5_168 : Cond.methodLink RX5 168 yX5_pressNow ∈ BIG := big_of (tb_4 168 (by decide +kernel)) rfl
theorem qm_X5_162 : Cond.methodLink RX5 162 yX5_flipped ∈ BIG := big_of (tb_4 172 (by decide +kernel)) rfl
theorem qm_L_77 : Cond.methodLink RL 77 yX5_scan ∈ BIG := big_of (tb_4 175 (by decide +kernel)) rfl
theorem qm_X5_172 : Cond.methodLink RX5 172 yX5_passOn ∈ BIG := big_of (tb_4 179 (by decide +kernel)) rfl
theorem qm_L_81 : Cond.methodLink RL 81 yX5_cut ∈ BIG := big_of (tb_4 183 (by decide +kernel)) rfl
theorem qm_L_85 : Cond.methodLink RL 85 yX5_undo ∈ BIG := big_of (tb_4 187 (by decide +kernel)) rfl
theorem qm_L_89 : Cond.methodLink RL 89 yX5_keep ∈ BIG := big_of (tb_4 191 (by decide +kernel)) rfl
theorem qm_L_93 : Cond.methodLink RL 93 yX5_on ∈ BIG := big_of (tb_4 195 (by decide +kernel)) rfl
theorem qm_L_97 : Cond.methodLink RL 97 yX5_told ∈ BIG := big_of (tb_4 199 (by decide +kernel)) rfl
theorem qm_L_101 : Cond.methodLink RL 101 yX5_ghosts ∈ BIG := big_of (tb_4 203 (by decide +kernel)) rfl
theorem qm_L_105 : Cond.methodLink RL 105 yX5_later ∈ BIG := big_of (tb_4 207 (by decide +kernel)) rfl
theorem qm_L_109 : Cond.methodLink RL 109 yX5_would ∈ BIG := big_of (tb_4 211 (by decide +kernel)) rfl
theorem qm_X5_176 : Cond.methodLink RX5 176 yX5_isSet ∈ BIG := big_of (tb_4 215 (by decide +kernel)) rfl
theorem qm_X5_179 : Cond.methodLink RX5 179 yX5_toldOf ∈ BIG := big_of (tb_4 219 (by decide +kernel)) rfl
theorem qm_L_113 : Cond.methodLink RL 113 yX5_haunts ∈ BIG := big_of (tb_4 223 (by decide +kernel)) rfl
theorem qm_L_117 : Cond.methodLink RL 117 yX5_right ∈ BIG := big_of (tb_4 227 (by decide +kernel)) rfl
theorem qm_X5_182 : Cond.methodLink RX5 182 yX5_rightSets ∈ BIG := big_of (tb_4 231 (by decide +kernel)) rfl
theorem qm_L_121 : Cond.methodLink RL 121 yX5_alike ∈ BIG := big_of (tb_4 235 (by decide +kernel)) rfl
theorem qm_L_125 : Cond.methodLink RL 125 yX5_best ∈ BIG := big_of (tb_4 239 (by decide +kernel)) rfl
theorem qm_L_129 : Cond.methodLink RL 129 yX5_kinds ∈ BIG := big_of (tb_5 3 (by decide +kernel)) rfl
theorem qm_X5_188 : Cond.methodLink RX5 188 yX5_pairs ∈ BIG := big_of (tb_5 7 (by decide +kernel)) rfl
theorem qm_X5_191 : Cond.methodLink RX5 191 yX5_kindsBy ∈ BIG := big_of (tb_5 11 (by decide +kernel)) rfl
theorem qm_X5_185 : Cond.methodLink RX5 185 yX5_isSo ∈ BIG := big_of (tb_5 15 (by decide +kernel)) rfl
theorem qm_L_133 : Cond.methodLink RL 133 yX5_places ∈ BIG := big_of (tb_5 19 (by decide +kernel)) rfl
theorem qm_X5_194 : Cond.methodLink RX5 194 yX5_isFree ∈ BIG := big_of (tb_5 23 (by decide +kernel)) rfl
theorem qm_L_137 : Cond.methodLink RL 137 yX5_test ∈ BIG := big_of (tb_5 27 (by decide +kernel)) rfl
theorem qm_L_141 : Cond.methodLink RL 141 yX5_duel ∈ BIG := big_of (tb_5 31 (by decide +kernel)) rfl
theorem qm_L_145 : Cond.methodLink RL 145 yX5_odds ∈ BIG := big_of (tb_5 35 (by decide +kernel)) rfl
theorem qm_X5_199 : Cond.methodLink RX5 199 yX5_waysOf ∈ BIG := big_of (tb_5 39 (by decide +kernel)) rfl
theorem qm_X5_203 : Cond.methodLink RX5 203 yX5_allWays ∈ BIG := big_of (tb_5 44 (by decide +kernel)) rfl
theorem qm_X5_207 : Cond.methodLink RX5 207 yX5_fraction ∈ BIG := big_of (tb_5 48 (by decide +kernel)) rfl
theorem qm_L_149 : Cond.methodLink RL 149 yX5_mid ∈ BIG := big_of (tb_5 52 (by decide +kernel)) rfl
theorem qm_L_153 : Cond.methodLink RL 153 yX5_lots ∈ BIG := big_of (tb_5 56 (by decide +kernel)) rfl
theorem qm_L_157 : Cond.methodLink RL 157 yX5_asked ∈ BIG := big_of (tb_5 65 (by decide +kernel)) rfl
theorem qm_L_162 : Cond.methodLink RL 162 yX5_upper ∈ BIG := big_of (tb_5 69 (by decide +kernel)) rfl
theorem qm_L_166 : Cond.methodLink RL 166 yX5_lower ∈ BIG := big_of (tb_5 73 (by decide +kernel)) rfl
theorem qm_L_170 : Cond.methodLink RL 170 yX5_count ∈ BIG := big_of (tb_5 77 (by decide +kernel)) rfl
theorem qm_X5_220 : Cond.methodLink RX5 220 yX5_thereAre ∈ BIG := big_of (tb_5 81 (by decide +kernel)) rfl
theorem qm_X5_223 : Cond.methodLink RX5 223 yX5_ofKinds ∈ BIG := big_of (tb_5 85 (by decide +kernel)) rfl
theorem qm_L_174 : Cond.methodLink RL 174 yX5_finding ∈ BIG := big_of (tb_5 89 (by decide +kernel)) rfl
theorem qm_L_178 : Cond.methodLink RL 178 yX5_findings ∈ BIG := big_of (tb_5 93 (by decide +kernel)) rfl
theorem qm_L_182 : Cond.methodLink RL 182 yX5_digest ∈ BIG := big_of (tb_5 97 (by decide +kernel)) rfl
theorem qm_X5_230 : Cond.methodLink RX5 230 yX5_count ∈ BIG := big_of (tb_5 103 (by decide +kernel)) rfl
theorem qnat : Cond.native arraycopyName ∈ BIG := big_of (tb_2 7 (by decide +kernel)) rfl
theorem qy_yX4_init : Cond.instanceMethod yX4_init ∈ BIG := big_of (tb_1 13 (by decide +kernel)) rfl
theorem qy_objectInit : Cond.instanceMethod objectInit ∈ BIG := big_of (tb_1 16 (by decide +kernel)) rfl
theorem qy_yX2_init : Cond.instanceMethod yX2_init ∈ BIG := big_of (tb_1 21 (by decide +kernel)) rfl
theorem qy_yX0_init : Cond.instanceMethod yX0_init ∈ BIG := big_of (tb_1 45 (by decide +kernel)) rfl
theorem qy_yX1_init : Cond.instanceMethod yX1_init ∈ BIG := big_of (tb_1 72 (by decide +kernel)) rfl
theorem qy_yX3_init : Cond.instanceMethod yX3_init ∈ BIG := big_of (tb_1 96 (by decide +kernel)) rfl
theorem qy_yX2_make : Cond.instanceMethod yX2_make ∈ BIG := big_of (tb_1 130 (by decide +kernel)) rfl
theorem qy_yX4_row : Cond.instanceMethod yX4_row ∈ BIG := big_of (tb_1 183 (by decide +kernel)) rfl
theorem qy_yX4_found : Cond.instanceMethod yX4_found ∈ BIG := big_of (tb_1 189 (by decide +kernel)) rfl
theorem qy_yX4_lay : Cond.instanceMethod yX4_lay ∈ BIG := big_of (tb_1 192 (by decide +kernel)) rfl
theorem qy_yX4_refusePlace : Cond.instanceMethod yX4_refusePlace ∈ BIG := big_of (tb_1 197 (by decide +kernel)) rfl
theorem qy_yX4_refuseShelfPlace : Cond.instanceMethod yX4_refuseShelfPlace ∈ BIG := big_of (tb_1 201 (by decide +kernel)) rfl
theorem qy_yX2_has : Cond.instanceMethod yX2_has ∈ BIG := big_of (tb_1 204 (by decide +kernel)) rfl
theorem qy_yX2_size : Cond.instanceMethod yX2_size ∈ BIG := big_of (tb_1 208 (by decide +kernel)) rfl
theorem qy_yX2_get : Cond.instanceMethod yX2_get ∈ BIG := big_of (tb_1 213 (by decide +kernel)) rfl
theorem qy_yX2_set : Cond.instanceMethod yX2_set ∈ BIG := big_of (tb_1 217 (by decide +kernel)) rfl
theorem qy_yX4_at : Cond.instanceMethod yX4_at ∈ BIG := big_of (tb_1 221 (by decide +kernel)) rfl
theorem qy_yX4_tear : Cond.instanceMethod yX4_tear ∈ BIG := big_of (tb_1 225 (by decide +kernel)) rfl
theorem qy_yX2_remove : Cond.instanceMethod yX2_remove ∈ BIG := big_of (tb_1 229 (by decide +kernel)) rfl
theorem qy_yX4_copy : Cond.instanceMethod yX4_copy ∈ BIG := big_of (tb_1 233 (by decide +kernel)) rfl
theorem qy_yX2_reaches : Cond.instanceMethod yX2_reaches ∈ BIG := big_of (tb_1 237 (by decide +kernel)) rfl
theorem qy_yX2_move : Cond.instanceMethod yX2_move ∈ BIG := big_of (tb_2 1 (by decide +kernel)) rfl
theorem qy_yX4_mean : Cond.instanceMethod yX4_mean ∈ BIG := big_of (tb_2 9 (by decide +kernel)) rfl
theorem qy_yX2_sum : Cond.instanceMethod yX2_sum ∈ BIG := big_of (tb_2 13 (by decide +kernel)) rfl
theorem qy_yX4_text : Cond.instanceMethod yX4_text ∈ BIG := big_of (tb_2 18 (by decide +kernel)) rfl
theorem qy_yX4_put : Cond.instanceMethod yX4_put ∈ BIG := big_of (tb_2 22 (by decide +kernel)) rfl
theorem qy_yX4_fault : Cond.instanceMethod yX4_fault ∈ BIG := big_of (tb_2 26 (by decide +kernel)) rfl
theorem qy_yX0_readFrom : Cond.instanceMethod yX0_readFrom ∈ BIG := big_of (tb_2 30 (by decide +kernel)) rfl
theorem qy_yX0_rightSigns : Cond.instanceMethod yX0_rightSigns ∈ BIG := big_of (tb_2 40 (by decide +kernel)) rfl
theorem qy_yX0_keyAt : Cond.instanceMethod yX0_keyAt ∈ BIG := big_of (tb_2 52 (by decide +kernel)) rfl
theorem qy_yX4_board : Cond.instanceMethod yX4_board ∈ BIG := big_of (tb_2 56 (by decide +kernel)) rfl
theorem qy_yX0_copyFrom : Cond.instanceMethod yX0_copyFrom ∈ BIG := big_of (tb_2 60 (by decide +kernel)) rfl
theorem qy_yX1_reset : Cond.instanceMethod yX1_reset ∈ BIG := big_of (tb_2 64 (by decide +kernel)) rfl
theorem qy_yX4_key : Cond.instanceMethod yX4_key ∈ BIG := big_of (tb_2 68 (by decide +kernel)) rfl
theorem qy_yX0_has : Cond.instanceMethod yX0_has ∈ BIG := big_of (tb_2 72 (by decide +kernel)) rfl
theorem qy_yX4_keyFact : Cond.instanceMethod yX4_keyFact ∈ BIG := big_of (tb_2 77 (by decide +kernel)) rfl
theorem qy_yX0_kindOf : Cond.instanceMethod yX0_kindOf ∈ BIG := big_of (tb_2 80 (by decide +kernel)) rfl
theorem qy_yX0_lineOf : Cond.instanceMethod yX0_lineOf ∈ BIG := big_of (tb_2 85 (by decide +kernel)) rfl
theorem qy_yX0_columnOf : Cond.instanceMethod yX0_columnOf ∈ BIG := big_of (tb_2 89 (by decide +kernel)) rfl
theorem qy_yX0_delayOf : Cond.instanceMethod yX0_delayOf ∈ BIG := big_of (tb_2 93 (by decide +kernel)) rfl
theorem qy_yX1_heldFor : Cond.instanceMethod yX1_heldFor ∈ BIG := big_of (tb_2 97 (by decide +kernel)) rfl
theorem qy_yX0_conducts : Cond.instanceMethod yX0_conducts ∈ BIG := big_of (tb_2 101 (by decide +kernel)) rfl
theorem qy_yX4_toldNow : Cond.instanceMethod yX4_toldNow ∈ BIG := big_of (tb_2 110 (by decide +kernel)) rfl
theorem qy_yX4_toldAt : Cond.instanceMethod yX4_toldAt ∈ BIG := big_of (tb_2 114 (by decide +kernel)) rfl
theorem qy_yX3_attach : Cond.instanceMethod yX3_attach ∈ BIG := big_of (tb_2 117 (by decide +kernel)) rfl
theorem qy_yX3_toldOf : Cond.instanceMethod yX3_toldOf ∈ BIG := big_of (tb_2 128 (by decide +kernel)) rfl
theorem qy_yX3_connect : Cond.instanceMethod yX3_connect ∈ BIG := big_of (tb_2 133 (by decide +kernel)) rfl
theorem qy_yX3_columnsFrom : Cond.instanceMethod yX3_columnsFrom ∈ BIG := big_of (tb_2 137 (by decide +kernel)) rfl
theorem qy_yX4_mark : Cond.instanceMethod yX4_mark ∈ BIG := big_of (tb_2 141 (by decide +kernel)) rfl
theorem qy_yX4_toldWerePlain : Cond.instanceMethod yX4_toldWerePlain ∈ BIG := big_of (tb_2 147 (by decide +kernel)) rfl
theorem qy_yX0_turnInto : Cond.instanceMethod yX0_turnInto ∈ BIG := big_of (tb_2 150 (by decide +kernel)) rfl
theorem qy_yX4_scansConducting : Cond.instanceMethod yX4_scansConducting ∈ BIG := big_of (tb_2 161 (by decide +kernel)) rfl
theorem qy_yX1_copyFrom : Cond.instanceMethod yX1_copyFrom ∈ BIG := big_of (tb_2 164 (by decide +kernel)) rfl
theorem qy_yX1_passScan : Cond.instanceMethod yX1_passScan ∈ BIG := big_of (tb_2 168 (by decide +kernel)) rfl
theorem qy_yX4_reads : Cond.instanceMethod yX4_reads ∈ BIG := big_of (tb_2 177 (by decide +kernel)) rfl
theorem qy_yX3_columnsReadBy : Cond.instanceMethod yX3_columnsReadBy ∈ BIG := big_of (tb_2 181 (by decide +kernel)) rfl
theorem qy_yX4_press : Cond.instanceMethod yX4_press ∈ BIG := big_of (tb_2 185 (by decide +kernel)) rfl
theorem qy_yX4_hasNoRoomFor : Cond.instanceMethod yX4_hasNoRoomFor ∈ BIG := big_of (tb_2 190 (by decide +kernel)) rfl
theorem qy_yX4_perform : Cond.instanceMethod yX4_perform ∈ BIG := big_of (tb_2 194 (by decide +kernel)) rfl
theorem qy_yX2_add : Cond.instanceMethod yX2_add ∈ BIG := big_of (tb_2 197 (by decide +kernel)) rfl
theorem qy_yX1_undergo : Cond.instanceMethod yX1_undergo ∈ BIG := big_of (tb_2 201 (by decide +kernel)) rfl
theorem qy_yX4_scan : Cond.instanceMethod yX4_scan ∈ BIG := big_of (tb_2 207 (by decide +kernel)) rfl
theorem qy_yX4_cut : Cond.instanceMethod yX4_cut ∈ BIG := big_of (tb_2 211 (by decide +kernel)) rfl
theorem qy_yX4_undo : Cond.instanceMethod yX4_undo ∈ BIG := big_of (tb_2 215 (by decide +kernel)) rfl
theorem qy_yX2_shorten : Cond.instanceMethod yX2_shorten ∈ BIG := big_of (tb_2 219 (by decide +kernel)) rfl
theorem qy_yX4_replay : Cond.instanceMethod yX4_replay ∈ BIG := big_of (tb_2 224 (by decide +kernel)) rfl
theorem qy_yX4_keep : Cond.instanceMethod yX4_keep ∈ BIG := big_of (tb_2 227 (by decide +kernel)) rfl
theorem qy_yX2_moveAll : Cond.instanceMethod yX2_moveAll ∈ BIG := big_of (tb_2 231 (by decide +kernel)) rfl
theorem qy_yX4_on : Cond.instanceMethod yX4_on ∈ BIG := big_of (tb_2 237 (by decide +kernel)) rfl
theorem qy_yX4_told : Cond.instanceMethod yX4_told ∈ BIG := big_of (tb_3 1 (by decide +kernel)) rfl
theorem qy_yX4_ghosts : Cond.instanceMethod yX4_ghosts ∈ BIG := big_of (tb_3 5 (by decide +kernel)) rfl
theorem qy_yX4_later : Cond.instanceMethod yX4_later ∈ BIG := big_of (tb_3 9 (by decide +kernel)) rfl
theorem qy_yX4_isAmongFirst : Cond.instanceMethod yX4_isAmongFirst ∈ BIG := big_of (tb_3 14 (by decide +kernel)) rfl
theorem qy_yX4_would : Cond.instanceMethod yX4_would ∈ BIG := big_of (tb_3 17 (by decide +kernel)) rfl
theorem qy_yX0_sets : Cond.instanceMethod yX0_sets ∈ BIG := big_of (tb_3 21 (by decide +kernel)) rfl
theorem qy_yX4_haunts : Cond.instanceMethod yX4_haunts ∈ BIG := big_of (tb_3 26 (by decide +kernel)) rfl
theorem qy_yX4_right : Cond.instanceMethod yX4_right ∈ BIG := big_of (tb_3 31 (by decide +kernel)) rfl
theorem qy_yX4_fillBySet : Cond.instanceMethod yX4_fillBySet ∈ BIG := big_of (tb_3 36 (by decide +kernel)) rfl
theorem qy_yX4_alike : Cond.instanceMethod yX4_alike ∈ BIG := big_of (tb_3 40 (by decide +kernel)) rfl
theorem qy_yX4_best : Cond.instanceMethod yX4_best ∈ BIG := big_of (tb_3 44 (by decide +kernel)) rfl
theorem qy_yX4_rightSetsOf : Cond.instanceMethod yX4_rightSetsOf ∈ BIG := big_of (tb_3 49 (by decide +kernel)) rfl
theorem qy_yX4_kinds : Cond.instanceMethod yX4_kinds ∈ BIG := big_of (tb_3 52 (by decide +kernel)) rfl
theorem qy_yX4_refusePairs : Cond.instanceMethod yX4_refusePairs ∈ BIG := big_of (tb_3 57 (by decide +kernel)) rfl
theorem qy_yX4_kindsThatFit : Cond.instanceMethod yX4_kindsThatFit ∈ BIG := big_of (tb_3 61 (by decide +kernel)) rfl
theorem qy_yX4_fits : Cond.instanceMethod yX4_fits ∈ BIG := big_of (tb_3 65 (by decide +kernel)) rfl
theorem qy_yX4_places : Cond.instanceMethod yX4_places ∈ BIG := big_of (tb_3 68 (by decide +kernel)) rfl
theorem qy_yX0_seat : Cond.instanceMethod yX0_seat ∈ BIG := big_of (tb_3 73 (by decide +kernel)) rfl
theorem qy_yX4_test : Cond.instanceMethod yX4_test ∈ BIG := big_of (tb_3 77 (by decide +kernel)) rfl
theorem qy_yX4_fillByKind : Cond.instanceMethod yX4_fillByKind ∈ BIG := big_of (tb_3 82 (by decide +kernel)) rfl
theorem qy_yX4_greatestPart : Cond.instanceMethod yX4_greatestPart ∈ BIG := big_of (tb_3 86 (by decide +kernel)) rfl
theorem qy_yX4_duel : Cond.instanceMethod yX4_duel ∈ BIG := big_of (tb_3 89 (by decide +kernel)) rfl
theorem qy_yX4_ghostsOf : Cond.instanceMethod yX4_ghostsOf ∈ BIG := big_of (tb_3 94 (by decide +kernel)) rfl
theorem qy_yX4_valueOf : Cond.instanceMethod yX4_valueOf ∈ BIG := big_of (tb_3 98 (by decide +kernel)) rfl
theorem qy_yX4_takeBackTurn : Cond.instanceMethod yX4_takeBackTurn ∈ BIG := big_of (tb_3 102 (by decide +kernel)) rfl
theorem qy_yX4_odds : Cond.instanceMethod yX4_odds ∈ BIG := big_of (tb_3 105 (by decide +kernel)) rfl
theorem qy_yX4_refuseChance : Cond.instanceMethod yX4_refuseChance ∈ BIG := big_of (tb_3 110 (by decide +kernel)) rfl
theorem qy_yX4_weight : Cond.instanceMethod yX4_weight ∈ BIG := big_of (tb_3 114 (by decide +kernel)) rfl
theorem qy_yX4_tellFraction : Cond.instanceMethod yX4_tellFraction ∈ BIG := big_of (tb_3 122 (by decide +kernel)) rfl
theorem qy_yX4_mid : Cond.instanceMethod yX4_mid ∈ BIG := big_of (tb_3 125 (by decide +kernel)) rfl
theorem qy_yX4_lots : Cond.instanceMethod yX4_lots ∈ BIG := big_of (tb_3 129 (by decide +kernel)) rfl
theorem qy_yX4_deedByLot : Cond.instanceMethod yX4_deedByLot ∈ BIG := big_of (tb_3 137 (by decide +kernel)) rfl
theorem qy_yX4_asked : Cond.instanceMethod yX4_asked ∈ BIG := big_of (tb_3 142 (by decide +kernel)) rfl
theorem qy_yX4_upper : Cond.instanceMethod yX4_upper ∈ BIG := big_of (tb_3 146 (by decide +kernel)) rfl
theorem qy_yX4_lower : Cond.instanceMethod yX4_lower ∈ BIG := big_of (tb_3 150 (by decide +kernel)) rfl
theorem qy_yX4_count : Cond.instanceMethod yX4_count ∈ BIG := big_of (tb_3 154 (by decide +kernel)) rfl
theorem qy_yX2_howMany : Cond.instanceMethod yX2_howMany ∈ BIG := big_of (tb_3 158 (by decide +kernel)) rfl
theorem qy_yX0_howManyOf : Cond.instanceMethod yX0_howManyOf ∈ BIG := big_of (tb_3 163 (by decide +kernel)) rfl
theorem qy_yX4_finding : Cond.instanceMethod yX4_finding ∈ BIG := big_of (tb_3 168 (by decide +kernel)) rfl
theorem qy_yX4_findings : Cond.instanceMethod yX4_findings ∈ BIG := big_of (tb_3 172 (by decide +kernel)) rfl
theorem qy_yX4_digest : Cond.instanceMethod yX4_digest ∈ BIG := big_of (tb_3 176 (by decide +kernel)) rfl
theorem qy_yX2_mixInto : Cond.instanceMethod yX2_mixInto ∈ BIG := big_of (tb_3 183 (by decide +kernel)) rfl
theorem qy_yX5_init : Cond.instanceMethod yX5_init ∈ BIG := big_of (tb_3 190 (by decide +kernel)) rfl
theorem qy_yX5_row : Cond.instanceMethod yX5_row ∈ BIG := big_of (tb_4 37 (by decide +kernel)) rfl
theorem qy_yX5_find : Cond.instanceMethod yX5_find ∈ BIG := big_of (tb_4 48 (by decide +kernel)) rfl
theorem qy_yX5_lay : Cond.instanceMethod yX5_lay ∈ BIG := big_of (tb_4 51 (by decide +kernel)) rfl
theorem qy_yX5_tellAsked : Cond.instanceMethod yX5_tellAsked ∈ BIG := big_of (tb_4 56 (by decide +kernel)) rfl
theorem qy_yX5_at : Cond.instanceMethod yX5_at ∈ BIG := big_of (tb_4 59 (by decide +kernel)) rfl
theorem qy_yX5_tear : Cond.instanceMethod yX5_tear ∈ BIG := big_of (tb_4 63 (by decide +kernel)) rfl
theorem qy_yX5_copy : Cond.instanceMethod yX5_copy ∈ BIG := big_of (tb_4 67 (by decide +kernel)) rfl
theorem qy_yX5_mean : Cond.instanceMethod yX5_mean ∈ BIG := big_of (tb_4 71 (by decide +kernel)) rfl
theorem qy_yX5_text : Cond.instanceMethod yX5_text ∈ BIG := big_of (tb_4 75 (by decide +kernel)) rfl
theorem qy_yX5_put : Cond.instanceMethod yX5_put ∈ BIG := big_of (tb_4 82 (by decide +kernel)) rfl
theorem qy_yX5_fault : Cond.instanceMethod yX5_fault ∈ BIG := big_of (tb_4 86 (by decide +kernel)) rfl
theorem qy_yX5_read : Cond.instanceMethod yX5_read ∈ BIG := big_of (tb_4 91 (by decide +kernel)) rfl
theorem qy_yX5_figure : Cond.instanceMethod yX5_figure ∈ BIG := big_of (tb_4 98 (by decide +kernel)) rfl
theorem qy_yX5_board : Cond.instanceMethod yX5_board ∈ BIG := big_of (tb_4 101 (by decide +kernel)) rfl
theorem qy_yX5_key : Cond.instanceMethod yX5_key ∈ BIG := big_of (tb_4 105 (by decide +kernel)) rfl
theorem qy_yX5_isKey : Cond.instanceMethod yX5_isKey ∈ BIG := big_of (tb_4 110 (by decide +kernel)) rfl
theorem qy_yX5_factOf : Cond.instanceMethod yX5_factOf ∈ BIG := big_of (tb_4 114 (by decide +kernel)) rfl
theorem qy_yX5_now : Cond.instanceMethod yX5_now ∈ BIG := big_of (tb_4 118 (by decide +kernel)) rfl
theorem qy_yX5_take : Cond.instanceMethod yX5_take ∈ BIG := big_of (tb_4 125 (by decide +kernel)) rfl
theorem qy_yX5_conducts : Cond.instanceMethod yX5_conducts ∈ BIG := big_of (tb_4 129 (by decide +kernel)) rfl
theorem qy_yX5_toldNow : Cond.instanceMethod yX5_toldNow ∈ BIG := big_of (tb_4 136 (by decide +kernel)) rfl
theorem qy_yX5_toldBy : Cond.instanceMethod yX5_toldBy ∈ BIG := big_of (tb_4 140 (by decide +kernel)) rfl
theorem qy_yX5_readBy : Cond.instanceMethod yX5_readBy ∈ BIG := big_of (tb_4 144 (by decide +kernel)) rfl
theorem qy_yX5_mark : Cond.instanceMethod yX5_mark ∈ BIG := big_of (tb_4 147 (by decide +kernel)) rfl
theorem qy_yX5_reads : Cond.instanceMethod yX5_reads ∈ BIG := big_of (tb_4 154 (by decide +kernel)) rfl
theorem qy_yX5_press : Cond.instanceMethod yX5_press ∈ BIG := big_of (tb_4 161 (by decide +kernel)) rfl
theorem qy_yX5_begin : Cond.instanceMethod yX5_begin ∈ BIG := big_of (tb_4 166 (by decide +kernel)) rfl
theorem qy_yX5_pressNow : Cond.instanceMethod yX5_pressNow ∈ BIG := big_of (tb_4 170 (by decide +kernel)) rfl
theorem qy_yX5_scan : Cond.instanceMethod yX5_scan ∈ BIG := big_of (tb_4 176 (by decide +kernel)) rfl
theorem qy_yX5_passOn : Cond.instanceMethod yX5_passOn ∈ BIG := big_of (tb_4 181 (by decide +kernel)) rfl
theorem qy_yX5_cut : Cond.instanceMethod yX5_cut ∈ BIG := big_of (tb_4 184 (by decide +kernel)) rfl
theorem qy_yX5_undo : Cond.instanceMethod yX5_undo ∈ BIG := big_of (tb_4 188 (by decide +kernel)) rfl
theorem qy_yX5_keep : Cond.instanceMethod yX5_keep ∈ BIG := big_of (tb_4 192 (by decide +kernel)) rfl
theorem qy_yX5_on : Cond.instanceMethod yX5_on ∈ BIG := big_of (tb_4 196 (by decide +kernel)) rfl
theorem qy_yX5_told : Cond.instanceMethod yX5_told ∈ BIG := big_of (tb_4 200 (by decide +kernel)) rfl
theorem qy_yX5_ghosts : Cond.instanceMethod yX5_ghosts ∈ BIG := big_of (tb_4 204 (by decide +kernel)) rfl
theorem qy_yX5_later : Cond.instanceMethod yX5_later ∈ BIG := big_of (tb_4 208 (by decide +kernel)) rfl
theorem qy_yX5_would : Cond.instanceMethod yX5_would ∈ BIG := big_of (tb_4 212 (by decide +kernel)) rfl
theorem qy_yX5_isSet : Cond.instanceMethod yX5_isSet ∈ BIG := big_of (tb_4 217 (by decide +kernel)) rfl
theorem qy_yX5_toldOf : Cond.instanceMethod yX5_toldOf ∈ BIG := big_of (tb_4 221 (by decide +kernel)) rfl
theorem qy_yX5_haunts : Cond.instanceMethod yX5_haunts ∈ BIG := big_of (tb_4 224 (by decide +kernel)) rfl
theorem qy_yX5_right : Cond.instanceMethod yX5_right ∈ BIG := big_of (tb_4 228 (by decide +kernel)) rfl
theorem qy_yX5_rightSets : Cond.instanceMethod yX5_rightSets ∈ BIG := big_of (tb_4 233 (by decide +kernel)) rfl
theorem qy_yX5_alike : Cond.instanceMethod yX5_alike ∈ BIG := big_of (tb_4 236 (by decide +kernel)) rfl
theorem qy_yX5_best : Cond.instanceMethod yX5_best ∈ BIG := big_of (tb_5 0 (by decide +kernel)) rfl
theorem qy_yX5_kinds : Cond.instanceMethod yX5_kinds ∈ BIG := big_of (tb_5 4 (by decide +kernel)) rfl
theorem qy_yX5_pairs : Cond.instanceMethod yX5_pairs ∈ BIG := big_of (tb_5 9 (by decide +kernel)) rfl
theorem qy_yX5_kindsBy : Cond.instanceMethod yX5_kindsBy ∈ BIG := big_of (tb_5 13 (by decide +kernel)) rfl
theorem qy_yX5_isSo : Cond.instanceMethod yX5_isSo ∈ BIG := big_of (tb_5 17 (by decide +kernel)) rfl
theorem qy_yX5_places : Cond.instanceMethod yX5_places ∈ BIG := big_of (tb_5 20 (by decide +kernel)) rfl
theorem qy_yX5_isFree : Cond.instanceMethod yX5_isFree ∈ BIG := big_of (tb_5 25 (by decide +kernel)) rfl
theorem qy_yX5_test : Cond.instanceMethod yX5_test ∈ BIG := big_of (tb_5 28 (by decide +kernel)) rfl
theorem qy_yX5_duel : Cond.instanceMethod yX5_duel ∈ BIG := big_of (tb_5 32 (by decide +kernel)) rfl
theorem qy_yX5_odds : Cond.instanceMethod yX5_odds ∈ BIG := big_of (tb_5 36 (by decide +kernel)) rfl
theorem qy_yX5_waysOf : Cond.instanceMethod yX5_waysOf ∈ BIG := big_of (tb_5 41 (by decide +kernel)) rfl
theorem qy_yX5_allWays : Cond.instanceMethod yX5_allWays ∈ BIG := big_of (tb_5 46 (by decide +kernel)) rfl
theorem qy_yX5_fraction : Cond.instanceMethod yX5_fraction ∈ BIG := big_of (tb_5 50 (by decide +kernel)) rfl
theorem qy_yX5_mid : Cond.instanceMethod yX5_mid ∈ BIG := big_of (tb_5 53 (by decide +kernel)) rfl
theorem qy_yX5_lots : Cond.instanceMethod yX5_lots ∈ BIG := big_of (tb_5 57 (by decide +kernel)) rfl
theorem qy_yX5_asked : Cond.instanceMethod yX5_asked ∈ BIG := big_of (tb_5 66 (by decide +kernel)) rfl
theorem qy_yX5_upper : Cond.instanceMethod yX5_upper ∈ BIG := big_of (tb_5 70 (by decide +kernel)) rfl
theorem qy_yX5_lower : Cond.instanceMethod yX5_lower ∈ BIG := big_of (tb_5 74 (by decide +kernel)) rfl
theorem qy_yX5_count : Cond.instanceMethod yX5_count ∈ BIG := big_of (tb_5 78 (by decide +kernel)) rfl
theorem qy_yX5_thereAre : Cond.instanceMethod yX5_thereAre ∈ BIG := big_of (tb_5 83 (by decide +kernel)) rfl
theorem qy_yX5_ofKinds : Cond.instanceMethod yX5_ofKinds ∈ BIG := big_of (tb_5 87 (by decide +kernel)) rfl
theorem qy_yX5_finding : Cond.instanceMethod yX5_finding ∈ BIG := big_of (tb_5 90 (by decide +kernel)) rfl
theorem qy_yX5_findings : Cond.instanceMethod yX5_findings ∈ BIG := big_of (tb_5 94 (by decide +kernel)) rfl
theorem qy_yX5_digest : Cond.instanceMethod yX5_digest ∈ BIG := big_of (tb_5 98 (by decide +kernel)) rfl
theorem qy_max : Cond.static Lib.Math.max.name ∈ BIG := big_of (tb_1 25 (by decide +kernel)) rfl
theorem qy_yX4_within : Cond.static yX4_within ∈ BIG := big_of (tb_1 134 (by decide +kernel)) rfl
theorem qy_arraycopyName : Cond.static arraycopyName ∈ BIG := big_of (tb_2 6 (by decide +kernel)) rfl
theorem qy_yX0_behindBlanks : Cond.static yX0_behindBlanks ∈ BIG := big_of (tb_2 35 (by decide +kernel)) rfl
theorem qy_yX0_kindOfLetter : Cond.static yX0_kindOfLetter ∈ BIG := big_of (tb_2 43 (by decide +kernel)) rfl
theorem qy_yX0_figure : Cond.static yX0_figure ∈ BIG := big_of (tb_2 48 (by decide +kernel)) rfl
theorem qy_yX4_holds : Cond.static yX4_holds ∈ BIG := big_of (tb_2 105 (by decide +kernel)) rfl
theorem qy_yX4_isOf : Cond.static yX4_isOf ∈ BIG := big_of (tb_2 123 (by decide +kernel)) rfl
theorem qy_yJ6_bitCount_0f7a4 : Cond.static yJ6_bitCount_0f7a4 ∈ BIG := big_of (tb_2 154 (by decide +kernel)) rfl
theorem qy_min : Cond.static Lib.Math.min.name ∈ BIG := big_of (tb_2 173 (by decide +kernel)) rfl
theorem qy_yX4_power : Cond.static yX4_power ∈ BIG := big_of (tb_3 117 (by decide +kernel)) rfl
theorem qy_yX5_isRow : Cond.static yX5_isRow ∈ BIG := big_of (tb_4 41 (by decide +kernel)) rfl
theorem qy_yX5_in : Cond.static yX5_in ∈ BIG := big_of (tb_4 44 (by decide +kernel)) rfl
theorem qy_yX5_isText : Cond.static yX5_isText ∈ BIG := big_of (tb_4 79 (by decide +kernel)) rfl
theorem qy_yX5_kindOf : Cond.static yX5_kindOf ∈ BIG := big_of (tb_4 94 (by decide +kernel)) rfl
theorem qy_yX5_has : Cond.static yX5_has ∈ BIG := big_of (tb_4 121 (by decide +kernel)) rfl
theorem qy_yX5_doesBy : Cond.static yX5_doesBy ∈ BIG := big_of (tb_4 132 (by decide +kernel)) rfl
theorem qy_yX5_bitsOf : Cond.static yX5_bitsOf ∈ BIG := big_of (tb_4 151 (by decide +kernel)) rfl
theorem qy_yX5_isLine : Cond.static yX5_isLine ∈ BIG := big_of (tb_4 158 (by decide +kernel)) rfl
theorem qy_yX5_flipped : Cond.static yX5_flipped ∈ BIG := big_of (tb_4 173 (by decide +kernel)) rfl
theorem qs_yX2_make : Cond.selects RX2 yX2_make yX2_make ∈ BIG := big_of (tb_1 131 (by decide +kernel)) rfl
theorem qs_yX4_row : Cond.selects RX4 yX4_row yX4_row ∈ BIG := big_of (tb_1 184 (by decide +kernel)) rfl
theorem qs_yX4_lay : Cond.selects RX4 yX4_lay yX4_lay ∈ BIG := big_of (tb_1 193 (by decide +kernel)) rfl
theorem qs_yX2_has : Cond.selects RX2 yX2_has yX2_has ∈ BIG := big_of (tb_1 205 (by decide +kernel)) rfl
theorem qs_yX2_size : Cond.selects RX2 yX2_size yX2_size ∈ BIG := big_of (tb_1 209 (by decide +kernel)) rfl
theorem qs_yX2_get : Cond.selects RX2 yX2_get yX2_get ∈ BIG := big_of (tb_1 214 (by decide +kernel)) rfl
theorem qs_yX2_set : Cond.selects RX2 yX2_set yX2_set ∈ BIG := big_of (tb_1 218 (by decide +kernel)) rfl
theorem qs_yX4_at : Cond.selects RX4 yX4_at yX4_at ∈ BIG := big_of (tb_1 222 (by decide +kernel)) rfl
theorem qs_yX4_tear : Cond.selects RX4 yX4_tear yX4_tear ∈ BIG := big_of (tb_1 226 (by decide +kernel)) rfl
theorem qs_yX2_remove : Cond.selects RX2 yX2_remove yX2_remove ∈ BIG := big_of (tb_1 230 (by decide +kernel)) rfl
theorem qs_yX4_copy : Cond.selects RX4 yX4_copy yX4_copy ∈ BIG := big_of (tb_1 234 (by decide +kernel)) rfl
theorem qs_yX2_reaches : Cond.selects RX2 yX2_reaches yX2_reaches ∈ BIG := big_of (tb_1 238 (by decide +kernel)) rfl
theorem qs_yX2_move : Cond.selects RX2 yX2_move yX2_move ∈ BIG := big_of (tb_2 2 (by decide +kernel)) rfl
theorem qs_yX4_mean : Cond.selects RX4 yX4_mean yX4_mean ∈ BIG := big_of (tb_2 10 (by decide +kernel)) rfl
theorem qs_yX2_sum : Cond.selects RX2 yX2_sum yX2_sum ∈ BIG := big_of (tb_2 14 (by decide +kernel)) rfl
theorem qs_yX4_text : Cond.selects RX4 yX4_text yX4_text ∈ BIG := big_of (tb_2 19 (by decide +kernel)) rfl
theorem qs_yX4_put : Cond.selects RX4 yX4_put yX4_put ∈ BIG := big_of (tb_2 23 (by decide +kernel)) rfl
theorem qs_yX4_fault : Cond.selects RX4 yX4_fault yX4_fault ∈ BIG := big_of (tb_2 27 (by decide +kernel)) rfl
theorem qs_yX0_readFrom : Cond.selects RX0 yX0_readFrom yX0_readFrom ∈ BIG := big_of (tb_2 31 (by decide +kernel)) rfl
theorem qs_yX0_keyAt : Cond.selects RX0 yX0_keyAt yX0_keyAt ∈ BIG := big_of (tb_2 53 (by decide +kernel)) rfl
theorem qs_yX4_board : Cond.selects RX4 yX4_board yX4_board ∈ BIG := big_of (tb_2 57 (by decide +kernel)) rfl
theorem qs_yX0_copyFrom : Cond.selects RX0 yX0_copyFrom yX0_copyFrom ∈ BIG := big_of (tb_2 61 (by decide +kernel)) rfl
theorem qs_yX1_reset : Cond.selects RX1 yX1_reset yX1_reset ∈ BIG := big_of (tb_2 65 (by decide +kernel)) rfl
theorem qs_yX4_key : Cond.selects RX4 yX4_key yX4_key ∈ BIG := big_of (tb_2 69 (by decide +kernel)) rfl
theorem qs_yX0_has : Cond.selects RX0 yX0_has yX0_has ∈ BIG := big_of (tb_2 73 (by decide +kernel)) rfl
theorem qs_yX0_kindOf : Cond.selects RX0 yX0_kindOf yX0_kindOf ∈ BIG := big_of (tb_2 81 (by decide +kernel)) rfl
theorem qs_yX0_lineOf : Cond.selects RX0 yX0_lineOf yX0_lineOf ∈ BIG := big_of (tb_2 86 (by decide +kernel)) rfl
theorem qs_yX0_columnOf : Cond.selects RX0 yX0_columnOf yX0_columnOf ∈ BIG := big_of (tb_2 90 (by decide +kernel)) rfl
theorem qs_yX0_delayOf : Cond.selects RX0 yX0_delayOf yX0_delayOf ∈ BIG := big_of (tb_2 94 (by decide +kernel)) rfl
theorem qs_yX1_heldFor : Cond.selects RX1 yX1_heldFor yX1_heldFor ∈ BIG := big_of (tb_2 98 (by decide +kernel)) rfl
theorem qs_yX0_conducts : Cond.selects RX0 yX0_conducts yX0_conducts ∈ BIG := big_of (tb_2 102 (by decide +kernel)) rfl
theorem qs_yX3_attach : Cond.selects RX3 yX3_attach yX3_attach ∈ BIG := big_of (tb_2 118 (by decide +kernel)) rfl
theorem qs_yX3_toldOf : Cond.selects RX3 yX3_toldOf yX3_toldOf ∈ BIG := big_of (tb_2 129 (by decide +kernel)) rfl
theorem qs_yX4_mark : Cond.selects RX4 yX4_mark yX4_mark ∈ BIG := big_of (tb_2 142 (by decide +kernel)) rfl
theorem qs_yX0_turnInto : Cond.selects RX0 yX0_turnInto yX0_turnInto ∈ BIG := big_of (tb_2 151 (by decide +kernel)) rfl
theorem qs_yX1_copyFrom : Cond.selects RX1 yX1_copyFrom yX1_copyFrom ∈ BIG := big_of (tb_2 165 (by decide +kernel)) rfl
theorem qs_yX1_passScan : Cond.selects RX1 yX1_passScan yX1_passScan ∈ BIG := big_of (tb_2 169 (by decide +kernel)) rfl
theorem qs_yX4_reads : Cond.selects RX4 yX4_reads yX4_reads ∈ BIG := big_of (tb_2 178 (by decide +kernel)) rfl
theorem qs_yX3_columnsReadBy : Cond.selects RX3 yX3_columnsReadBy yX3_columnsReadBy ∈ BIG := big_of (tb_2 182 (by decide +kernel)) rfl
theorem qs_yX4_press : Cond.selects RX4 yX4_press yX4_press ∈ BIG := big_of (tb_2 186 (by decide +kernel)) rfl
theorem qs_yX2_add : Cond.selects RX2 yX2_add yX2_add ∈ BIG := big_of (tb_2 198 (by decide +kernel)) rfl
theorem qs_yX1_undergo : Cond.selects RX1 yX1_undergo yX1_undergo ∈ BIG := big_of (tb_2 202 (by decide +kernel)) rfl
theorem qs_yX4_scan : Cond.selects RX4 yX4_scan yX4_scan ∈ BIG := big_of (tb_2 208 (by decide +kernel)) rfl
theorem qs_yX4_cut : Cond.selects RX4 yX4_cut yX4_cut ∈ BIG := big_of (tb_2 212 (by decide +kernel)) rfl
theorem qs_yX4_undo : Cond.selects RX4 yX4_undo yX4_undo ∈ BIG := big_of (tb_2 216 (by decide +kernel)) rfl
theorem qs_yX2_shorten : Cond.selects RX2 yX2_shorten yX2_shorten ∈ BIG := big_of (tb_2 220 (by decide +kernel)) rfl
theorem qs_yX4_keep : Cond.selects RX4 yX4_keep yX4_keep ∈ BIG := big_of (tb_2 228 (by decide +kernel)) rfl
theorem qs_yX2_moveAll : Cond.selects RX2 yX2_moveAll yX2_moveAll ∈ BIG := big_of (tb_2 232 (by decide +kernel)) rfl
theorem qs_yX4_on : Cond.selects RX4 yX4_on yX4_on ∈ BIG := big_of (tb_2 238 (by decide +kernel)) rfl
theorem qs_yX4_told : Cond.selects RX4 yX4_told yX4_told ∈ BIG := big_of (tb_3 2 (by decide +kernel)) rfl
theorem qs_yX4_ghosts : Cond.selects RX4 yX4_ghosts yX4_ghosts ∈ BIG := big_of (tb_3 6 (by decide +kernel)) rfl
theorem qs_yX4_later : Cond.selects RX4 yX4_later yX4_later ∈ BIG := big_of (tb_3 10 (by decide +kernel)) rfl
theorem qs_yX4_would : Cond.selects RX4 yX4_would yX4_would ∈ BIG := big_of (tb_3 18 (by decide +kernel)) rfl
theorem qs_yX0_sets : Cond.selects RX0 yX0_sets yX0_sets ∈ BIG := big_of (tb_3 22 (by decide +kernel)) rfl
theorem qs_yX4_haunts : Cond.selects RX4 yX4_haunts yX4_haunts ∈ BIG := big_of (tb_3 27 (by decide +kernel)) rfl
theorem qs_yX4_right : Cond.selects RX4 yX4_right yX4_right ∈ BIG := big_of (tb_3 32 (by decide +kernel)) rfl
theorem qs_yX4_alike : Cond.selects RX4 yX4_alike yX4_alike ∈ BIG := big_of (tb_3 41 (by decide +kernel)) rfl
theorem qs_yX4_best : Cond.selects RX4 yX4_best yX4_best ∈ BIG := big_of (tb_3 45 (by decide +kernel)) rfl
theorem qs_yX4_kinds : Cond.selects RX4 yX4_kinds yX4_kinds ∈ BIG := big_of (tb_3 53 (by decide +kernel)) rfl
theorem qs_yX4_places : Cond.selects RX4 yX4_places yX4_places ∈ BIG := big_of (tb_3 69 (by decide +kernel)) rfl
theorem qs_yX0_seat : Cond.selects RX0 yX0_seat yX0_seat ∈ BIG := big_of (tb_3 74 (by decide +kernel)) rfl
theorem qs_yX4_test : Cond.selects RX4 yX4_test yX4_test ∈ BIG := big_of (tb_3 78 (by decide +kernel)) rfl
theorem qs_yX4_duel : Cond.selects RX4 yX4_duel yX4_duel ∈ BIG := big_of (tb_3 90 (by decide +kernel)) rfl
theorem qs_yX4_odds : Cond.selects RX4 yX4_odds yX4_odds ∈ BIG := big_of (tb_3 106 (by decide +kernel)) rfl
theorem qs_yX4_mid : Cond.selects RX4 yX4_mid yX4_mid ∈ BIG := big_of (tb_3 126 (by decide +kernel)) rfl
theorem qs_yX4_lots : Cond.selects RX4 yX4_lots yX4_lots ∈ BIG := big_of (tb_3 130 (by decide +kernel)) rfl
theorem qs_yX4_asked : Cond.selects RX4 yX4_asked yX4_asked ∈ BIG := big_of (tb_3 143 (by decide +kernel)) rfl
theorem qs_yX4_upper : Cond.selects RX4 yX4_upper yX4_upper ∈ BIG := big_of (tb_3 147 (by decide +kernel)) rfl
theorem qs_yX4_lower : Cond.selects RX4 yX4_lower yX4_lower ∈ BIG := big_of (tb_3 151 (by decide +kernel)) rfl
theorem qs_yX4_count : Cond.selects RX4 yX4_count yX4_count ∈ BIG := big_of (tb_3 155 (by decide +kernel)) rfl
theorem qs_yX2_howMany : Cond.selects RX2 yX2_howMany yX2_howMany ∈ BIG := big_of (tb_3 159 (by decide +kernel)) rfl
theorem qs_yX0_howManyOf : Cond.selects RX0 yX0_howManyOf yX0_howManyOf ∈ BIG := big_of (tb_3 164 (by decide +kernel)) rfl
theorem qs_yX4_finding : Cond.selects RX4 yX4_finding yX4_finding ∈ BIG := big_of (tb_3 169 (by decide +kernel)) rfl
theorem qs_yX4_findings : Cond.selects RX4 yX4_findings yX4_findings ∈ BIG := big_of (tb_3 173 (by decide +kernel)) rfl
theorem qs_yX4_digest : Cond.selects RX4 yX4_digest yX4_digest ∈ BIG := big_of (tb_3 177 (by decide +kernel)) rfl
theorem qs_yX2_mixInto : Cond.selects RX2 yX2_mixInto yX2_mixInto ∈ BIG := big_of (tb_3 184 (by decide +kernel)) rfl
theorem qs_yX5_row : Cond.selects RX5 yX5_row yX5_row ∈ BIG := big_of (tb_4 38 (by decide +kernel)) rfl
theorem qs_yX5_lay : Cond.selects RX5 yX5_lay yX5_lay ∈ BIG := big_of (tb_4 52 (by decide +kernel)) rfl
theorem qs_yX5_at : Cond.selects RX5 yX5_at yX5_at ∈ BIG := big_of (tb_4 60 (by decide +kernel)) rfl
theorem qs_yX5_tear : Cond.selects RX5 yX5_tear yX5_tear ∈ BIG := big_of (tb_4 64 (by decide +kernel)) rfl
theorem qs_yX5_copy : Cond.selects RX5 yX5_copy yX5_copy ∈ BIG := big_of (tb_4 68 (by decide +kernel)) rfl
theorem qs_yX5_mean : Cond.selects RX5 yX5_mean yX5_mean ∈ BIG := big_of (tb_4 72 (by decide +kernel)) rfl
theorem qs_yX5_text : Cond.selects RX5 yX5_text yX5_text ∈ BIG := big_of (tb_4 76 (by decide +kernel)) rfl
theorem qs_yX5_put : Cond.selects RX5 yX5_put yX5_put ∈ BIG := big_of (tb_4 83 (by decide +kernel)) rfl
theorem qs_yX5_fault : Cond.selects RX5 yX5_fault yX5_fault ∈ BIG := big_of (tb_4 87 (by decide +kernel)) rfl
theorem qs_yX5_board : Cond.selects RX5 yX5_board yX5_board ∈ BIG := big_of (tb_4 102 (by decide +kernel)) rfl
theorem qs_yX5_key : Cond.selects RX5 yX5_key yX5_key ∈ BIG := big_of (tb_4 106 (by decide +kernel)) rfl
theorem qs_yX5_mark : Cond.selects RX5 yX5_mark yX5_mark ∈ BIG := big_of (tb_4 148 (by decide +kernel)) rfl
theorem qs_yX5_reads : Cond.selects RX5 yX5_reads yX5_reads ∈ BIG := big_of (tb_4 155 (by decide +kernel)) rfl
theorem qs_yX5_press : Cond.selects RX5 yX5_press yX5_press ∈ BIG := big_of (tb_4 162 (by decide +kernel)) rfl
theorem qs_yX5_scan : Cond.selects RX5 yX5_scan yX5_scan ∈ BIG := big_of (tb_4 177 (by decide +kernel)) rfl
theorem qs_yX5_cut : Cond.selects RX5 yX5_cut yX5_cut ∈ BIG := big_of (tb_4 185 (by decide +kernel)) rfl
theorem qs_yX5_undo : Cond.selects RX5 yX5_undo yX5_undo ∈ BIG := big_of (tb_4 189 (by decide +kernel)) rfl
theorem qs_yX5_keep : Cond.selects RX5 yX5_keep yX5_keep ∈ BIG := big_of (tb_4 193 (by decide +kernel)) rfl
theorem qs_yX5_on : Cond.selects RX5 yX5_on yX5_on ∈ BIG := big_of (tb_4 197 (by decide +kernel)) rfl
theorem qs_yX5_told : Cond.selects RX5 yX5_told yX5_told ∈ BIG := big_of (tb_4 201 (by decide +kernel)) rfl
theorem qs_yX5_ghosts : Cond.selects RX5 yX5_ghosts yX5_ghosts ∈ BIG := big_of (tb_4 205 (by decide +kernel)) rfl
theorem qs_yX5_later : Cond.selects RX5 yX5_later yX5_later ∈ BIG := big_of (tb_4 209 (by decide +kernel)) rfl
theorem qs_yX5_would : Cond.selects RX5 yX5_would yX5_would ∈ BIG := big_of (tb_4 213 (by decide +kernel)) rfl
theorem qs_yX5_haunts : Cond.selects RX5 yX5_haunts yX5_haunts ∈ BIG := big_of (tb_4 225 (by decide +kernel)) rfl
theorem qs_yX5_right : Cond.selects RX5 yX5_right yX5_right ∈ BIG := big_of (tb_4 229 (by decide +kernel)) rfl
theorem qs_yX5_alike : Cond.selects RX5 yX5_alike yX5_alike ∈ BIG := big_of (tb_4 237 (by decide +kernel)) rfl
theorem qs_yX5_best : Cond.selects RX5 yX5_best yX5_best ∈ BIG := big_of (tb_5 1 (by decide +kernel)) rfl
theorem qs_yX5_kinds : Cond.selects RX5 yX5_kinds yX5_kinds ∈ BIG := big_of (tb_5 5 (by decide +kernel)) rfl
theorem qs_yX5_places : Cond.selects RX5 yX5_places yX5_places ∈ BIG := big_of (tb_5 21 (by decide +kernel)) rfl
theorem qs_yX5_test : Cond.selects RX5 yX5_test yX5_test ∈ BIG := big_of (tb_5 29 (by decide +kernel)) rfl
theorem qs_yX5_duel : Cond.selects RX5 yX5_duel yX5_duel ∈ BIG := big_of (tb_5 33 (by decide +kernel)) rfl
theorem qs_yX5_odds : Cond.selects RX5 yX5_odds yX5_odds ∈ BIG := big_of (tb_5 37 (by decide +kernel)) rfl
theorem qs_yX5_mid : Cond.selects RX5 yX5_mid yX5_mid ∈ BIG := big_of (tb_5 54 (by decide +kernel)) rfl
theorem qs_yX5_lots : Cond.selects RX5 yX5_lots yX5_lots ∈ BIG := big_of (tb_5 58 (by decide +kernel)) rfl
theorem qs_yX5_asked : Cond.selects RX5 yX5_asked yX5_asked ∈ BIG := big_of (tb_5 67 (by decide +kernel)) rfl
theorem qs_yX5_upper : Cond.selects RX5 yX5_upper yX5_upper ∈ BIG := big_of (tb_5 71 (by decide +kernel)) rfl
theorem qs_yX5_lower : Cond.selects RX5 yX5_lower yX5_lower ∈ BIG := big_of (tb_5 75 (by decide +kernel)) rfl
theorem qs_yX5_count : Cond.selects RX5 yX5_count yX5_count ∈ BIG := big_of (tb_5 79 (by decide +kernel)) rfl
theorem qs_yX5_finding : Cond.selects RX5 yX5_finding yX5_finding ∈ BIG := big_of (tb_5 91 (by decide +kernel)) rfl
theorem qs_yX5_findings : Cond.selects RX5 yX5_findings yX5_findings ∈ BIG := big_of (tb_5 95 (by decide +kernel)) rfl
theorem qs_yX5_digest : Cond.selects RX5 yX5_digest yX5_digest ∈ BIG := big_of (tb_5 99 (by decide +kernel)) rfl
theorem qs_yX4_found : Cond.selects RX4 yX4_found yX4_found ∈ BIG := bs_mem (q := (yX4_found, 15)) (List.mem_of_getElem? (i := 0) rfl)
theorem qs_yX4_refusePlace : Cond.selects RX4 yX4_refusePlace yX4_refusePlace ∈ BIG := bs_mem (q := (yX4_refusePlace, 15)) (List.mem_of_getElem? (i := 1) rfl)
theorem qs_yX4_refuseShelfPlace : Cond.selects RX4 yX4_refuseShelfPlace yX4_refuseShelfPlace ∈ BIG := bs_mem (q := (yX4_refuseShelfPlace, 15)) (List.mem_of_getElem? (i := 2) rfl)
theorem qs_yX0_rightSigns : Cond.selects RX0 yX0_rightSigns yX0_rightSigns ∈ BIG := bs_mem (q := (yX0_rightSigns, 5)) (List.mem_of_getElem? (i := 3) rfl)
theorem qs_yX4_keyFact : Cond.selects RX4 yX4_keyFact yX4_keyFact ∈ BIG := bs_mem (q := (yX4_keyFact, 15)) (List.mem_of_getElem? (i := 4) rfl)
theorem qs_yX4_toldNow : Cond.selects RX4 yX4_toldNow yX4_toldNow ∈ BIG := bs_mem (q := (yX4_toldNow, 15)) (List.mem_of_getElem? (i := 5) rfl)
theorem qs_yX4_toldAt : Cond.selects RX4 yX4_toldAt yX4_toldAt ∈ BIG := bs_mem (q := (yX4_toldAt, 15)) (List.mem_of_getElem? (i := 6) rfl)
theorem qs_yX3_connect : Cond.selects RX3 yX3_connect yX3_connect ∈ BIG := bs_mem (q := (yX3_connect, 9)) (List.mem_of_getElem? (i := 7) rfl)
theorem qs_yX3_columnsFrom : Cond.selects RX3 yX3_columnsFrom yX3_columnsFrom ∈ BIG := bs_mem (q := (yX3_columnsFrom, 9)) (List.mem_of_getElem? (i := 8) rfl)
theorem qs_yX4_toldWerePlain : Cond.selects RX4 yX4_toldWerePlain yX4_toldWerePlain ∈ BIG := bs_mem (q := (yX4_toldWerePlain, 15)) (List.mem_of_getElem? (i := 9) rfl)
theorem qs_yX4_scansConducting : Cond.selects RX4 yX4_scansConducting yX4_scansConducting ∈ BIG := bs_mem (q := (yX4_scansConducting, 15)) (List.mem_of_getElem? (i := 10) rfl)
theorem qs_yX4_hasNoRoomFor : Cond.selects RX4 yX4_hasNoRoomFor yX4_hasNoRoomFor ∈ BIG := bs_mem (q := (yX4_hasNoRoomFor, 15)) (List.mem_of_getElem? (i := 11) rfl)
theorem qs_yX4_perform : Cond.selects RX4 yX4_perform yX4_perform ∈ BIG := bs_mem (q := (yX4_perform, 15)) (List.mem_of_getElem? (i := 12) rfl)
theorem qs_yX4_replay : Cond.selects RX4 yX4_replay yX4_replay ∈ BIG := bs_mem (q := (yX4_replay, 15)) (List.mem_of_getElem? (i := 13) rfl)
theorem qs_yX4_isAmongFirst : Cond.selects RX4 yX4_isAmongFirst yX4_isAmongFirst ∈ BIG := bs_mem (q := (yX4_isAmongFirst, 15)) (List.mem_of_getElem? (i := 14) rfl)
theorem qs_yX4_fillBySet : Cond.selects RX4 yX4_fillBySet yX4_fillBySet ∈ BIG := bs_mem (q := (yX4_fillBySet, 15)) (List.mem_of_getElem? (i := 15) rfl)
theorem qs_yX4_rightSetsOf : Cond.selects RX4 yX4_rightSetsOf yX4_rightSetsOf ∈ BIG := bs_mem (q := (yX4_rightSetsOf, 15)) (List.mem_of_getElem? (i := 16) rfl)
theorem qs_yX4_refusePairs : Cond.selects RX4 yX4_refusePairs yX4_refusePairs ∈ BIG := bs_mem (q := (yX4_refusePairs, 15)) (List.mem_of_getElem? (i := 17) rfl)
theorem qs_yX4_kindsThatFit : Cond.selects RX4 yX4_kindsThatFit yX4_kindsThatFit ∈ BIG := bs_mem (q := (yX4_kindsThatFit, 15)) (List.mem_of_getElem? (i := 18) rfl)
theorem qs_yX4_fits : Cond.selects RX4 yX4_fits yX4_fits ∈ BIG := bs_mem (q := (yX4_fits, 15)) (List.mem_of_getElem? (i := 19) rfl)
theorem qs_yX4_fillByKind : Cond.selects RX4 yX4_fillByKind yX4_fillByKind ∈ BIG := bs_mem (q := (yX4_fillByKind, 15)) (List.mem_of_getElem? (i := 20) rfl)
theorem qs_yX4_greatestPart : Cond.selects RX4 yX4_greatestPart yX4_greatestPart ∈ BIG := bs_mem (q := (yX4_greatestPart, 15)) (List.mem_of_getElem? (i := 21) rfl)
theorem qs_yX4_ghostsOf : Cond.selects RX4 yX4_ghostsOf yX4_ghostsOf ∈ BIG := bs_mem (q := (yX4_ghostsOf, 15)) (List.mem_of_getElem? (i := 22) rfl)
theorem qs_yX4_valueOf : Cond.selects RX4 yX4_valueOf yX4_valueOf ∈ BIG := bs_mem (q := (yX4_valueOf, 15)) (List.mem_of_getElem? (i := 23) rfl)
theorem qs_yX4_takeBackTurn : Cond.selects RX4 yX4_takeBackTurn yX4_takeBackTurn ∈ BIG := bs_mem (q := (yX4_takeBackTurn, 15)) (List.mem_of_getElem? (i := 24) rfl)
theorem qs_yX4_refuseChance : Cond.selects RX4 yX4_refuseChance yX4_refuseChance ∈ BIG := bs_mem (q := (yX4_refuseChance, 15)) (List.mem_of_getElem? (i := 25) rfl)
theorem qs_yX4_weight : Cond.selects RX4 yX4_weight yX4_weight ∈ BIG := bs_mem (q := (yX4_weight, 15)) (List.mem_of_getElem? (i := 26) rfl)
theorem qs_yX4_tellFraction : Cond.selects RX4 yX4_tellFraction yX4_tellFraction ∈ BIG := bs_mem (q := (yX4_tellFraction, 15)) (List.mem_of_getElem? (i := 27) rfl)
theorem qs_yX4_deedByLot : Cond.selects RX4 yX4_deedByLot yX4_deedByLot ∈ BIG := bs_mem (q := (yX4_deedByLot, 15)) (List.mem_of_getElem? (i := 28) rfl)
theorem qs_yX5_find : Cond.selects RX5 yX5_find yX5_find ∈ BIG := bs_mem (q := (yX5_find, 27)) (List.mem_of_getElem? (i := 29) rfl)
theorem qs_yX5_tellAsked : Cond.selects RX5 yX5_tellAsked yX5_tellAsked ∈ BIG := bs_mem (q := (yX5_tellAsked, 27)) (List.mem_of_getElem? (i := 30) rfl)
theorem qs_yX5_read : Cond.selects RX5 yX5_read yX5_read ∈ BIG := bs_mem (q := (yX5_read, 27)) (List.mem_of_getElem? (i := 31) rfl)
theorem qs_yX5_figure : Cond.selects RX5 yX5_figure yX5_figure ∈ BIG := bs_mem (q := (yX5_figure, 27)) (List.mem_of_getElem? (i := 32) rfl)
theorem qs_yX5_isKey : Cond.selects RX5 yX5_isKey yX5_isKey ∈ BIG := bs_mem (q := (yX5_isKey, 27)) (List.mem_of_getElem? (i := 33) rfl)
theorem qs_yX5_factOf : Cond.selects RX5 yX5_factOf yX5_factOf ∈ BIG := bs_mem (q := (yX5_factOf, 27)) (List.mem_of_getElem? (i := 34) rfl)
theorem qs_yX5_now : Cond.selects RX5 yX5_now yX5_now ∈ BIG := bs_mem (q := (yX5_now, 27)) (List.mem_of_getElem? (i := 35) rfl)
theorem qs_yX5_take : Cond.selects RX5 yX5_take yX5_take ∈ BIG := bs_mem (q := (yX5_take, 27)) (List.mem_of_getElem? (i := 36) rfl)
theorem qs_yX5_conducts : Cond.selects RX5 yX5_conducts yX5_conducts ∈ BIG := bs_mem (q := (yX5_conducts, 27)) (List.mem_of_getElem? (i := 37) rfl)
theorem qs_yX5_toldNow : Cond.selects RX5 yX5_toldNow yX5_toldNow ∈ BIG := bs_mem (q := (yX5_toldNow, 27)) (List.mem_of_getElem? (i := 38) rfl)
theorem qs_yX5_toldBy : Cond.selects RX5 yX5_toldBy yX5_toldBy ∈ BIG := bs_mem (q := (yX5_toldBy, 27)) (List.mem_of_getElem? (i := 39) rfl)
theorem qs_yX5_readBy : Cond.selects RX5 yX5_readBy yX5_readBy ∈ BIG := bs_mem (q := (yX5_readBy, 27)) (List.mem_of_getElem? (i := 40) rfl)
theorem qs_yX5_begin : Cond.selects RX5 yX5_begin yX5_begin ∈ BIG := bs_mem (q := (yX5_begin, 27)) (List.mem_of_getElem? (i := 41) rfl)
theorem qs_yX5_pressNow : Cond.selects RX5 yX5_pressNow yX5_pressNow ∈ BIG := bs_mem (q := (yX5_pressNow, 27)) (List.mem_of_getElem? (i := 42) rfl)
theorem qs_yX5_passOn : Cond.selects RX5 yX5_passOn yX5_passOn ∈ BIG := bs_mem (q := (yX5_passOn, 27)) (List.mem_of_getElem? (i := 43) rfl)
theorem qs_yX5_isSet : Cond.selects RX5 yX5_isSet yX5_isSet ∈ BIG := bs_mem (q := (yX5_isSet, 27)) (List.mem_of_getElem? (i := 44) rfl)
theorem qs_yX5_toldOf : Cond.selects RX5 yX5_toldOf yX5_toldOf ∈ BIG := bs_mem (q := (yX5_toldOf, 27)) (List.mem_of_getElem? (i := 45) rfl)
theorem qs_yX5_rightSets : Cond.selects RX5 yX5_rightSets yX5_rightSets ∈ BIG := bs_mem (q := (yX5_rightSets, 27)) (List.mem_of_getElem? (i := 46) rfl)
theorem qs_yX5_pairs : Cond.selects RX5 yX5_pairs yX5_pairs ∈ BIG := bs_mem (q := (yX5_pairs, 27)) (List.mem_of_getElem? (i := 47) rfl)
theorem qs_yX5_kindsBy : Cond.selects RX5 yX5_kindsBy yX5_kindsBy ∈ BIG := bs_mem (q := (yX5_kindsBy, 27)) (List.mem_of_getElem? (i := 48) rfl)
theorem qs_yX5_isSo : Cond.selects RX5 yX5_isSo yX5_isSo ∈ BIG := bs_mem (q := (yX5_isSo, 27)) (List.mem_of_getElem? (i := 49) rfl)
theorem qs_yX5_isFree : Cond.selects RX5 yX5_isFree yX5_isFree ∈ BIG := bs_mem (q := (yX5_isFree, 27)) (List.mem_of_getElem? (i := 50) rfl)
theorem qs_yX5_waysOf : Cond.selects RX5 yX5_waysOf yX5_waysOf ∈ BIG := bs_mem (q := (yX5_waysOf, 27)) (List.mem_of_getElem? (i := 51) rfl)
theorem qs_yX5_allWays : Cond.selects RX5 yX5_allWays yX5_allWays ∈ BIG := bs_mem (q := (yX5_allWays, 27)) (List.mem_of_getElem? (i := 52) rfl)
theorem qs_yX5_fraction : Cond.selects RX5 yX5_fraction yX5_fraction ∈ BIG := bs_mem (q := (yX5_fraction, 27)) (List.mem_of_getElem? (i := 53) rfl)
theorem qs_yX5_thereAre : Cond.selects RX5 yX5_thereAre yX5_thereAre ∈ BIG := bs_mem (q := (yX5_thereAre, 27)) (List.mem_of_getElem? (i := 54) rfl)
theorem qs_yX5_ofKinds : Cond.selects RX5 yX5_ofKinds yX5_ofKinds ∈ BIG := bs_mem (q := (yX5_ofKinds, 27)) (List.mem_of_getElem? (i := 55) rfl)
theorem qc_yX4_init : Cond.code yX4_init cX4_init 1 none ∈ BIG := big_of (tb_1 14 (by decide +kernel)) rfl
theorem qc_objectInit : Cond.code objectInit ⟨#[0xb1]⟩ 1 none ∈ BIG := big_of (tb_1 17 (by decide +kernel)) rfl
theorem qc_yX2_init : Cond.code yX2_init cX2_init 4 none ∈ BIG := big_of (tb_1 22 (by decide +kernel)) rfl
theorem qc_max : Cond.code Lib.Math.max.name Lib.Math.max.code 2 (some .int) ∈ BIG := big_of (tb_1 26 (by decide +kernel)) rfl
theorem qc_yX0_init : Cond.code yX0_init cX0_init 1 none ∈ BIG := big_of (tb_1 46 (by decide +kernel)) rfl
theorem qc_yX1_init : Cond.code yX1_init cX1_init 1 none ∈ BIG := big_of (tb_1 73 (by decide +kernel)) rfl
theorem qc_yX3_init : Cond.code yX3_init cX3_init 1 none ∈ BIG := big_of (tb_1 97 (by decide +kernel)) rfl
theorem qc_yX2_make : Cond.code yX2_make cX2_make 5 none ∈ BIG := big_of (tb_1 132 (by decide +kernel)) rfl
theorem qc_yX4_within : Cond.code yX4_within cX4_within 2 (some .boolean) ∈ BIG := big_of (tb_1 135 (by decide +kernel)) rfl
theorem qc_yX4_row : Cond.code yX4_row cX4_row 3 (some .int) ∈ BIG := big_of (tb_1 185 (by decide +kernel)) rfl
theorem qc_yX4_found : Cond.code yX4_found cX4_found 2 (some .int) ∈ BIG := big_of (tb_1 190 (by decide +kernel)) rfl
theorem qc_yX4_lay : Cond.code yX4_lay cX4_lay 5 (some .int) ∈ BIG := big_of (tb_1 194 (by decide +kernel)) rfl
theorem qc_yX4_refusePlace : Cond.code yX4_refusePlace cX4_refusePlace 5 (some .int) ∈ BIG := big_of (tb_1 198 (by decide +kernel)) rfl
theorem qc_yX4_refuseShelfPlace : Cond.code yX4_refuseShelfPlace cX4_refuseShelfPlace 3 (some .int) ∈ BIG := big_of (tb_1 202 (by decide +kernel)) rfl
theorem qc_yX2_has : Cond.code yX2_has cX2_has 2 (some .boolean) ∈ BIG := big_of (tb_1 206 (by decide +kernel)) rfl
theorem qc_yX2_size : Cond.code yX2_size cX2_size 2 (some .int) ∈ BIG := big_of (tb_1 210 (by decide +kernel)) rfl
theorem qc_yX2_get : Cond.code yX2_get cX2_get 3 (some .int) ∈ BIG := big_of (tb_1 215 (by decide +kernel)) rfl
theorem qc_yX2_set : Cond.code yX2_set cX2_set 4 none ∈ BIG := big_of (tb_1 219 (by decide +kernel)) rfl
theorem qc_yX4_at : Cond.code yX4_at cX4_at 4 (some .int) ∈ BIG := big_of (tb_1 223 (by decide +kernel)) rfl
theorem qc_yX4_tear : Cond.code yX4_tear cX4_tear 3 (some .int) ∈ BIG := big_of (tb_1 227 (by decide +kernel)) rfl
theorem qc_yX2_remove : Cond.code yX2_remove cX2_remove 2 none ∈ BIG := big_of (tb_1 231 (by decide +kernel)) rfl
theorem qc_yX4_copy : Cond.code yX4_copy cX4_copy 6 (some .int) ∈ BIG := big_of (tb_1 235 (by decide +kernel)) rfl
theorem qc_yX2_reaches : Cond.code yX2_reaches cX2_reaches 4 (some .boolean) ∈ BIG := big_of (tb_1 239 (by decide +kernel)) rfl
theorem qc_yX2_move : Cond.code yX2_move cX2_move 6 none ∈ BIG := big_of (tb_2 3 (by decide +kernel)) rfl
theorem qc_yX4_mean : Cond.code yX4_mean cX4_mean 4 (some .int) ∈ BIG := big_of (tb_2 11 (by decide +kernel)) rfl
theorem qc_yX2_sum : Cond.code yX2_sum cX2_sum 6 (some .long) ∈ BIG := big_of (tb_2 15 (by decide +kernel)) rfl
theorem qc_yX4_text : Cond.code yX4_text cX4_text 3 (some .int) ∈ BIG := big_of (tb_2 20 (by decide +kernel)) rfl
theorem qc_yX4_put : Cond.code yX4_put cX4_put 6 (some .int) ∈ BIG := big_of (tb_2 24 (by decide +kernel)) rfl
theorem qc_yX4_fault : Cond.code yX4_fault cX4_fault 3 (some .int) ∈ BIG := big_of (tb_2 28 (by decide +kernel)) rfl
theorem qc_yX0_readFrom : Cond.code yX0_readFrom cX0_readFrom 7 (some .int) ∈ BIG := big_of (tb_2 32 (by decide +kernel)) rfl
theorem qc_yX0_behindBlanks : Cond.code yX0_behindBlanks cX0_behindBlanks 5 (some .int) ∈ BIG := big_of (tb_2 36 (by decide +kernel)) rfl
theorem qc_yX0_rightSigns : Cond.code yX0_rightSigns cX0_rightSigns 8 (some .int) ∈ BIG := big_of (tb_2 41 (by decide +kernel)) rfl
theorem qc_yX0_kindOfLetter : Cond.code yX0_kindOfLetter cX0_kindOfLetter 2 (some .int) ∈ BIG := big_of (tb_2 44 (by decide +kernel)) rfl
theorem qc_yX0_figure : Cond.code yX0_figure cX0_figure 2 (some .int) ∈ BIG := big_of (tb_2 49 (by decide +kernel)) rfl
theorem qc_yX0_keyAt : Cond.code yX0_keyAt cX0_keyAt 4 (some .int) ∈ BIG := big_of (tb_2 54 (by decide +kernel)) rfl
theorem qc_yX4_board : Cond.code yX4_board cX4_board 4 (some .int) ∈ BIG := big_of (tb_2 58 (by decide +kernel)) rfl
theorem qc_yX0_copyFrom : Cond.code yX0_copyFrom cX0_copyFrom 3 none ∈ BIG := big_of (tb_2 62 (by decide +kernel)) rfl
theorem qc_yX1_reset : Cond.code yX1_reset cX1_reset 2 none ∈ BIG := big_of (tb_2 66 (by decide +kernel)) rfl
theorem qc_yX4_key : Cond.code yX4_key cX4_key 3 (some .int) ∈ BIG := big_of (tb_2 70 (by decide +kernel)) rfl
theorem qc_yX0_has : Cond.code yX0_has cX0_has 2 (some .boolean) ∈ BIG := big_of (tb_2 74 (by decide +kernel)) rfl
theorem qc_yX4_keyFact : Cond.code yX4_keyFact cX4_keyFact 3 (some .int) ∈ BIG := big_of (tb_2 78 (by decide +kernel)) rfl
theorem qc_yX0_kindOf : Cond.code yX0_kindOf cX0_kindOf 2 (some .int) ∈ BIG := big_of (tb_2 82 (by decide +kernel)) rfl
theorem qc_yX0_lineOf : Cond.code yX0_lineOf cX0_lineOf 2 (some .int) ∈ BIG := big_of (tb_2 87 (by decide +kernel)) rfl
theorem qc_yX0_columnOf : Cond.code yX0_columnOf cX0_columnOf 2 (some .int) ∈ BIG := big_of (tb_2 91 (by decide +kernel)) rfl
theorem qc_yX0_delayOf : Cond.code yX0_delayOf cX0_delayOf 2 (some .int) ∈ BIG := big_of (tb_2 95 (by decide +kernel)) rfl
theorem qc_yX1_heldFor : Cond.code yX1_heldFor cX1_heldFor 2 (some .int) ∈ BIG := big_of (tb_2 99 (by decide +kernel)) rfl
theorem qc_yX0_conducts : Cond.code yX0_conducts cX0_conducts 6 (some .boolean) ∈ BIG := big_of (tb_2 103 (by decide +kernel)) rfl
theorem qc_yX4_holds : Cond.code yX4_holds cX4_holds 2 (some .boolean) ∈ BIG := big_of (tb_2 106 (by decide +kernel)) rfl
theorem qc_yX4_toldNow : Cond.code yX4_toldNow cX4_toldNow 1 (some .int) ∈ BIG := big_of (tb_2 111 (by decide +kernel)) rfl
theorem qc_yX4_toldAt : Cond.code yX4_toldAt cX4_toldAt 2 (some .int) ∈ BIG := big_of (tb_2 115 (by decide +kernel)) rfl
theorem qc_yX3_attach : Cond.code yX3_attach cX3_attach 6 none ∈ BIG := big_of (tb_2 119 (by decide +kernel)) rfl
theorem qc_yX4_isOf : Cond.code yX4_isOf cX4_isOf 2 (some .boolean) ∈ BIG := big_of (tb_2 124 (by decide +kernel)) rfl
theorem qc_yX3_toldOf : Cond.code yX3_toldOf cX3_toldOf 5 (some .int) ∈ BIG := big_of (tb_2 130 (by decide +kernel)) rfl
theorem qc_yX3_connect : Cond.code yX3_connect cX3_connect 5 none ∈ BIG := big_of (tb_2 134 (by decide +kernel)) rfl
theorem qc_yX3_columnsFrom : Cond.code yX3_columnsFrom cX3_columnsFrom 7 (some .int) ∈ BIG := big_of (tb_2 138 (by decide +kernel)) rfl
theorem qc_yX4_mark : Cond.code yX4_mark cX4_mark 3 (some .int) ∈ BIG := big_of (tb_2 143 (by decide +kernel)) rfl
theorem qc_yX4_toldWerePlain : Cond.code yX4_toldWerePlain cX4_toldWerePlain 2 (some .int) ∈ BIG := big_of (tb_2 148 (by decide +kernel)) rfl
theorem qc_yX0_turnInto : Cond.code yX0_turnInto cX0_turnInto 3 none ∈ BIG := big_of (tb_2 152 (by decide +kernel)) rfl
theorem qc_yJ6_bitCount_0f7a4 : Cond.code yJ6_bitCount_0f7a4 cJ6_bitCount_0f7a4 1 (some .int) ∈ BIG := big_of (tb_2 155 (by decide +kernel)) rfl
theorem qc_yX4_scansConducting : Cond.code yX4_scansConducting cX4_scansConducting 5 (some .int) ∈ BIG := big_of (tb_2 162 (by decide +kernel)) rfl
theorem qc_yX1_copyFrom : Cond.code yX1_copyFrom cX1_copyFrom 3 none ∈ BIG := big_of (tb_2 166 (by decide +kernel)) rfl
theorem qc_yX1_passScan : Cond.code yX1_passScan cX1_passScan 2 none ∈ BIG := big_of (tb_2 170 (by decide +kernel)) rfl
theorem qc_min : Cond.code Lib.Math.min.name Lib.Math.min.code 2 (some .int) ∈ BIG := big_of (tb_2 174 (by decide +kernel)) rfl
theorem qc_yX4_reads : Cond.code yX4_reads cX4_reads 2 (some .int) ∈ BIG := big_of (tb_2 179 (by decide +kernel)) rfl
theorem qc_yX3_columnsReadBy : Cond.code yX3_columnsReadBy cX3_columnsReadBy 3 (some .int) ∈ BIG := big_of (tb_2 183 (by decide +kernel)) rfl
theorem qc_yX4_press : Cond.code yX4_press cX4_press 2 (some .int) ∈ BIG := big_of (tb_2 187 (by decide +kernel)) rfl
theorem qc_yX4_hasNoRoomFor : Cond.code yX4_hasNoRoomFor cX4_hasNoRoomFor 2 (some .boolean) ∈ BIG := big_of (tb_2 191 (by decide +kernel)) rfl
theorem qc_yX4_perform : Cond.code yX4_perform cX4_perform 2 none ∈ BIG := big_of (tb_2 195 (by decide +kernel)) rfl
theorem qc_yX2_add : Cond.code yX2_add cX2_add 4 none ∈ BIG := big_of (tb_2 199 (by decide +kernel)) rfl
theorem qc_yX1_undergo : Cond.code yX1_undergo cX1_undergo 2 none ∈ BIG := big_of (tb_2 203 (by decide +kernel)) rfl
theorem qc_yX4_scan : Cond.code yX4_scan cX4_scan 2 (some .int) ∈ BIG := big_of (tb_2 209 (by decide +kernel)) rfl
theorem qc_yX4_cut : Cond.code yX4_cut cX4_cut 2 (some .int) ∈ BIG := big_of (tb_2 213 (by decide +kernel)) rfl
theorem qc_yX4_undo : Cond.code yX4_undo cX4_undo 3 (some .int) ∈ BIG := big_of (tb_2 217 (by decide +kernel)) rfl
theorem qc_yX2_shorten : Cond.code yX2_shorten cX2_shorten 3 none ∈ BIG := big_of (tb_2 221 (by decide +kernel)) rfl
theorem qc_yX4_replay : Cond.code yX4_replay cX4_replay 3 none ∈ BIG := big_of (tb_2 225 (by decide +kernel)) rfl
theorem qc_yX4_keep : Cond.code yX4_keep cX4_keep 2 (some .int) ∈ BIG := big_of (tb_2 229 (by decide +kernel)) rfl
theorem qc_yX2_moveAll : Cond.code yX2_moveAll cX2_moveAll 3 none ∈ BIG := big_of (tb_2 233 (by decide +kernel)) rfl
theorem qc_yX4_on : Cond.code yX4_on cX4_on 2 (some .int) ∈ BIG := big_of (tb_2 239 (by decide +kernel)) rfl
theorem qc_yX4_told : Cond.code yX4_told cX4_told 2 (some .int) ∈ BIG := big_of (tb_3 3 (by decide +kernel)) rfl
theorem qc_yX4_ghosts : Cond.code yX4_ghosts cX4_ghosts 2 (some .int) ∈ BIG := big_of (tb_3 7 (by decide +kernel)) rfl
theorem qc_yX4_later : Cond.code yX4_later cX4_later 5 (some .int) ∈ BIG := big_of (tb_3 11 (by decide +kernel)) rfl
theorem qc_yX4_isAmongFirst : Cond.code yX4_isAmongFirst cX4_isAmongFirst 4 (some .boolean) ∈ BIG := big_of (tb_3 15 (by decide +kernel)) rfl
theorem qc_yX4_would : Cond.code yX4_would cX4_would 2 (some .int) ∈ BIG := big_of (tb_3 19 (by decide +kernel)) rfl
theorem qc_yX0_sets : Cond.code yX0_sets cX0_sets 1 (some .int) ∈ BIG := big_of (tb_3 23 (by decide +kernel)) rfl
theorem qc_yX4_haunts : Cond.code yX4_haunts cX4_haunts 7 (some .int) ∈ BIG := big_of (tb_3 28 (by decide +kernel)) rfl
theorem qc_yX4_right : Cond.code yX4_right cX4_right 5 (some .int) ∈ BIG := big_of (tb_3 33 (by decide +kernel)) rfl
theorem qc_yX4_fillBySet : Cond.code yX4_fillBySet cX4_fillBySet 3 none ∈ BIG := big_of (tb_3 37 (by decide +kernel)) rfl
theorem qc_yX4_alike : Cond.code yX4_alike cX4_alike 6 (some .int) ∈ BIG := big_of (tb_3 42 (by decide +kernel)) rfl
theorem qc_yX4_best : Cond.code yX4_best cX4_best 5 (some .int) ∈ BIG := big_of (tb_3 46 (by decide +kernel)) rfl
theorem qc_yX4_rightSetsOf : Cond.code yX4_rightSetsOf cX4_rightSetsOf 5 (some .int) ∈ BIG := big_of (tb_3 50 (by decide +kernel)) rfl
theorem qc_yX4_kinds : Cond.code yX4_kinds cX4_kinds 4 (some .int) ∈ BIG := big_of (tb_3 54 (by decide +kernel)) rfl
theorem qc_yX4_refusePairs : Cond.code yX4_refusePairs cX4_refusePairs 6 (some .int) ∈ BIG := big_of (tb_3 58 (by decide +kernel)) rfl
theorem qc_yX4_kindsThatFit : Cond.code yX4_kindsThatFit cX4_kindsThatFit 5 (some .int) ∈ BIG := big_of (tb_3 62 (by decide +kernel)) rfl
theorem qc_yX4_fits : Cond.code yX4_fits cX4_fits 5 (some .boolean) ∈ BIG := big_of (tb_3 66 (by decide +kernel)) rfl
theorem qc_yX4_places : Cond.code yX4_places cX4_places 9 (some .int) ∈ BIG := big_of (tb_3 70 (by decide +kernel)) rfl
theorem qc_yX0_seat : Cond.code yX0_seat cX0_seat 4 none ∈ BIG := big_of (tb_3 75 (by decide +kernel)) rfl
theorem qc_yX4_test : Cond.code yX4_test cX4_test 10 (some .int) ∈ BIG := big_of (tb_3 79 (by decide +kernel)) rfl
theorem qc_yX4_fillByKind : Cond.code yX4_fillByKind cX4_fillByKind 6 none ∈ BIG := big_of (tb_3 83 (by decide +kernel)) rfl
theorem qc_yX4_greatestPart : Cond.code yX4_greatestPart cX4_greatestPart 7 (some .int) ∈ BIG := big_of (tb_3 87 (by decide +kernel)) rfl
theorem qc_yX4_duel : Cond.code yX4_duel cX4_duel 4 (some .int) ∈ BIG := big_of (tb_3 91 (by decide +kernel)) rfl
theorem qc_yX4_ghostsOf : Cond.code yX4_ghostsOf cX4_ghostsOf 2 (some .int) ∈ BIG := big_of (tb_3 95 (by decide +kernel)) rfl
theorem qc_yX4_valueOf : Cond.code yX4_valueOf cX4_valueOf 2 (some .int) ∈ BIG := big_of (tb_3 99 (by decide +kernel)) rfl
theorem qc_yX4_takeBackTurn : Cond.code yX4_takeBackTurn cX4_takeBackTurn 8 none ∈ BIG := big_of (tb_3 103 (by decide +kernel)) rfl
theorem qc_yX4_odds : Cond.code yX4_odds cX4_odds 7 (some .int) ∈ BIG := big_of (tb_3 107 (by decide +kernel)) rfl
theorem qc_yX4_refuseChance : Cond.code yX4_refuseChance cX4_refuseChance 2 (some .int) ∈ BIG := big_of (tb_3 111 (by decide +kernel)) rfl
theorem qc_yX4_weight : Cond.code yX4_weight cX4_weight 4 (some .long) ∈ BIG := big_of (tb_3 115 (by decide +kernel)) rfl
theorem qc_yX4_power : Cond.code yX4_power cX4_power 6 (some .long) ∈ BIG := big_of (tb_3 118 (by decide +kernel)) rfl
theorem qc_yX4_tellFraction : Cond.code yX4_tellFraction cX4_tellFraction 12 none ∈ BIG := big_of (tb_3 123 (by decide +kernel)) rfl
theorem qc_yX4_mid : Cond.code yX4_mid cX4_mid 7 (some .int) ∈ BIG := big_of (tb_3 127 (by decide +kernel)) rfl
theorem qc_yX4_lots : Cond.code yX4_lots cX4_lots 6 (some .int) ∈ BIG := big_of (tb_3 131 (by decide +kernel)) rfl
theorem qc_yX4_deedByLot : Cond.code yX4_deedByLot cX4_deedByLot 6 (some .int) ∈ BIG := big_of (tb_3 138 (by decide +kernel)) rfl
theorem qc_yX4_asked : Cond.code yX4_asked cX4_asked 1 (some .int) ∈ BIG := big_of (tb_3 144 (by decide +kernel)) rfl
theorem qc_yX4_upper : Cond.code yX4_upper cX4_upper 1 (some .long) ∈ BIG := big_of (tb_3 148 (by decide +kernel)) rfl
theorem qc_yX4_lower : Cond.code yX4_lower cX4_lower 1 (some .long) ∈ BIG := big_of (tb_3 152 (by decide +kernel)) rfl
theorem qc_yX4_count : Cond.code yX4_count cX4_count 2 (some .int) ∈ BIG := big_of (tb_3 156 (by decide +kernel)) rfl
theorem qc_yX2_howMany : Cond.code yX2_howMany cX2_howMany 4 (some .int) ∈ BIG := big_of (tb_3 160 (by decide +kernel)) rfl
theorem qc_yX0_howManyOf : Cond.code yX0_howManyOf cX0_howManyOf 4 (some .int) ∈ BIG := big_of (tb_3 165 (by decide +kernel)) rfl
theorem qc_yX4_finding : Cond.code yX4_finding cX4_finding 1 (some .int) ∈ BIG := big_of (tb_3 170 (by decide +kernel)) rfl
theorem qc_yX4_findings : Cond.code yX4_findings cX4_findings 2 (some .int) ∈ BIG := big_of (tb_3 174 (by decide +kernel)) rfl
theorem qc_yX4_digest : Cond.code yX4_digest cX4_digest 5 (some .long) ∈ BIG := big_of (tb_3 178 (by decide +kernel)) rfl
theorem qc_yX2_mixInto : Cond.code yX2_mixInto cX2_mixInto 8 (some .long) ∈ BIG := big_of (tb_3 185 (by decide +kernel)) rfl
theorem qc_yX5_init : Cond.code yX5_init cX5_init 2 none ∈ BIG := big_of (tb_3 191 (by decide +kernel)) rfl
theorem qc_yX5_row : Cond.code yX5_row cX5_row 4 (some .int) ∈ BIG := big_of (tb_4 39 (by decide +kernel)) rfl
theorem qc_yX5_isRow : Cond.code yX5_isRow cX5_isRow 1 (some .boolean) ∈ BIG := big_of (tb_4 42 (by decide +kernel)) rfl
theorem qc_yX5_in : Cond.code yX5_in cX5_in 3 (some .boolean) ∈ BIG := big_of (tb_4 45 (by decide +kernel)) rfl
theorem qc_yX5_find : Cond.code yX5_find cX5_find 2 (some .int) ∈ BIG := big_of (tb_4 49 (by decide +kernel)) rfl
theorem qc_yX5_lay : Cond.code yX5_lay cX5_lay 5 (some .int) ∈ BIG := big_of (tb_4 53 (by decide +kernel)) rfl
theorem qc_yX5_tellAsked : Cond.code yX5_tellAsked cX5_tellAsked 2 (some .int) ∈ BIG := big_of (tb_4 57 (by decide +kernel)) rfl
theorem qc_yX5_at : Cond.code yX5_at cX5_at 3 (some .int) ∈ BIG := big_of (tb_4 61 (by decide +kernel)) rfl
theorem qc_yX5_tear : Cond.code yX5_tear cX5_tear 2 (some .int) ∈ BIG := big_of (tb_4 65 (by decide +kernel)) rfl
theorem qc_yX5_copy : Cond.code yX5_copy cX5_copy 7 (some .int) ∈ BIG := big_of (tb_4 69 (by decide +kernel)) rfl
theorem qc_yX5_mean : Cond.code yX5_mean cX5_mean 5 (some .int) ∈ BIG := big_of (tb_4 73 (by decide +kernel)) rfl
theorem qc_yX5_text : Cond.code yX5_text cX5_text 4 (some .int) ∈ BIG := big_of (tb_4 77 (by decide +kernel)) rfl
theorem qc_yX5_isText : Cond.code yX5_isText cX5_isText 1 (some .boolean) ∈ BIG := big_of (tb_4 80 (by decide +kernel)) rfl
theorem qc_yX5_put : Cond.code yX5_put cX5_put 5 (some .int) ∈ BIG := big_of (tb_4 84 (by decide +kernel)) rfl
theorem qc_yX5_fault : Cond.code yX5_fault cX5_fault 3 (some .int) ∈ BIG := big_of (tb_4 88 (by decide +kernel)) rfl
theorem qc_yX5_read : Cond.code yX5_read cX5_read 9 (some .int) ∈ BIG := big_of (tb_4 92 (by decide +kernel)) rfl
theorem qc_yX5_kindOf : Cond.code yX5_kindOf cX5_kindOf 1 (some .int) ∈ BIG := big_of (tb_4 95 (by decide +kernel)) rfl
theorem qc_yX5_figure : Cond.code yX5_figure cX5_figure 5 (some .int) ∈ BIG := big_of (tb_4 99 (by decide +kernel)) rfl
theorem qc_yX5_board : Cond.code yX5_board cX5_board 4 (some .int) ∈ BIG := big_of (tb_4 103 (by decide +kernel)) rfl
theorem qc_yX5_key : Cond.code yX5_key cX5_key 3 (some .int) ∈ BIG := big_of (tb_4 107 (by decide +kernel)) rfl
theorem qc_yX5_isKey : Cond.code yX5_isKey cX5_isKey 2 (some .boolean) ∈ BIG := big_of (tb_4 111 (by decide +kernel)) rfl
theorem qc_yX5_factOf : Cond.code yX5_factOf cX5_factOf 3 (some .int) ∈ BIG := big_of (tb_4 115 (by decide +kernel)) rfl
theorem qc_yX5_now : Cond.code yX5_now cX5_now 2 (some .int) ∈ BIG := big_of (tb_4 119 (by decide +kernel)) rfl
theorem qc_yX5_has : Cond.code yX5_has cX5_has 2 (some .boolean) ∈ BIG := big_of (tb_4 122 (by decide +kernel)) rfl
theorem qc_yX5_take : Cond.code yX5_take cX5_take 2 none ∈ BIG := big_of (tb_4 126 (by decide +kernel)) rfl
theorem qc_yX5_conducts : Cond.code yX5_conducts cX5_conducts 2 (some .boolean) ∈ BIG := big_of (tb_4 130 (by decide +kernel)) rfl
theorem qc_yX5_doesBy : Cond.code yX5_doesBy cX5_doesBy 4 (some .boolean) ∈ BIG := big_of (tb_4 133 (by decide +kernel)) rfl
theorem qc_yX5_toldNow : Cond.code yX5_toldNow cX5_toldNow 1 (some .int) ∈ BIG := big_of (tb_4 137 (by decide +kernel)) rfl
theorem qc_yX5_toldBy : Cond.code yX5_toldBy cX5_toldBy 3 (some .int) ∈ BIG := big_of (tb_4 141 (by decide +kernel)) rfl
theorem qc_yX5_readBy : Cond.code yX5_readBy cX5_readBy 7 (some .int) ∈ BIG := big_of (tb_4 145 (by decide +kernel)) rfl
theorem qc_yX5_mark : Cond.code yX5_mark cX5_mark 6 (some .int) ∈ BIG := big_of (tb_4 149 (by decide +kernel)) rfl
theorem qc_yX5_bitsOf : Cond.code yX5_bitsOf cX5_bitsOf 3 (some .int) ∈ BIG := big_of (tb_4 152 (by decide +kernel)) rfl
theorem qc_yX5_reads : Cond.code yX5_reads cX5_reads 2 (some .int) ∈ BIG := big_of (tb_4 156 (by decide +kernel)) rfl
theorem qc_yX5_isLine : Cond.code yX5_isLine cX5_isLine 1 (some .boolean) ∈ BIG := big_of (tb_4 159 (by decide +kernel)) rfl
theorem qc_yX5_press : Cond.code yX5_press cX5_press 2 (some .int) ∈ BIG := big_of (tb_4 163 (by decide +kernel)) rfl
theorem qc_yX5_begin : Cond.code yX5_begin cX5_begin 2 none ∈ BIG := big_of (tb_4 167 (by decide +kernel)) rfl
theorem qc_yX5_pressNow : Cond.code yX5_pressNow cX5_pressNow 2 none ∈ BIG := big_of (tb_4 171 (by decide +kernel)) rfl
theorem qc_yX5_flipped : Cond.code yX5_flipped cX5_flipped 2 (some .int) ∈ BIG := big_of (tb_4 174 (by decide +kernel)) rfl
theorem qc_yX5_scan : Cond.code yX5_scan cX5_scan 2 (some .int) ∈ BIG := big_of (tb_4 178 (by decide +kernel)) rfl
theorem qc_yX5_passOn : Cond.code yX5_passOn cX5_passOn 4 none ∈ BIG := big_of (tb_4 182 (by decide +kernel)) rfl
theorem qc_yX5_cut : Cond.code yX5_cut cX5_cut 2 (some .int) ∈ BIG := big_of (tb_4 186 (by decide +kernel)) rfl
theorem qc_yX5_undo : Cond.code yX5_undo cX5_undo 3 (some .int) ∈ BIG := big_of (tb_4 190 (by decide +kernel)) rfl
theorem qc_yX5_keep : Cond.code yX5_keep cX5_keep 3 (some .int) ∈ BIG := big_of (tb_4 194 (by decide +kernel)) rfl
theorem qc_yX5_on : Cond.code yX5_on cX5_on 3 (some .int) ∈ BIG := big_of (tb_4 198 (by decide +kernel)) rfl
theorem qc_yX5_told : Cond.code yX5_told cX5_told 2 (some .int) ∈ BIG := big_of (tb_4 202 (by decide +kernel)) rfl
theorem qc_yX5_ghosts : Cond.code yX5_ghosts cX5_ghosts 2 (some .int) ∈ BIG := big_of (tb_4 206 (by decide +kernel)) rfl
theorem qc_yX5_later : Cond.code yX5_later cX5_later 6 (some .int) ∈ BIG := big_of (tb_4 210 (by decide +kernel)) rfl
theorem qc_yX5_would : Cond.code yX5_would cX5_would 2 (some .int) ∈ BIG := big_of (tb_4 214 (by decide +kernel)) rfl
theorem qc_yX5_isSet : Cond.code yX5_isSet cX5_isSet 2 (some .boolean) ∈ BIG := big_of (tb_4 218 (by decide +kernel)) rfl
theorem qc_yX5_toldOf : Cond.code yX5_toldOf cX5_toldOf 2 (some .int) ∈ BIG := big_of (tb_4 222 (by decide +kernel)) rfl
theorem qc_yX5_haunts : Cond.code yX5_haunts cX5_haunts 5 (some .int) ∈ BIG := big_of (tb_4 226 (by decide +kernel)) rfl
theorem qc_yX5_right : Cond.code yX5_right cX5_right 4 (some .int) ∈ BIG := big_of (tb_4 230 (by decide +kernel)) rfl
theorem qc_yX5_rightSets : Cond.code yX5_rightSets cX5_rightSets 3 (some .int) ∈ BIG := big_of (tb_4 234 (by decide +kernel)) rfl
theorem qc_yX5_alike : Cond.code yX5_alike cX5_alike 5 (some .int) ∈ BIG := big_of (tb_4 238 (by decide +kernel)) rfl
theorem qc_yX5_best : Cond.code yX5_best cX5_best 5 (some .int) ∈ BIG := big_of (tb_5 2 (by decide +kernel)) rfl
theorem qc_yX5_kinds : Cond.code yX5_kinds cX5_kinds 4 (some .int) ∈ BIG := big_of (tb_5 6 (by decide +kernel)) rfl
theorem qc_yX5_pairs : Cond.code yX5_pairs cX5_pairs 4 (some .int) ∈ BIG := big_of (tb_5 10 (by decide +kernel)) rfl
theorem qc_yX5_kindsBy : Cond.code yX5_kindsBy cX5_kindsBy 5 (some .int) ∈ BIG := big_of (tb_5 14 (by decide +kernel)) rfl
theorem qc_yX5_isSo : Cond.code yX5_isSo cX5_isSo 4 (some .boolean) ∈ BIG := big_of (tb_5 18 (by decide +kernel)) rfl
theorem qc_yX5_places : Cond.code yX5_places cX5_places 8 (some .int) ∈ BIG := big_of (tb_5 22 (by decide +kernel)) rfl
theorem qc_yX5_isFree : Cond.code yX5_isFree cX5_isFree 6 (some .boolean) ∈ BIG := big_of (tb_5 26 (by decide +kernel)) rfl
theorem qc_yX5_test : Cond.code yX5_test cX5_test 12 (some .int) ∈ BIG := big_of (tb_5 30 (by decide +kernel)) rfl
theorem qc_yX5_duel : Cond.code yX5_duel cX5_duel 8 (some .int) ∈ BIG := big_of (tb_5 34 (by decide +kernel)) rfl
theorem qc_yX5_odds : Cond.code yX5_odds cX5_odds 5 (some .int) ∈ BIG := big_of (tb_5 38 (by decide +kernel)) rfl
theorem qc_yX5_waysOf : Cond.code yX5_waysOf cX5_waysOf 6 (some .long) ∈ BIG := big_of (tb_5 42 (by decide +kernel)) rfl
theorem qc_yX5_allWays : Cond.code yX5_allWays cX5_allWays 4 (some .long) ∈ BIG := big_of (tb_5 47 (by decide +kernel)) rfl
theorem qc_yX5_fraction : Cond.code yX5_fraction cX5_fraction 11 (some .int) ∈ BIG := big_of (tb_5 51 (by decide +kernel)) rfl
theorem qc_yX5_mid : Cond.code yX5_mid cX5_mid 5 (some .int) ∈ BIG := big_of (tb_5 55 (by decide +kernel)) rfl
theorem qc_yX5_lots : Cond.code yX5_lots cX5_lots 7 (some .int) ∈ BIG := big_of (tb_5 59 (by decide +kernel)) rfl
theorem qc_yX5_asked : Cond.code yX5_asked cX5_asked 1 (some .int) ∈ BIG := big_of (tb_5 68 (by decide +kernel)) rfl
theorem qc_yX5_upper : Cond.code yX5_upper cX5_upper 1 (some .long) ∈ BIG := big_of (tb_5 72 (by decide +kernel)) rfl
theorem qc_yX5_lower : Cond.code yX5_lower cX5_lower 1 (some .long) ∈ BIG := big_of (tb_5 76 (by decide +kernel)) rfl
theorem qc_yX5_count : Cond.code yX5_count cX5_count 2 (some .int) ∈ BIG := big_of (tb_5 80 (by decide +kernel)) rfl
theorem qc_yX5_thereAre : Cond.code yX5_thereAre cX5_thereAre 4 (some .int) ∈ BIG := big_of (tb_5 84 (by decide +kernel)) rfl
theorem qc_yX5_ofKinds : Cond.code yX5_ofKinds cX5_ofKinds 5 (some .int) ∈ BIG := big_of (tb_5 88 (by decide +kernel)) rfl
theorem qc_yX5_finding : Cond.code yX5_finding cX5_finding 1 (some .int) ∈ BIG := big_of (tb_5 92 (by decide +kernel)) rfl
theorem qc_yX5_findings : Cond.code yX5_findings cX5_findings 2 (some .int) ∈ BIG := big_of (tb_5 96 (by decide +kernel)) rfl
theorem qc_yX5_digest : Cond.code yX5_digest cX5_digest 5 (some .long) ∈ BIG := big_of (tb_5 100 (by decide +kernel)) rfl
theorem ql_X0_0 : u_lay RX0 TX0 0 ∈ BIG := big_of (tb_1 58 (by decide +kernel)) rfl
theorem ql_X0_1 : u_lay RX0 TX0 1 ∈ BIG := big_of (tb_1 60 (by decide +kernel)) rfl
theorem ql_X0_2 : u_lay RX0 TX0 2 ∈ BIG := big_of (tb_1 62 (by decide +kernel)) rfl
theorem ql_X0_3 : u_lay RX0 TX0 3 ∈ BIG := big_of (tb_1 64 (by decide +kernel)) rfl
theorem ql_X0_4 : u_lay RX0 TX0 4 ∈ BIG := big_of (tb_1 66 (by decide +kernel)) rfl
theorem inB_X0 : ∀ w ∈ u_ws RX0 TX0 5, w ∈ BIG := by
  intro w hw
  obtain ⟨k, hk, rfl⟩ := List.mem_map.mp hw
  have hk := List.mem_range.mp hk
  match k, hk with
  | 0, _ => exact ql_X0_0
  | 1, _ => exact ql_X0_1
  | 2, _ => exact ql_X0_2
  | 3, _ => exact ql_X0_3
  | 4, _ => exact ql_X0_4
  | k + 5, h => exact absurd h (by omega)
theorem ql_X1_0 : u_lay RX1 TX1 0 ∈ BIG := big_of (tb_1 84 (by decide +kernel)) rfl
theorem ql_X1_1 : u_lay RX1 TX1 1 ∈ BIG := big_of (tb_1 86 (by decide +kernel)) rfl
theorem ql_X1_2 : u_lay RX1 TX1 2 ∈ BIG := big_of (tb_1 88 (by decide +kernel)) rfl
theorem ql_X1_3 : u_lay RX1 TX1 3 ∈ BIG := big_of (tb_1 90 (by decide +kernel)) rfl
theorem inB_X1 : ∀ w ∈ u_ws RX1 TX1 4, w ∈ BIG := by
  intro w hw
  obtain ⟨k, hk, rfl⟩ := List.mem_map.mp hw
  have hk := List.mem_range.mp hk
  match k, hk with
  | 0, _ => exact ql_X1_0
  | 1, _ => exact ql_X1_1
  | 2, _ => exact ql_X1_2
  | 3, _ => exact ql_X1_3
  | k + 4, h => exact absurd h (by omega)
theorem ql_X2_0 : u_lay RX2 TX2 0 ∈ BIG := big_of (tb_1 32 (by decide +kernel)) rfl
theorem ql_X2_1 : u_lay RX2 TX2 1 ∈ BIG := big_of (tb_1 34 (by decide +kernel)) rfl
theorem ql_X2_2 : u_lay RX2 TX2 2 ∈ BIG := big_of (tb_1 36 (by decide +kernel)) rfl
theorem ql_X2_3 : u_lay RX2 TX2 3 ∈ BIG := big_of (tb_1 38 (by decide +kernel)) rfl
theorem inB_X2 : ∀ w ∈ u_ws RX2 TX2 4, w ∈ BIG := by
  intro w hw
  obtain ⟨k, hk, rfl⟩ := List.mem_map.mp hw
  have hk := List.mem_range.mp hk
  match k, hk with
  | 0, _ => exact ql_X2_0
  | 1, _ => exact ql_X2_1
  | 2, _ => exact ql_X2_2
  | 3, _ => exact ql_X2_3
  | k + 4, h => exact absurd h (by omega)
theorem ql_X3_0 : u_lay RX3 TX3 0 ∈ BIG := big_of (tb_1 108 (by decide +kernel)) rfl
theorem ql_X3_1 : u_lay RX3 TX3 1 ∈ BIG := big_of (tb_1 110 (by decide +kernel)) rfl
theorem ql_X3_2 : u_lay RX3 TX3 2 ∈ BIG := big_of (tb_1 112 (by decide +kernel)) rfl
theorem ql_X3_3 : u_lay RX3 TX3 3 ∈ BIG := big_of (tb_1 114 (by decide +kernel)) rfl
theorem ql_X3_4 : u_lay RX3 TX3 4 ∈ BIG := big_of (tb_1 116 (by decide +kernel)) rfl
theorem ql_X3_5 : u_lay RX3 TX3 5 ∈ BIG := big_of (tb_1 118 (by decide +kernel)) rfl
theorem ql_X3_6 : u_lay RX3 TX3 6 ∈ BIG := big_of (tb_1 120 (by decide +kernel)) rfl
theorem ql_X3_7 : u_lay RX3 TX3 7 ∈ BIG := big_of (tb_1 122 (by decide +kernel)) rfl
theorem ql_X3_8 : u_lay RX3 TX3 8 ∈ BIG := big_of (tb_1 124 (by decide +kernel)) rfl
theorem inB_X3 : ∀ w ∈ u_ws RX3 TX3 9, w ∈ BIG := by
  intro w hw
  obtain ⟨k, hk, rfl⟩ := List.mem_map.mp hw
  have hk := List.mem_range.mp hk
  match k, hk with
  | 0, _ => exact ql_X3_0
  | 1, _ => exact ql_X3_1
  | 2, _ => exact ql_X3_2
  | 3, _ => exact ql_X3_3
  | 4, _ => exact ql_X3_4
  | 5, _ => exact ql_X3_5
  | 6, _ => exact ql_X3_6
  | 7, _ => exact ql_X3_7
  | 8, _ => exact ql_X3_8
  | k + 9, h => exact absurd h (by omega)
theorem ql_X4_0 : u_lay RX4 TX4 0 ∈ BIG := big_of (tb_1 151 (by decide +kernel)) rfl
theorem ql_X4_1 : u_lay RX4 TX4 1 ∈ BIG := big_of (tb_1 153 (by decide +kernel)) rfl
theorem ql_X4_2 : u_lay RX4 TX4 2 ∈ BIG := big_of (tb_1 155 (by decide +kernel)) rfl
theorem ql_X4_3 : u_lay RX4 TX4 3 ∈ BIG := big_of (tb_1 157 (by decide +kernel)) rfl
theorem ql_X4_4 : u_lay RX4 TX4 4 ∈ BIG := big_of (tb_1 159 (by decide +kernel)) rfl
theorem ql_X4_5 : u_lay RX4 TX4 5 ∈ BIG := big_of (tb_1 161 (by decide +kernel)) rfl
theorem ql_X4_6 : u_lay RX4 TX4 6 ∈ BIG := big_of (tb_1 163 (by decide +kernel)) rfl
theorem ql_X4_7 : u_lay RX4 TX4 7 ∈ BIG := big_of (tb_1 165 (by decide +kernel)) rfl
theorem ql_X4_8 : u_lay RX4 TX4 8 ∈ BIG := big_of (tb_1 167 (by decide +kernel)) rfl
theorem ql_X4_9 : u_lay RX4 TX4 9 ∈ BIG := big_of (tb_1 169 (by decide +kernel)) rfl
theorem ql_X4_10 : u_lay RX4 TX4 10 ∈ BIG := big_of (tb_1 171 (by decide +kernel)) rfl
theorem ql_X4_11 : u_lay RX4 TX4 11 ∈ BIG := big_of (tb_1 173 (by decide +kernel)) rfl
theorem ql_X4_12 : u_lay RX4 TX4 12 ∈ BIG := big_of (tb_1 175 (by decide +kernel)) rfl
theorem ql_X4_13 : u_lay RX4 TX4 13 ∈ BIG := big_of (tb_1 177 (by decide +kernel)) rfl
theorem ql_X4_14 : u_lay RX4 TX4 14 ∈ BIG := big_of (tb_1 179 (by decide +kernel)) rfl
theorem inB_X4 : ∀ w ∈ u_ws RX4 TX4 15, w ∈ BIG := by
  intro w hw
  obtain ⟨k, hk, rfl⟩ := List.mem_map.mp hw
  have hk := List.mem_range.mp hk
  match k, hk with
  | 0, _ => exact ql_X4_0
  | 1, _ => exact ql_X4_1
  | 2, _ => exact ql_X4_2
  | 3, _ => exact ql_X4_3
  | 4, _ => exact ql_X4_4
  | 5, _ => exact ql_X4_5
  | 6, _ => exact ql_X4_6
  | 7, _ => exact ql_X4_7
  | 8, _ => exact ql_X4_8
  | 9, _ => exact ql_X4_9
  | 10, _ => exact ql_X4_10
  | 11, _ => exact ql_X4_11
  | 12, _ => exact ql_X4_12
  | 13, _ => exact ql_X4_13
  | 14, _ => exact ql_X4_14
  | k + 15, h => exact absurd h (by omega)
theorem ql_X5_0 : u_lay RX5 TX5 0 ∈ BIG := big_of (tb_3 220 (by decide +kernel)) rfl
theorem ql_X5_1 : u_lay RX5 TX5 1 ∈ BIG := big_of (tb_3 222 (by decide +kernel)) rfl
theorem ql_X5_2 : u_lay RX5 TX5 2 ∈ BIG := big_of (tb_3 224 (by decide +kernel)) rfl
theorem ql_X5_3 : u_lay RX5 TX5 3 ∈ BIG := big_of (tb_3 226 (by decide +kernel)) rfl
theorem ql_X5_4 : u_lay RX5 TX5 4 ∈ BIG := big_of (tb_3 228 (by decide +kernel)) rfl
theorem ql_X5_5 : u_lay RX5 TX5 5 ∈ BIG := big_of (tb_3 230 (by decide +kernel)) rfl
theorem ql_X5_6 : u_lay RX5 TX5 6 ∈ BIG := big_of (tb_3 232 (by decide +kernel)) rfl
theorem ql_X5_7 : u_lay RX5 TX5 7 ∈ BIG := big_of (tb_3 234 (by decide +kernel)) rfl
theorem ql_X5_8 : u_lay RX5 TX5 8 ∈ BIG := big_of (tb_3 236 (by decide +kernel)) rfl
theorem ql_X5_9 : u_lay RX5 TX5 9 ∈ BIG := big_of (tb_3 238 (by decide +kernel)) rfl
theorem ql_X5_10 : u_lay RX5 TX5 10 ∈ BIG := big_of (tb_4 0 (by decide +kernel)) rfl
theorem ql_X5_11 : u_lay RX5 TX5 11 ∈ BIG := big_of (tb_4 2 (by decide +kernel)) rfl
theorem ql_X5_12 : u_lay RX5 TX5 12 ∈ BIG := big_of (tb_4 4 (by decide +kernel)) rfl
theorem ql_X5_13 : u_lay RX5 TX5 13 ∈ BIG := big_of (tb_4 6 (by decide +kernel)) rfl
theorem ql_X5_14 : u_lay RX5 TX5 14 ∈ BIG := big_of (tb_4 8 (by decide +kernel)) rfl
theorem ql_X5_15 : u_lay RX5 TX5 15 ∈ BIG := big_of (tb_4 10 (by decide +kernel)) rfl
theorem ql_X5_16 : u_lay RX5 TX5 16 ∈ BIG := big_of (tb_4 12 (by decide +kernel)) rfl
theorem ql_X5_17 : u_lay RX5 TX5 17 ∈ BIG := big_of (tb_4 14 (by decide +kernel)) rfl
theorem ql_X5_18 : u_lay RX5 TX5 18 ∈ BIG := big_of (tb_4 16 (by decide +kernel)) rfl
theorem ql_X5_19 : u_lay RX5 TX5 19 ∈ BIG := big_of (tb_4 18 (by decide +kernel)) rfl
theorem ql_X5_20 : u_lay RX5 TX5 20 ∈ BIG := big_of (tb_4 20 (by decide +kernel)) rfl
theorem ql_X5_21 : u_lay RX5 TX5 21 ∈ BIG := big_of (tb_4 22 (by decide +kernel)) rfl
theorem ql_X5_22 : u_lay RX5 TX5 22 ∈ BIG := big_of (tb_4 24 (by decide +kernel)) rfl
theorem ql_X5_23 : u_lay RX5 TX5 23 ∈ BIG := big_of (tb_4 26 (by decide +kernel)) rfl
theorem ql_X5_24 : u_lay RX5 TX5 24 ∈ BIG := big_of (tb_4 28 (by decide +kernel)) rfl
theorem ql_X5_25 : u_lay RX5 TX5 25 ∈ BIG := big_of (tb_4 30 (by decide +kernel)) rfl
theorem ql_X5_26 : u_lay RX5 TX5 26 ∈ BIG := big_of (tb_4 32 (by decide +kernel)) rfl
theorem inB_X5 : ∀ w ∈ u_ws RX5 TX5 27, w ∈ BIG := by
  intro w hw
  obtain ⟨k, hk, rfl⟩ := List.mem_map.mp hw
  have hk := List.mem_range.mp hk
  match k, hk with
  | 0, _ => exact ql_X5_0
  | 1, _ => exact ql_X5_1
  | 2, _ => exact ql_X5_2
  | 3, _ => exact ql_X5_3
  | 4, _ => exact ql_X5_4
  | 5, _ => exact ql_X5_5
  | 6, _ => exact ql_X5_6
  | 7, _ => exact ql_X5_7
  | 8, _ => exact ql_X5_8
  | 9, _ => exact ql_X5_9
  | 10, _ => exact ql_X5_10
  | 11, _ => exact ql_X5_11
  | 12, _ => exact ql_X5_12
  | 13, _ => exact ql_X5_13
  | 14, _ => exact ql_X5_14
  | 15, _ => exact ql_X5_15
  | 16, _ => exact ql_X5_16
  | 17, _ => exact ql_X5_17
  | 18, _ => exact ql_X5_18
  | 19, _ => exact ql_X5_19
  | 20, _ => exact ql_X5_20
  | 21, _ => exact ql_X5_21
  | 22, _ => exact ql_X5_22
  | 23, _ => exact ql_X5_23
  | 24, _ => exact ql_X5_24
  | 25, _ => exact ql_X5_25
  | 26, _ => exact ql_X5_26
  | k + 27, h => exact absurd h (by omega)
def nestF : List (String × Nat × String × String × String × String) := [(RX4, 316, "StrayKeys$Shelf", "places", "I", "StrayKeys"), (RX3, 60, "StrayKeys$Layout", "kind", "[I", "StrayKeys"), (RX3, 43, "StrayKeys$Layout", "line", "[I", "StrayKeys"), (RX3, 44, "StrayKeys$Layout", "column", "[I", "StrayKeys"), (RX3, 40, "StrayKeys$Layout", "size", "I", "StrayKeys"), (RX4, 137, "StrayKeys$Layout", "size", "I", "StrayKeys"), (RX0, 51, "StrayKeys$Moment", "scanNumber", "I", "StrayKeys"), (RX4, 296, "StrayKeys$Moment", "scanNumber", "I", "StrayKeys"), (RX4, 179, "StrayKeys$Moment", "pressed", "I", "StrayKeys"), (RX3, 47, "StrayKeys$Moment", "severed", "I", "StrayKeys"), (RX4, 191, "StrayKeys$Moment", "severed", "I", "StrayKeys"), (RX0, 77, "StrayKeys", "LETTERS", "[I", "StrayKeys")]
def nestM : List (String × Nat × MethodName × String) := [(RX4, 26, yX0_init, "StrayKeys"), (RX4, 36, yX1_init, "StrayKeys"), (RX4, 46, yX3_init, "StrayKeys"), (RX2, 31, yX4_within, "StrayKeys"), (RX0, 80, yX4_within, "StrayKeys"), (RX0, 42, yX4_holds, "StrayKeys"), (RX3, 52, yX4_holds, "StrayKeys"), (RX3, 63, yX4_isOf, "StrayKeys"), (RX3, 66, yX4_within, "StrayKeys"), (RX1, 32, yX4_holds, "StrayKeys"), (RX1, 28, yX4_within, "StrayKeys"), (RX0, 38, yX4_isOf, "StrayKeys")]
theorem qfn_X4_316 : (RX4, 316, "StrayKeys$Shelf", "places", "I", "StrayKeys") ∈ nestF := List.mem_of_getElem? (i := 0) rfl
theorem qfn_X3_60 : (RX3, 60, "StrayKeys$Layout", "kind", "[I", "StrayKeys") ∈ nestF := List.mem_of_getElem? (i := 1) rfl
theorem qfn_X3_43 : (RX3, 43, "StrayKeys$Layout", "line", "[I", "StrayKeys") ∈ nestF := List.mem_of_getElem? (i := 2) rfl
theorem qfn_X3_44 : (RX3, 44, "StrayKeys$Layout", "column", "[I", "StrayKeys") ∈ nestF := List.mem_of_getElem? (i := 3) rfl
theorem qfn_X3_40 : (RX3, 40, "StrayKeys$Layout", "size", "I", "StrayKeys") ∈ nestF := List.mem_of_getElem? (i := 4) rfl
theorem qfn_X4_137 : (RX4, 137, "StrayKeys$Layout", "size", "I", "StrayKeys") ∈ nestF := List.mem_of_getElem? (i := 5) rfl
theorem qfn_X0_51 : (RX0, 51, "StrayKeys$Moment", "scanNumber", "I", "StrayKeys") ∈ nestF := List.mem_of_getElem? (i := 6) rfl
theorem qfn_X4_296 : (RX4, 296, "StrayKeys$Moment", "scanNumber", "I", "StrayKeys") ∈ nestF := List.mem_of_getElem? (i := 7) rfl
theorem qfn_X4_179 : (RX4, 179, "StrayKeys$Moment", "pressed", "I", "StrayKeys") ∈ nestF := List.mem_of_getElem? (i := 8) rfl
theorem qfn_X3_47 : (RX3, 47, "StrayKeys$Moment", "severed", "I", "StrayKeys") ∈ nestF := List.mem_of_getElem? (i := 9) rfl
theorem qfn_X4_191 : (RX4, 191, "StrayKeys$Moment", "severed", "I", "StrayKeys") ∈ nestF := List.mem_of_getElem? (i := 10) rfl
theorem qfn_X0_77 : (RX0, 77, "StrayKeys", "LETTERS", "[I", "StrayKeys") ∈ nestF := List.mem_of_getElem? (i := 11) rfl
theorem qmn_X4_26 : (RX4, 26, yX0_init, "StrayKeys") ∈ nestM := List.mem_of_getElem? (i := 0) rfl
theorem qmn_X4_36 : (RX4, 36, yX1_init, "StrayKeys") ∈ nestM := List.mem_of_getElem? (i := 1) rfl
theorem qmn_X4_46 : (RX4, 46, yX3_init, "StrayKeys") ∈ nestM := List.mem_of_getElem? (i := 2) rfl
theorem qmn_X2_31 : (RX2, 31, yX4_within, "StrayKeys") ∈ nestM := List.mem_of_getElem? (i := 3) rfl
theorem qmn_X0_80 : (RX0, 80, yX4_within, "StrayKeys") ∈ nestM := List.mem_of_getElem? (i := 4) rfl
theorem qmn_X0_42 : (RX0, 42, yX4_holds, "StrayKeys") ∈ nestM := List.mem_of_getElem? (i := 5) rfl
theorem qmn_X3_52 : (RX3, 52, yX4_holds, "StrayKeys") ∈ nestM := List.mem_of_getElem? (i := 6) rfl
theorem qmn_X3_63 : (RX3, 63, yX4_isOf, "StrayKeys") ∈ nestM := List.mem_of_getElem? (i := 7) rfl
theorem qmn_X3_66 : (RX3, 66, yX4_within, "StrayKeys") ∈ nestM := List.mem_of_getElem? (i := 8) rfl
theorem qmn_X1_32 : (RX1, 32, yX4_holds, "StrayKeys") ∈ nestM := List.mem_of_getElem? (i := 9) rfl
theorem qmn_X1_28 : (RX1, 28, yX4_within, "StrayKeys") ∈ nestM := List.mem_of_getElem? (i := 10) rfl
theorem qmn_X0_38 : (RX0, 38, yX4_isOf, "StrayKeys") ∈ nestM := List.mem_of_getElem? (i := 11) rfl
theorem qtf_0 : Cond.fieldLinkNest RX4 316 "StrayKeys$Shelf" "places" "I" "StrayKeys" ∈ tables_1 := tb_1 28 (by decide +kernel)
theorem qtf_1 : Cond.fieldLinkNest RX3 60 "StrayKeys$Layout" "kind" "[I" "StrayKeys" ∈ tables_1 := tb_1 49 (by decide +kernel)
theorem qtf_2 : Cond.fieldLinkNest RX3 43 "StrayKeys$Layout" "line" "[I" "StrayKeys" ∈ tables_1 := tb_1 51 (by decide +kernel)
theorem qtf_3 : Cond.fieldLinkNest RX3 44 "StrayKeys$Layout" "column" "[I" "StrayKeys" ∈ tables_1 := tb_1 53 (by decide +kernel)
theorem qtf_4 : Cond.fieldLinkNest RX3 40 "StrayKeys$Layout" "size" "I" "StrayKeys" ∈ tables_1 := tb_1 56 (by decide +kernel)
theorem qtf_5 : Cond.fieldLinkNest RX4 137 "StrayKeys$Layout" "size" "I" "StrayKeys" ∈ tables_1 := tb_1 57 (by decide +kernel)
theorem qtf_6 : Cond.fieldLinkNest RX0 51 "StrayKeys$Moment" "scanNumber" "I" "StrayKeys" ∈ tables_1 := tb_1 77 (by decide +kernel)
theorem qtf_7 : Cond.fieldLinkNest RX4 296 "StrayKeys$Moment" "scanNumber" "I" "StrayKeys" ∈ tables_1 := tb_1 78 (by decide +kernel)
theorem qtf_8 : Cond.fieldLinkNest RX4 179 "StrayKeys$Moment" "pressed" "I" "StrayKeys" ∈ tables_1 := tb_1 80 (by decide +kernel)
theorem qtf_9 : Cond.fieldLinkNest RX3 47 "StrayKeys$Moment" "severed" "I" "StrayKeys" ∈ tables_1 := tb_1 82 (by decide +kernel)
theorem qtf_10 : Cond.fieldLinkNest RX4 191 "StrayKeys$Moment" "severed" "I" "StrayKeys" ∈ tables_1 := tb_1 83 (by decide +kernel)
theorem qtf_11 : Cond.fieldLinkNest RX0 77 "StrayKeys" "LETTERS" "[I" "StrayKeys" ∈ tables_1 := tb_2 45 (by decide +kernel)
theorem qtm_0 : Cond.methodLinkNest RX4 26 yX0_init "StrayKeys" ∈ tables_1 := tb_1 44 (by decide +kernel)
theorem qtm_1 : Cond.methodLinkNest RX4 36 yX1_init "StrayKeys" ∈ tables_1 := tb_1 71 (by decide +kernel)
theorem qtm_2 : Cond.methodLinkNest RX4 46 yX3_init "StrayKeys" ∈ tables_1 := tb_1 95 (by decide +kernel)
theorem qtm_3 : Cond.methodLinkNest RX2 31 yX4_within "StrayKeys" ∈ tables_1 := tb_1 133 (by decide +kernel)
theorem qtm_4 : Cond.methodLinkNest RX0 80 yX4_within "StrayKeys" ∈ tables_1 := tb_2 50 (by decide +kernel)
theorem qtm_5 : Cond.methodLinkNest RX0 42 yX4_holds "StrayKeys" ∈ tables_1 := tb_2 104 (by decide +kernel)
theorem qtm_6 : Cond.methodLinkNest RX3 52 yX4_holds "StrayKeys" ∈ tables_1 := tb_2 120 (by decide +kernel)
theorem qtm_7 : Cond.methodLinkNest RX3 63 yX4_isOf "StrayKeys" ∈ tables_1 := tb_2 122 (by decide +kernel)
theorem qtm_8 : Cond.methodLinkNest RX3 66 yX4_within "StrayKeys" ∈ tables_1 := tb_2 139 (by decide +kernel)
theorem qtm_9 : Cond.methodLinkNest RX1 32 yX4_holds "StrayKeys" ∈ tables_1 := tb_2 171 (by decide +kernel)
theorem qtm_10 : Cond.methodLinkNest RX1 28 yX4_within "StrayKeys" ∈ tables_1 := tb_2 205 (by decide +kernel)
theorem qtm_11 : Cond.methodLinkNest RX0 38 yX4_isOf "StrayKeys" ∈ tables_1 := tb_3 166 (by decide +kernel)
theorem qt_over : Cond.arrayOver (.array .int) ∈ tables_1 := tb_1 128 (by decide +kernel)
theorem qt_ls_LETTERS : Cond.laysStatic "StrayKeys" "LETTERS" "[I" ∈ tables_1 := tb_2 46 (by decide +kernel)
theorem qt_ls_SORT_OF : Cond.laysStatic "StrayKeys" "SORT_OF" "[I" ∈ tables_1 := tb_2 126 (by decide +kernel)
end
section
theorem dX0_init_0 : decode cX0_init 0 = .ok (.aload_n 0, 1) := by decide +kernel
theorem dX0_init_1 : decode cX0_init 1 = .ok (.invokespecial 3, 3) := by decide +kernel
theorem dX0_init_4 : decode cX0_init 4 = .ok (.aload_n 0, 1) := by decide +kernel
theorem dX0_init_5 : decode cX0_init 5 = .ok (.bipush 7, 2) := by decide +kernel
theorem dX0_init_7 : decode cX0_init 7 = .ok (.newarray .int, 2) := by decide +kernel
theorem dX0_init_9 : decode cX0_init 9 = .ok (.putfield 9, 3) := by decide +kernel
theorem dX0_init_12 : decode cX0_init 12 = .ok (.aload_n 0, 1) := by decide +kernel
theorem dX0_init_13 : decode cX0_init 13 = .ok (.bipush 7, 2) := by decide +kernel
theorem dX0_init_15 : decode cX0_init 15 = .ok (.newarray .int, 2) := by decide +kernel
theorem dX0_init_17 : decode cX0_init 17 = .ok (.putfield 15, 3) := by decide +kernel
theorem dX0_init_20 : decode cX0_init 20 = .ok (.aload_n 0, 1) := by decide +kernel
theorem dX0_init_21 : decode cX0_init 21 = .ok (.bipush 7, 2) := by decide +kernel
theorem dX0_init_23 : decode cX0_init 23 = .ok (.newarray .int, 2) := by decide +kernel
theorem dX0_init_25 : decode cX0_init 25 = .ok (.putfield 18, 3) := by decide +kernel
theorem dX0_init_28 : decode cX0_init 28 = .ok (.aload_n 0, 1) := by decide +kernel
theorem dX0_init_29 : decode cX0_init 29 = .ok (.bipush 7, 2) := by decide +kernel
theorem dX0_init_31 : decode cX0_init 31 = .ok (.newarray .int, 2) := by decide +kernel
theorem dX0_init_33 : decode cX0_init 33 = .ok (.putfield 21, 3) := by decide +kernel
theorem dX0_init_36 : decode cX0_init 36 = .ok (.aload_n 0, 1) := by decide +kernel
theorem dX0_init_37 : decode cX0_init 37 = .ok (.iconst 0, 1) := by decide +kernel
theorem dX0_init_38 : decode cX0_init 38 = .ok (.putfield 24, 3) := by decide +kernel
theorem dX0_init_41 : decode cX0_init 41 = .ok (.return_, 1) := by decide +kernel
theorem dX0_has_0 : decode cX0_has 0 = .ok (.iload_n 1, 1) := by decide +kernel
theorem dX0_has_1 : decode cX0_has 1 = .ok (.ifCond .lt 21, 3) := by decide +kernel
theorem dX0_has_4 : decode cX0_has 4 = .ok (.iload_n 1, 1) := by decide +kernel
theorem dX0_has_5 : decode cX0_has 5 = .ok (.aload_n 0, 1) := by decide +kernel
theorem dX0_has_6 : decode cX0_has 6 = .ok (.getfield 24, 3) := by decide +kernel
theorem dX0_has_9 : decode cX0_has 9 = .ok (.if_icmp .ge 13, 3) := by decide +kernel
theorem dX0_has_12 : decode cX0_has 12 = .ok (.iload_n 1, 1) := by decide +kernel
theorem dX0_has_13 : decode cX0_has 13 = .ok (.bipush 7, 2) := by decide +kernel
theorem dX0_has_15 : decode cX0_has 15 = .ok (.if_icmp .ge 7, 3) := by decide +kernel
theorem dX0_has_18 : decode cX0_has 18 = .ok (.iconst 1, 1) := by decide +kernel
theorem dX0_has_19 : decode cX0_has 19 = .ok (.goto 4, 3) := by decide +kernel
theorem dX0_has_22 : decode cX0_has 22 = .ok (.iconst 0, 1) := by decide +kernel
theorem dX0_has_23 : decode cX0_has 23 = .ok (.ireturn, 1) := by decide +kernel
theorem dX0_sets_0 : decode cX0_sets 0 = .ok (.sipush 128, 3) := by decide +kernel
theorem dX0_sets_3 : decode cX0_sets 3 = .ok (.iconst 1, 1) := by decide +kernel
theorem dX0_sets_4 : decode cX0_sets 4 = .ok (.aload_n 0, 1) := by decide +kernel
theorem dX0_sets_5 : decode cX0_sets 5 = .ok (.getfield 24, 3) := by decide +kernel
theorem dX0_sets_8 : decode cX0_sets 8 = .ok (.ishl, 1) := by decide +kernel
theorem dX0_sets_9 : decode cX0_sets 9 = .ok (.invokestatic 28, 3) := by decide +kernel
theorem dX0_sets_12 : decode cX0_sets 12 = .ok (.ireturn, 1) := by decide +kernel
theorem dX0_kindOf_0 : decode cX0_kindOf 0 = .ok (.aload_n 0, 1) := by decide +kernel
theorem dX0_kindOf_1 : decode cX0_kindOf 1 = .ok (.iload_n 1, 1) := by decide +kernel
theorem dX0_kindOf_2 : decode cX0_kindOf 2 = .ok (.invokevirtual 34, 3) := by decide +kernel
theorem dX0_kindOf_5 : decode cX0_kindOf 5 = .ok (.ifCond .eq 12, 3) := by decide +kernel
theorem dX0_kindOf_8 : decode cX0_kindOf 8 = .ok (.aload_n 0, 1) := by decide +kernel
theorem dX0_kindOf_9 : decode cX0_kindOf 9 = .ok (.getfield 9, 3) := by decide +kernel
theorem dX0_kindOf_12 : decode cX0_kindOf 12 = .ok (.iload_n 1, 1) := by decide +kernel
theorem dX0_kindOf_13 : decode cX0_kindOf 13 = .ok (.iaload, 1) := by decide +kernel
theorem dX0_kindOf_14 : decode cX0_kindOf 14 = .ok (.goto 4, 3) := by decide +kernel
theorem dX0_kindOf_17 : decode cX0_kindOf 17 = .ok (.iconst 0, 1) := by decide +kernel
theorem dX0_kindOf_18 : decode cX0_kindOf 18 = .ok (.ireturn, 1) := by decide +kernel
theorem dX0_lineOf_0 : decode cX0_lineOf 0 = .ok (.aload_n 0, 1) := by decide +kernel
theorem dX0_lineOf_1 : decode cX0_lineOf 1 = .ok (.iload_n 1, 1) := by decide +kernel
theorem dX0_lineOf_2 : decode cX0_lineOf 2 = .ok (.invokevirtual 34, 3) := by decide +kernel
theorem dX0_lineOf_5 : decode cX0_lineOf 5 = .ok (.ifCond .eq 12, 3) := by decide +kernel
theorem dX0_lineOf_8 : decode cX0_lineOf 8 = .ok (.aload_n 0, 1) := by decide +kernel
theorem dX0_lineOf_9 : decode cX0_lineOf 9 = .ok (.getfield 15, 3) := by decide +kernel
theorem dX0_lineOf_12 : decode cX0_lineOf 12 = .ok (.iload_n 1, 1) := by decide +kernel
theorem dX0_lineOf_13 : decode cX0_lineOf 13 = .ok (.iaload, 1) := by decide +kernel
theorem dX0_lineOf_14 : decode cX0_lineOf 14 = .ok (.goto 4, 3) := by decide +kernel
theorem dX0_lineOf_17 : decode cX0_lineOf 17 = .ok (.iconst 0, 1) := by decide +kernel
theorem dX0_lineOf_18 : decode cX0_lineOf 18 = .ok (.ireturn, 1) := by decide +kernel
theorem dX0_columnOf_0 : decode cX0_columnOf 0 = .ok (.aload_n 0, 1) := by decide +kernel
theorem dX0_columnOf_1 : decode cX0_columnOf 1 = .ok (.iload_n 1, 1) := by decide +kernel
theorem dX0_columnOf_2 : decode cX0_columnOf 2 = .ok (.invokevirtual 34, 3) := by decide +kernel
theorem dX0_columnOf_5 : decode cX0_columnOf 5 = .ok (.ifCond .eq 12, 3) := by decide +kernel
theorem dX0_columnOf_8 : decode cX0_columnOf 8 = .ok (.aload_n 0, 1) := by decide +kernel
theorem dX0_columnOf_9 : decode cX0_columnOf 9 = .ok (.getfield 18, 3) := by decide +kernel
theorem dX0_columnOf_12 : decode cX0_columnOf 12 = .ok (.iload_n 1, 1) := by decide +kernel
theorem dX0_columnOf_13 : decode cX0_columnOf 13 = .ok (.iaload, 1) := by decide +kernel
theorem dX0_columnOf_14 : decode cX0_columnOf 14 = .ok (.goto 4, 3) := by decide +kernel
theorem dX0_columnOf_17 : decode cX0_columnOf 17 = .ok (.iconst 0, 1) := by decide +kernel
theorem dX0_columnOf_18 : decode cX0_columnOf 18 = .ok (.ireturn, 1) := by decide +kernel
theorem dX0_delayOf_0 : decode cX0_delayOf 0 = .ok (.aload_n 0, 1) := by decide +kernel
theorem dX0_delayOf_1 : decode cX0_delayOf 1 = .ok (.iload_n 1, 1) := by decide +kernel
theorem dX0_delayOf_2 : decode cX0_delayOf 2 = .ok (.invokevirtual 34, 3) := by decide +kernel
theorem dX0_delayOf_5 : decode cX0_delayOf 5 = .ok (.ifCond .eq 12, 3) := by decide +kernel
theorem dX0_delayOf_8 : decode cX0_delayOf 8 = .ok (.aload_n 0, 1) := by decide +kernel
theorem dX0_delayOf_9 : decode cX0_delayOf 9 = .ok (.getfield 21, 3) := by decide +kernel
theorem dX0_delayOf_12 : decode cX0_delayOf 12 = .ok (.iload_n 1, 1) := by decide +kernel
theorem dX0_delayOf_13 : decode cX0_delayOf 13 = .ok (.iaload, 1) := by decide +kernel
theorem dX0_delayOf_14 : decode cX0_delayOf 14 = .ok (.goto 4, 3) := by decide +kernel
theorem dX0_delayOf_17 : decode cX0_delayOf 17 = .ok (.iconst 0, 1) := by decide +kernel
theorem dX0_delayOf_18 : decode cX0_delayOf 18 = .ok (.ireturn, 1) := by decide +kernel
theorem dX0_keyAt_0 : decode cX0_keyAt 0 = .ok (.iconst 0, 1) := by decide +kernel
theorem dX0_keyAt_1 : decode cX0_keyAt 1 = .ok (.istore_n 3, 1) := by decide +kernel
theorem dX0_keyAt_2 : decode cX0_keyAt 2 = .ok (.iload_n 3, 1) := by decide +kernel
theorem dX0_keyAt_3 : decode cX0_keyAt 3 = .ok (.aload_n 0, 1) := by decide +kernel
theorem dX0_keyAt_4 : decode cX0_keyAt 4 = .ok (.getfield 24, 3) := by decide +kernel
theorem dX0_keyAt_7 : decode cX0_keyAt 7 = .ok (.if_icmp .ge 37, 3) := by decide +kernel
theorem dX0_keyAt_10 : decode cX0_keyAt 10 = .ok (.iload_n 3, 1) := by decide +kernel
theorem dX0_keyAt_11 : decode cX0_keyAt 11 = .ok (.bipush 7, 2) := by decide +kernel
theorem dX0_keyAt_13 : decode cX0_keyAt 13 = .ok (.if_icmp .ge 31, 3) := by decide +kernel
theorem dX0_keyAt_16 : decode cX0_keyAt 16 = .ok (.aload_n 0, 1) := by decide +kernel
theorem dX0_keyAt_17 : decode cX0_keyAt 17 = .ok (.getfield 15, 3) := by decide +kernel
theorem dX0_keyAt_20 : decode cX0_keyAt 20 = .ok (.iload_n 3, 1) := by decide +kernel
theorem dX0_keyAt_21 : decode cX0_keyAt 21 = .ok (.iaload, 1) := by decide +kernel
theorem dX0_keyAt_22 : decode cX0_keyAt 22 = .ok (.iload_n 1, 1) := by decide +kernel
theorem dX0_keyAt_23 : decode cX0_keyAt 23 = .ok (.if_icmp .ne 15, 3) := by decide +kernel
theorem dX0_keyAt_26 : decode cX0_keyAt 26 = .ok (.aload_n 0, 1) := by decide +kernel
theorem dX0_keyAt_27 : decode cX0_keyAt 27 = .ok (.getfield 18, 3) := by decide +kernel
theorem dX0_keyAt_30 : decode cX0_keyAt 30 = .ok (.iload_n 3, 1) := by decide +kernel
theorem dX0_keyAt_31 : decode cX0_keyAt 31 = .ok (.iaload, 1) := by decide +kernel
theorem dX0_keyAt_32 : decode cX0_keyAt 32 = .ok (.iload_n 2, 1) := by decide +kernel
theorem dX0_keyAt_33 : decode cX0_keyAt 33 = .ok (.if_icmp .ne 5, 3) := by decide +kernel
theorem dX0_keyAt_36 : decode cX0_keyAt 36 = .ok (.iload_n 3, 1) := by decide +kernel
theorem dX0_keyAt_37 : decode cX0_keyAt 37 = .ok (.ireturn, 1) := by decide +kernel
theorem dX0_keyAt_38 : decode cX0_keyAt 38 = .ok (.iinc 3 1, 3) := by decide +kernel
theorem dX0_keyAt_41 : decode cX0_keyAt 41 = .ok (.goto (-39), 3) := by decide +kernel
theorem dX0_keyAt_44 : decode cX0_keyAt 44 = .ok (.bipush (-9), 2) := by decide +kernel
theorem dX0_keyAt_46 : decode cX0_keyAt 46 = .ok (.ireturn, 1) := by decide +kernel
theorem dX0_howManyOf_0 : decode cX0_howManyOf 0 = .ok (.iconst 0, 1) := by decide +kernel
theorem dX0_howManyOf_1 : decode cX0_howManyOf 1 = .ok (.istore_n 2, 1) := by decide +kernel
theorem dX0_howManyOf_2 : decode cX0_howManyOf 2 = .ok (.iconst 0, 1) := by decide +kernel
theorem dX0_howManyOf_3 : decode cX0_howManyOf 3 = .ok (.istore_n 3, 1) := by decide +kernel
theorem dX0_howManyOf_4 : decode cX0_howManyOf 4 = .ok (.iload_n 3, 1) := by decide +kernel
theorem dX0_howManyOf_5 : decode cX0_howManyOf 5 = .ok (.aload_n 0, 1) := by decide +kernel
theorem dX0_howManyOf_6 : decode cX0_howManyOf 6 = .ok (.getfield 24, 3) := by decide +kernel
theorem dX0_howManyOf_9 : decode cX0_howManyOf 9 = .ok (.if_icmp .ge 31, 3) := by decide +kernel
theorem dX0_howManyOf_12 : decode cX0_howManyOf 12 = .ok (.iload_n 3, 1) := by decide +kernel
theorem dX0_howManyOf_13 : decode cX0_howManyOf 13 = .ok (.bipush 7, 2) := by decide +kernel
theorem dX0_howManyOf_15 : decode cX0_howManyOf 15 = .ok (.if_icmp .ge 25, 3) := by decide +kernel
theorem dX0_howManyOf_18 : decode cX0_howManyOf 18 = .ok (.aload_n 0, 1) := by decide +kernel
theorem dX0_howManyOf_19 : decode cX0_howManyOf 19 = .ok (.getfield 9, 3) := by decide +kernel
theorem dX0_howManyOf_22 : decode cX0_howManyOf 22 = .ok (.iload_n 3, 1) := by decide +kernel
theorem dX0_howManyOf_23 : decode cX0_howManyOf 23 = .ok (.iaload, 1) := by decide +kernel
theorem dX0_howManyOf_24 : decode cX0_howManyOf 24 = .ok (.iload_n 1, 1) := by decide +kernel
theorem dX0_howManyOf_25 : decode cX0_howManyOf 25 = .ok (.invokestatic 38, 3) := by decide +kernel
theorem dX0_howManyOf_28 : decode cX0_howManyOf 28 = .ok (.ifCond .eq 6, 3) := by decide +kernel
theorem dX0_howManyOf_31 : decode cX0_howManyOf 31 = .ok (.iinc 2 1, 3) := by decide +kernel
theorem dX0_howManyOf_34 : decode cX0_howManyOf 34 = .ok (.iinc 3 1, 3) := by decide +kernel
theorem dX0_howManyOf_37 : decode cX0_howManyOf 37 = .ok (.goto (-33), 3) := by decide +kernel
theorem dX0_howManyOf_40 : decode cX0_howManyOf 40 = .ok (.iload_n 2, 1) := by decide +kernel
theorem dX0_howManyOf_41 : decode cX0_howManyOf 41 = .ok (.ireturn, 1) := by decide +kernel
theorem dX0_turnInto_0 : decode cX0_turnInto 0 = .ok (.aload_n 0, 1) := by decide +kernel
theorem dX0_turnInto_1 : decode cX0_turnInto 1 = .ok (.iload_n 1, 1) := by decide +kernel
theorem dX0_turnInto_2 : decode cX0_turnInto 2 = .ok (.invokevirtual 34, 3) := by decide +kernel
theorem dX0_turnInto_5 : decode cX0_turnInto 5 = .ok (.ifCond .eq 10, 3) := by decide +kernel
theorem dX0_turnInto_8 : decode cX0_turnInto 8 = .ok (.aload_n 0, 1) := by decide +kernel
theorem dX0_turnInto_9 : decode cX0_turnInto 9 = .ok (.getfield 9, 3) := by decide +kernel
theorem dX0_turnInto_12 : decode cX0_turnInto 12 = .ok (.iload_n 1, 1) := by decide +kernel
theorem dX0_turnInto_13 : decode cX0_turnInto 13 = .ok (.iload_n 2, 1) := by decide +kernel
theorem dX0_turnInto_14 : decode cX0_turnInto 14 = .ok (.iastore, 1) := by decide +kernel
theorem dX0_turnInto_15 : decode cX0_turnInto 15 = .ok (.return_, 1) := by decide +kernel
theorem dX0_seat_0 : decode cX0_seat 0 = .ok (.aload_n 0, 1) := by decide +kernel
theorem dX0_seat_1 : decode cX0_seat 1 = .ok (.iload_n 1, 1) := by decide +kernel
theorem dX0_seat_2 : decode cX0_seat 2 = .ok (.invokevirtual 34, 3) := by decide +kernel
theorem dX0_seat_5 : decode cX0_seat 5 = .ok (.ifCond .eq 17, 3) := by decide +kernel
theorem dX0_seat_8 : decode cX0_seat 8 = .ok (.aload_n 0, 1) := by decide +kernel
theorem dX0_seat_9 : decode cX0_seat 9 = .ok (.getfield 15, 3) := by decide +kernel
theorem dX0_seat_12 : decode cX0_seat 12 = .ok (.iload_n 1, 1) := by decide +kernel
theorem dX0_seat_13 : decode cX0_seat 13 = .ok (.iload_n 2, 1) := by decide +kernel
theorem dX0_seat_14 : decode cX0_seat 14 = .ok (.iastore, 1) := by decide +kernel
theorem dX0_seat_15 : decode cX0_seat 15 = .ok (.aload_n 0, 1) := by decide +kernel
theorem dX0_seat_16 : decode cX0_seat 16 = .ok (.getfield 18, 3) := by decide +kernel
theorem dX0_seat_19 : decode cX0_seat 19 = .ok (.iload_n 1, 1) := by decide +kernel
theorem dX0_seat_20 : decode cX0_seat 20 = .ok (.iload_n 3, 1) := by decide +kernel
theorem dX0_seat_21 : decode cX0_seat 21 = .ok (.iastore, 1) := by decide +kernel
theorem dX0_seat_22 : decode cX0_seat 22 = .ok (.return_, 1) := by decide +kernel
theorem dX0_copyFrom_0 : decode cX0_copyFrom 0 = .ok (.aload_n 0, 1) := by decide +kernel
theorem dX0_copyFrom_1 : decode cX0_copyFrom 1 = .ok (.aload_n 1, 1) := by decide +kernel
theorem dX0_copyFrom_2 : decode cX0_copyFrom 2 = .ok (.getfield 24, 3) := by decide +kernel
theorem dX0_copyFrom_5 : decode cX0_copyFrom 5 = .ok (.putfield 24, 3) := by decide +kernel
theorem dX0_copyFrom_8 : decode cX0_copyFrom 8 = .ok (.iconst 0, 1) := by decide +kernel
theorem dX0_copyFrom_9 : decode cX0_copyFrom 9 = .ok (.istore_n 2, 1) := by decide +kernel
theorem dX0_copyFrom_10 : decode cX0_copyFrom 10 = .ok (.iload_n 2, 1) := by decide +kernel
theorem dX0_copyFrom_11 : decode cX0_copyFrom 11 = .ok (.bipush 7, 2) := by decide +kernel
theorem dX0_copyFrom_13 : decode cX0_copyFrom 13 = .ok (.if_icmp .ge 57, 3) := by decide +kernel
theorem dX0_copyFrom_16 : decode cX0_copyFrom 16 = .ok (.aload_n 0, 1) := by decide +kernel
theorem dX0_copyFrom_17 : decode cX0_copyFrom 17 = .ok (.getfield 9, 3) := by decide +kernel
theorem dX0_copyFrom_20 : decode cX0_copyFrom 20 = .ok (.iload_n 2, 1) := by decide +kernel
theorem dX0_copyFrom_21 : decode cX0_copyFrom 21 = .ok (.aload_n 1, 1) := by decide +kernel
theorem dX0_copyFrom_22 : decode cX0_copyFrom 22 = .ok (.getfield 9, 3) := by decide +kernel
theorem dX0_copyFrom_25 : decode cX0_copyFrom 25 = .ok (.iload_n 2, 1) := by decide +kernel
theorem dX0_copyFrom_26 : decode cX0_copyFrom 26 = .ok (.iaload, 1) := by decide +kernel
theorem dX0_copyFrom_27 : decode cX0_copyFrom 27 = .ok (.iastore, 1) := by decide +kernel
theorem dX0_copyFrom_28 : decode cX0_copyFrom 28 = .ok (.aload_n 0, 1) := by decide +kernel
theorem dX0_copyFrom_29 : decode cX0_copyFrom 29 = .ok (.getfield 15, 3) := by decide +kernel
theorem dX0_copyFrom_32 : decode cX0_copyFrom 32 = .ok (.iload_n 2, 1) := by decide +kernel
theorem dX0_copyFrom_33 : decode cX0_copyFrom 33 = .ok (.aload_n 1, 1) := by decide +kernel
theorem dX0_copyFrom_34 : decode cX0_copyFrom 34 = .ok (.getfield 15, 3) := by decide +kernel
theorem dX0_copyFrom_37 : decode cX0_copyFrom 37 = .ok (.iload_n 2, 1) := by decide +kernel
theorem dX0_copyFrom_38 : decode cX0_copyFrom 38 = .ok (.iaload, 1) := by decide +kernel
theorem dX0_copyFrom_39 : decode cX0_copyFrom 39 = .ok (.iastore, 1) := by decide +kernel
theorem dX0_copyFrom_40 : decode cX0_copyFrom 40 = .ok (.aload_n 0, 1) := by decide +kernel
theorem dX0_copyFrom_41 : decode cX0_copyFrom 41 = .ok (.getfield 18, 3) := by decide +kernel
theorem dX0_copyFrom_44 : decode cX0_copyFrom 44 = .ok (.iload_n 2, 1) := by decide +kernel
theorem dX0_copyFrom_45 : decode cX0_copyFrom 45 = .ok (.aload_n 1, 1) := by decide +kernel
theorem dX0_copyFrom_46 : decode cX0_copyFrom 46 = .ok (.getfield 18, 3) := by decide +kernel
theorem dX0_copyFrom_49 : decode cX0_copyFrom 49 = .ok (.iload_n 2, 1) := by decide +kernel
theorem dX0_copyFrom_50 : decode cX0_copyFrom 50 = .ok (.iaload, 1) := by decide +kernel
theorem dX0_copyFrom_51 : decode cX0_copyFrom 51 = .ok (.iastore, 1) := by decide +kernel
theorem dX0_copyFrom_52 : decode cX0_copyFrom 52 = .ok (.aload_n 0, 1) := by decide +kernel
theorem dX0_copyFrom_53 : decode cX0_copyFrom 53 = .ok (.getfield 21, 3) := by decide +kernel
theorem dX0_copyFrom_56 : decode cX0_copyFrom 56 = .ok (.iload_n 2, 1) := by decide +kernel
theorem dX0_copyFrom_57 : decode cX0_copyFrom 57 = .ok (.aload_n 1, 1) := by decide +kernel
theorem dX0_copyFrom_58 : decode cX0_copyFrom 58 = .ok (.getfield 21, 3) := by decide +kernel
theorem dX0_copyFrom_61 : decode cX0_copyFrom 61 = .ok (.iload_n 2, 1) := by decide +kernel
theorem dX0_copyFrom_62 : decode cX0_copyFrom 62 = .ok (.iaload, 1) := by decide +kernel
theorem dX0_copyFrom_63 : decode cX0_copyFrom 63 = .ok (.iastore, 1) := by decide +kernel
theorem dX0_copyFrom_64 : decode cX0_copyFrom 64 = .ok (.iinc 2 1, 3) := by decide +kernel
theorem dX0_copyFrom_67 : decode cX0_copyFrom 67 = .ok (.goto (-57), 3) := by decide +kernel
theorem dX0_copyFrom_70 : decode cX0_copyFrom 70 = .ok (.return_, 1) := by decide +kernel
theorem dX0_conducts_0 : decode cX0_conducts 0 = .ok (.aload_n 0, 1) := by decide +kernel
theorem dX0_conducts_1 : decode cX0_conducts 1 = .ok (.iload_n 1, 1) := by decide +kernel
theorem dX0_conducts_2 : decode cX0_conducts 2 = .ok (.invokevirtual 34, 3) := by decide +kernel
theorem dX0_conducts_5 : decode cX0_conducts 5 = .ok (.ifCond .ne 5, 3) := by decide +kernel
theorem dX0_conducts_8 : decode cX0_conducts 8 = .ok (.iconst 0, 1) := by decide +kernel
theorem dX0_conducts_9 : decode cX0_conducts 9 = .ok (.ireturn, 1) := by decide +kernel
theorem dX0_conducts_10 : decode cX0_conducts 10 = .ok (.aload_n 0, 1) := by decide +kernel
theorem dX0_conducts_11 : decode cX0_conducts 11 = .ok (.getfield 9, 3) := by decide +kernel
theorem dX0_conducts_14 : decode cX0_conducts 14 = .ok (.iload_n 1, 1) := by decide +kernel
theorem dX0_conducts_15 : decode cX0_conducts 15 = .ok (.iaload, 1) := by decide +kernel
theorem dX0_conducts_16 : decode cX0_conducts 16 = .ok (.iconst 3, 1) := by decide +kernel
theorem dX0_conducts_17 : decode cX0_conducts 17 = .ok (.if_icmp .eq 11, 3) := by decide +kernel
theorem dX0_conducts_20 : decode cX0_conducts 20 = .ok (.iload_n 3, 1) := by decide +kernel
theorem dX0_conducts_21 : decode cX0_conducts 21 = .ok (.iload_n 1, 1) := by decide +kernel
theorem dX0_conducts_22 : decode cX0_conducts 22 = .ok (.invokestatic 42, 3) := by decide +kernel
theorem dX0_conducts_25 : decode cX0_conducts 25 = .ok (.ifCond .ne 19, 3) := by decide +kernel
theorem dX0_conducts_28 : decode cX0_conducts 28 = .ok (.aload_n 0, 1) := by decide +kernel
theorem dX0_conducts_29 : decode cX0_conducts 29 = .ok (.getfield 9, 3) := by decide +kernel
theorem dX0_conducts_32 : decode cX0_conducts 32 = .ok (.iload_n 1, 1) := by decide +kernel
theorem dX0_conducts_33 : decode cX0_conducts 33 = .ok (.iaload, 1) := by decide +kernel
theorem dX0_conducts_34 : decode cX0_conducts 34 = .ok (.iconst 3, 1) := by decide +kernel
theorem dX0_conducts_35 : decode cX0_conducts 35 = .ok (.if_icmp .ne 7, 3) := by decide +kernel
theorem dX0_conducts_38 : decode cX0_conducts 38 = .ok (.iconst 1, 1) := by decide +kernel
theorem dX0_conducts_39 : decode cX0_conducts 39 = .ok (.goto 4, 3) := by decide +kernel
theorem dX0_conducts_42 : decode cX0_conducts 42 = .ok (.iconst 0, 1) := by decide +kernel
theorem dX0_conducts_43 : decode cX0_conducts 43 = .ok (.ireturn, 1) := by decide +kernel
theorem dX0_conducts_44 : decode cX0_conducts 44 = .ok (.aload_n 0, 1) := by decide +kernel
theorem dX0_conducts_45 : decode cX0_conducts 45 = .ok (.getfield 9, 3) := by decide +kernel
theorem dX0_conducts_48 : decode cX0_conducts 48 = .ok (.iload_n 1, 1) := by decide +kernel
theorem dX0_conducts_49 : decode cX0_conducts 49 = .ok (.iaload, 1) := by decide +kernel
theorem dX0_conducts_50 : decode cX0_conducts 50 = .ok (.iconst 4, 1) := by decide +kernel
theorem dX0_conducts_51 : decode cX0_conducts 51 = .ok (.if_icmp .ne 23, 3) := by decide +kernel
theorem dX0_conducts_54 : decode cX0_conducts 54 = .ok (.aload_n 2, 1) := by decide +kernel
theorem dX0_conducts_55 : decode cX0_conducts 55 = .ok (.iload_n 1, 1) := by decide +kernel
theorem dX0_conducts_56 : decode cX0_conducts 56 = .ok (.invokevirtual 45, 3) := by decide +kernel
theorem dX0_conducts_59 : decode cX0_conducts 59 = .ok (.aload_n 0, 1) := by decide +kernel
theorem dX0_conducts_60 : decode cX0_conducts 60 = .ok (.getfield 21, 3) := by decide +kernel
theorem dX0_conducts_63 : decode cX0_conducts 63 = .ok (.iload_n 1, 1) := by decide +kernel
theorem dX0_conducts_64 : decode cX0_conducts 64 = .ok (.iaload, 1) := by decide +kernel
theorem dX0_conducts_65 : decode cX0_conducts 65 = .ok (.if_icmp .lt 7, 3) := by decide +kernel
theorem dX0_conducts_68 : decode cX0_conducts 68 = .ok (.iconst 1, 1) := by decide +kernel
theorem dX0_conducts_69 : decode cX0_conducts 69 = .ok (.goto 4, 3) := by decide +kernel
theorem dX0_conducts_72 : decode cX0_conducts 72 = .ok (.iconst 0, 1) := by decide +kernel
theorem dX0_conducts_73 : decode cX0_conducts 73 = .ok (.ireturn, 1) := by decide +kernel
theorem dX0_conducts_74 : decode cX0_conducts 74 = .ok (.aload_n 2, 1) := by decide +kernel
theorem dX0_conducts_75 : decode cX0_conducts 75 = .ok (.getfield 51, 3) := by decide +kernel
theorem dX0_conducts_78 : decode cX0_conducts 78 = .ok (.iconst 2, 1) := by decide +kernel
theorem dX0_conducts_79 : decode cX0_conducts 79 = .ok (.irem, 1) := by decide +kernel
theorem dX0_conducts_80 : decode cX0_conducts 80 = .ok (.ifCond .ne 7, 3) := by decide +kernel
theorem dX0_conducts_83 : decode cX0_conducts 83 = .ok (.iconst 1, 1) := by decide +kernel
theorem dX0_conducts_84 : decode cX0_conducts 84 = .ok (.goto 4, 3) := by decide +kernel
theorem dX0_conducts_87 : decode cX0_conducts 87 = .ok (.iconst 0, 1) := by decide +kernel
theorem dX0_conducts_88 : decode cX0_conducts 88 = .ok (.istore 4, 2) := by decide +kernel
theorem dX0_conducts_90 : decode cX0_conducts 90 = .ok (.aload_n 0, 1) := by decide +kernel
theorem dX0_conducts_91 : decode cX0_conducts 91 = .ok (.getfield 9, 3) := by decide +kernel
theorem dX0_conducts_94 : decode cX0_conducts 94 = .ok (.iload_n 1, 1) := by decide +kernel
theorem dX0_conducts_95 : decode cX0_conducts 95 = .ok (.iaload, 1) := by decide +kernel
theorem dX0_conducts_96 : decode cX0_conducts 96 = .ok (.iconst 5, 1) := by decide +kernel
theorem dX0_conducts_97 : decode cX0_conducts 97 = .ok (.if_icmp .ne 39, 3) := by decide +kernel
theorem dX0_conducts_100 : decode cX0_conducts 100 = .ok (.aload_n 0, 1) := by decide +kernel
theorem dX0_conducts_101 : decode cX0_conducts 101 = .ok (.getfield 21, 3) := by decide +kernel
theorem dX0_conducts_104 : decode cX0_conducts 104 = .ok (.iload_n 1, 1) := by decide +kernel
theorem dX0_conducts_105 : decode cX0_conducts 105 = .ok (.iaload, 1) := by decide +kernel
theorem dX0_conducts_106 : decode cX0_conducts 106 = .ok (.iconst 1, 1) := by decide +kernel
theorem dX0_conducts_107 : decode cX0_conducts 107 = .ok (.iadd, 1) := by decide +kernel
theorem dX0_conducts_108 : decode cX0_conducts 108 = .ok (.istore 5, 2) := by decide +kernel
theorem dX0_conducts_110 : decode cX0_conducts 110 = .ok (.iload 4, 2) := by decide +kernel
theorem dX0_conducts_112 : decode cX0_conducts 112 = .ok (.ifCond .eq 22, 3) := by decide +kernel
theorem dX0_conducts_115 : decode cX0_conducts 115 = .ok (.iload 5, 2) := by decide +kernel
theorem dX0_conducts_117 : decode cX0_conducts 117 = .ok (.ifCond .le 17, 3) := by decide +kernel
theorem dX0_conducts_120 : decode cX0_conducts 120 = .ok (.aload_n 2, 1) := by decide +kernel
theorem dX0_conducts_121 : decode cX0_conducts 121 = .ok (.getfield 51, 3) := by decide +kernel
theorem dX0_conducts_124 : decode cX0_conducts 124 = .ok (.iload 5, 2) := by decide +kernel
theorem dX0_conducts_126 : decode cX0_conducts 126 = .ok (.irem, 1) := by decide +kernel
theorem dX0_conducts_127 : decode cX0_conducts 127 = .ok (.ifCond .ne 7, 3) := by decide +kernel
theorem dX0_conducts_130 : decode cX0_conducts 130 = .ok (.iconst 1, 1) := by decide +kernel
theorem dX0_conducts_131 : decode cX0_conducts 131 = .ok (.goto 4, 3) := by decide +kernel
theorem dX0_conducts_134 : decode cX0_conducts 134 = .ok (.iconst 0, 1) := by decide +kernel
theorem dX0_conducts_135 : decode cX0_conducts 135 = .ok (.ireturn, 1) := by decide +kernel
theorem dX0_conducts_136 : decode cX0_conducts 136 = .ok (.iload 4, 2) := by decide +kernel
theorem dX0_conducts_138 : decode cX0_conducts 138 = .ok (.ifCond .ne 13, 3) := by decide +kernel
theorem dX0_conducts_141 : decode cX0_conducts 141 = .ok (.aload_n 0, 1) := by decide +kernel
theorem dX0_conducts_142 : decode cX0_conducts 142 = .ok (.getfield 9, 3) := by decide +kernel
theorem dX0_conducts_145 : decode cX0_conducts 145 = .ok (.iload_n 1, 1) := by decide +kernel
theorem dX0_conducts_146 : decode cX0_conducts 146 = .ok (.iaload, 1) := by decide +kernel
theorem dX0_conducts_147 : decode cX0_conducts 147 = .ok (.iconst 2, 1) := by decide +kernel
theorem dX0_conducts_148 : decode cX0_conducts 148 = .ok (.if_icmp .eq 7, 3) := by decide +kernel
theorem dX0_conducts_151 : decode cX0_conducts 151 = .ok (.iconst 1, 1) := by decide +kernel
theorem dX0_conducts_152 : decode cX0_conducts 152 = .ok (.goto 4, 3) := by decide +kernel
theorem dX0_conducts_155 : decode cX0_conducts 155 = .ok (.iconst 0, 1) := by decide +kernel
theorem dX0_conducts_156 : decode cX0_conducts 156 = .ok (.ireturn, 1) := by decide +kernel
theorem dX0_readFrom_0 : decode cX0_readFrom 0 = .ok (.aload_n 0, 1) := by decide +kernel
theorem dX0_readFrom_1 : decode cX0_readFrom 1 = .ok (.iconst 0, 1) := by decide +kernel
theorem dX0_readFrom_2 : decode cX0_readFrom 2 = .ok (.putfield 24, 3) := by decide +kernel
theorem dX0_readFrom_5 : decode cX0_readFrom 5 = .ok (.aload_n 1, 1) := by decide +kernel
theorem dX0_readFrom_6 : decode cX0_readFrom 6 = .ok (.iload_n 2, 1) := by decide +kernel
theorem dX0_readFrom_7 : decode cX0_readFrom 7 = .ok (.invokevirtual 54, 3) := by decide +kernel
theorem dX0_readFrom_10 : decode cX0_readFrom 10 = .ok (.istore_n 3, 1) := by decide +kernel
theorem dX0_readFrom_11 : decode cX0_readFrom 11 = .ok (.aload_n 1, 1) := by decide +kernel
theorem dX0_readFrom_12 : decode cX0_readFrom 12 = .ok (.iload_n 2, 1) := by decide +kernel
theorem dX0_readFrom_13 : decode cX0_readFrom 13 = .ok (.iconst 0, 1) := by decide +kernel
theorem dX0_readFrom_14 : decode cX0_readFrom 14 = .ok (.invokestatic 58, 3) := by decide +kernel
theorem dX0_readFrom_17 : decode cX0_readFrom 17 = .ok (.istore 4, 2) := by decide +kernel
theorem dX0_readFrom_19 : decode cX0_readFrom 19 = .ok (.iconst 0, 1) := by decide +kernel
theorem dX0_readFrom_20 : decode cX0_readFrom 20 = .ok (.istore 5, 2) := by decide +kernel
theorem dX0_readFrom_22 : decode cX0_readFrom 22 = .ok (.iload 5, 2) := by decide +kernel
theorem dX0_readFrom_24 : decode cX0_readFrom 24 = .ok (.bipush 7, 2) := by decide +kernel
theorem dX0_readFrom_26 : decode cX0_readFrom 26 = .ok (.if_icmp .ge 58, 3) := by decide +kernel
theorem dX0_readFrom_29 : decode cX0_readFrom 29 = .ok (.iload 4, 2) := by decide +kernel
theorem dX0_readFrom_31 : decode cX0_readFrom 31 = .ok (.iload_n 3, 1) := by decide +kernel
theorem dX0_readFrom_32 : decode cX0_readFrom 32 = .ok (.if_icmp .ge 52, 3) := by decide +kernel
theorem dX0_readFrom_35 : decode cX0_readFrom 35 = .ok (.aload_n 0, 1) := by decide +kernel
theorem dX0_readFrom_36 : decode cX0_readFrom 36 = .ok (.aload_n 1, 1) := by decide +kernel
theorem dX0_readFrom_37 : decode cX0_readFrom 37 = .ok (.iload_n 2, 1) := by decide +kernel
theorem dX0_readFrom_38 : decode cX0_readFrom 38 = .ok (.iload 4, 2) := by decide +kernel
theorem dX0_readFrom_40 : decode cX0_readFrom 40 = .ok (.invokevirtual 62, 3) := by decide +kernel
theorem dX0_readFrom_43 : decode cX0_readFrom 43 = .ok (.istore 6, 2) := by decide +kernel
theorem dX0_readFrom_45 : decode cX0_readFrom 45 = .ok (.iload 6, 2) := by decide +kernel
theorem dX0_readFrom_47 : decode cX0_readFrom 47 = .ok (.iconst 4, 1) := by decide +kernel
theorem dX0_readFrom_48 : decode cX0_readFrom 48 = .ok (.if_icmp .ge 9, 3) := by decide +kernel
theorem dX0_readFrom_51 : decode cX0_readFrom 51 = .ok (.iload 4, 2) := by decide +kernel
theorem dX0_readFrom_53 : decode cX0_readFrom 53 = .ok (.iload 6, 2) := by decide +kernel
theorem dX0_readFrom_55 : decode cX0_readFrom 55 = .ok (.iadd, 1) := by decide +kernel
theorem dX0_readFrom_56 : decode cX0_readFrom 56 = .ok (.ireturn, 1) := by decide +kernel
theorem dX0_readFrom_57 : decode cX0_readFrom 57 = .ok (.aload_n 0, 1) := by decide +kernel
theorem dX0_readFrom_58 : decode cX0_readFrom 58 = .ok (.dup, 1) := by decide +kernel
theorem dX0_readFrom_59 : decode cX0_readFrom 59 = .ok (.getfield 24, 3) := by decide +kernel
theorem dX0_readFrom_62 : decode cX0_readFrom 62 = .ok (.iconst 1, 1) := by decide +kernel
theorem dX0_readFrom_63 : decode cX0_readFrom 63 = .ok (.iadd, 1) := by decide +kernel
theorem dX0_readFrom_64 : decode cX0_readFrom 64 = .ok (.putfield 24, 3) := by decide +kernel
theorem dX0_readFrom_67 : decode cX0_readFrom 67 = .ok (.aload_n 1, 1) := by decide +kernel
theorem dX0_readFrom_68 : decode cX0_readFrom 68 = .ok (.iload_n 2, 1) := by decide +kernel
theorem dX0_readFrom_69 : decode cX0_readFrom 69 = .ok (.iload 4, 2) := by decide +kernel
theorem dX0_readFrom_71 : decode cX0_readFrom 71 = .ok (.iconst 4, 1) := by decide +kernel
theorem dX0_readFrom_72 : decode cX0_readFrom 72 = .ok (.iadd, 1) := by decide +kernel
theorem dX0_readFrom_73 : decode cX0_readFrom 73 = .ok (.invokestatic 58, 3) := by decide +kernel
theorem dX0_readFrom_76 : decode cX0_readFrom 76 = .ok (.istore 4, 2) := by decide +kernel
theorem dX0_readFrom_78 : decode cX0_readFrom 78 = .ok (.iinc 5 1, 3) := by decide +kernel
theorem dX0_readFrom_81 : decode cX0_readFrom 81 = .ok (.goto (-59), 3) := by decide +kernel
theorem dX0_readFrom_84 : decode cX0_readFrom 84 = .ok (.iload 4, 2) := by decide +kernel
theorem dX0_readFrom_86 : decode cX0_readFrom 86 = .ok (.iload_n 3, 1) := by decide +kernel
theorem dX0_readFrom_87 : decode cX0_readFrom 87 = .ok (.if_icmp .ge 6, 3) := by decide +kernel
theorem dX0_readFrom_90 : decode cX0_readFrom 90 = .ok (.iload 4, 2) := by decide +kernel
theorem dX0_readFrom_92 : decode cX0_readFrom 92 = .ok (.ireturn, 1) := by decide +kernel
theorem dX0_readFrom_93 : decode cX0_readFrom 93 = .ok (.aload_n 0, 1) := by decide +kernel
theorem dX0_readFrom_94 : decode cX0_readFrom 94 = .ok (.getfield 24, 3) := by decide +kernel
theorem dX0_readFrom_97 : decode cX0_readFrom 97 = .ok (.iconst 2, 1) := by decide +kernel
theorem dX0_readFrom_98 : decode cX0_readFrom 98 = .ok (.if_icmp .ge 7, 3) := by decide +kernel
theorem dX0_readFrom_101 : decode cX0_readFrom 101 = .ok (.iload_n 3, 1) := by decide +kernel
theorem dX0_readFrom_102 : decode cX0_readFrom 102 = .ok (.goto 5, 3) := by decide +kernel
theorem dX0_readFrom_105 : decode cX0_readFrom 105 = .ok (.bipush (-9), 2) := by decide +kernel
theorem dX0_readFrom_107 : decode cX0_readFrom 107 = .ok (.ireturn, 1) := by decide +kernel
theorem dX0_behindBlanks_0 : decode cX0_behindBlanks 0 = .ok (.aload_n 0, 1) := by decide +kernel
theorem dX0_behindBlanks_1 : decode cX0_behindBlanks 1 = .ok (.iload_n 1, 1) := by decide +kernel
theorem dX0_behindBlanks_2 : decode cX0_behindBlanks 2 = .ok (.invokevirtual 54, 3) := by decide +kernel
theorem dX0_behindBlanks_5 : decode cX0_behindBlanks 5 = .ok (.istore_n 3, 1) := by decide +kernel
theorem dX0_behindBlanks_6 : decode cX0_behindBlanks 6 = .ok (.iload_n 2, 1) := by decide +kernel
theorem dX0_behindBlanks_7 : decode cX0_behindBlanks 7 = .ok (.istore 4, 2) := by decide +kernel
theorem dX0_behindBlanks_9 : decode cX0_behindBlanks 9 = .ok (.iload 4, 2) := by decide +kernel
theorem dX0_behindBlanks_11 : decode cX0_behindBlanks 11 = .ok (.iload_n 3, 1) := by decide +kernel
theorem dX0_behindBlanks_12 : decode cX0_behindBlanks 12 = .ok (.if_icmp .ge 24, 3) := by decide +kernel
theorem dX0_behindBlanks_15 : decode cX0_behindBlanks 15 = .ok (.aload_n 0, 1) := by decide +kernel
theorem dX0_behindBlanks_16 : decode cX0_behindBlanks 16 = .ok (.iload_n 1, 1) := by decide +kernel
theorem dX0_behindBlanks_17 : decode cX0_behindBlanks 17 = .ok (.iload 4, 2) := by decide +kernel
theorem dX0_behindBlanks_19 : decode cX0_behindBlanks 19 = .ok (.invokevirtual 65, 3) := by decide +kernel
theorem dX0_behindBlanks_22 : decode cX0_behindBlanks 22 = .ok (.bipush 32, 2) := by decide +kernel
theorem dX0_behindBlanks_24 : decode cX0_behindBlanks 24 = .ok (.if_icmp .eq 6, 3) := by decide +kernel
theorem dX0_behindBlanks_27 : decode cX0_behindBlanks 27 = .ok (.iload 4, 2) := by decide +kernel
theorem dX0_behindBlanks_29 : decode cX0_behindBlanks 29 = .ok (.ireturn, 1) := by decide +kernel
theorem dX0_behindBlanks_30 : decode cX0_behindBlanks 30 = .ok (.iinc 4 1, 3) := by decide +kernel
theorem dX0_behindBlanks_33 : decode cX0_behindBlanks 33 = .ok (.goto (-24), 3) := by decide +kernel
theorem dX0_behindBlanks_36 : decode cX0_behindBlanks 36 = .ok (.iload_n 3, 1) := by decide +kernel
theorem dX0_behindBlanks_37 : decode cX0_behindBlanks 37 = .ok (.ireturn, 1) := by decide +kernel
theorem dX0_rightSigns_0 : decode cX0_rightSigns 0 = .ok (.aload_n 1, 1) := by decide +kernel
theorem dX0_rightSigns_1 : decode cX0_rightSigns 1 = .ok (.iload_n 2, 1) := by decide +kernel
theorem dX0_rightSigns_2 : decode cX0_rightSigns 2 = .ok (.iload_n 3, 1) := by decide +kernel
theorem dX0_rightSigns_3 : decode cX0_rightSigns 3 = .ok (.invokevirtual 65, 3) := by decide +kernel
theorem dX0_rightSigns_6 : decode cX0_rightSigns 6 = .ok (.invokestatic 68, 3) := by decide +kernel
theorem dX0_rightSigns_9 : decode cX0_rightSigns 9 = .ok (.istore 4, 2) := by decide +kernel
theorem dX0_rightSigns_11 : decode cX0_rightSigns 11 = .ok (.iload 4, 2) := by decide +kernel
theorem dX0_rightSigns_13 : decode cX0_rightSigns 13 = .ok (.bipush (-9), 2) := by decide +kernel
theorem dX0_rightSigns_15 : decode cX0_rightSigns 15 = .ok (.if_icmp .eq 12, 3) := by decide +kernel
theorem dX0_rightSigns_18 : decode cX0_rightSigns 18 = .ok (.aload_n 0, 1) := by decide +kernel
theorem dX0_rightSigns_19 : decode cX0_rightSigns 19 = .ok (.getfield 24, 3) := by decide +kernel
theorem dX0_rightSigns_22 : decode cX0_rightSigns 22 = .ok (.bipush 7, 2) := by decide +kernel
theorem dX0_rightSigns_24 : decode cX0_rightSigns 24 = .ok (.if_icmp .lt 5, 3) := by decide +kernel
theorem dX0_rightSigns_27 : decode cX0_rightSigns 27 = .ok (.iconst 0, 1) := by decide +kernel
theorem dX0_rightSigns_28 : decode cX0_rightSigns 28 = .ok (.ireturn, 1) := by decide +kernel
theorem dX0_rightSigns_29 : decode cX0_rightSigns 29 = .ok (.aload_n 1, 1) := by decide +kernel
theorem dX0_rightSigns_30 : decode cX0_rightSigns 30 = .ok (.iload_n 2, 1) := by decide +kernel
theorem dX0_rightSigns_31 : decode cX0_rightSigns 31 = .ok (.iload_n 3, 1) := by decide +kernel
theorem dX0_rightSigns_32 : decode cX0_rightSigns 32 = .ok (.iconst 1, 1) := by decide +kernel
theorem dX0_rightSigns_33 : decode cX0_rightSigns 33 = .ok (.iadd, 1) := by decide +kernel
theorem dX0_rightSigns_34 : decode cX0_rightSigns 34 = .ok (.invokevirtual 65, 3) := by decide +kernel
theorem dX0_rightSigns_37 : decode cX0_rightSigns 37 = .ok (.iconst 4, 1) := by decide +kernel
theorem dX0_rightSigns_38 : decode cX0_rightSigns 38 = .ok (.invokestatic 71, 3) := by decide +kernel
theorem dX0_rightSigns_41 : decode cX0_rightSigns 41 = .ok (.istore 5, 2) := by decide +kernel
theorem dX0_rightSigns_43 : decode cX0_rightSigns 43 = .ok (.iload 5, 2) := by decide +kernel
theorem dX0_rightSigns_45 : decode cX0_rightSigns 45 = .ok (.bipush (-9), 2) := by decide +kernel
theorem dX0_rightSigns_47 : decode cX0_rightSigns 47 = .ok (.if_icmp .ne 5, 3) := by decide +kernel
theorem dX0_rightSigns_50 : decode cX0_rightSigns 50 = .ok (.iconst 1, 1) := by decide +kernel
theorem dX0_rightSigns_51 : decode cX0_rightSigns 51 = .ok (.ireturn, 1) := by decide +kernel
theorem dX0_rightSigns_52 : decode cX0_rightSigns 52 = .ok (.aload_n 1, 1) := by decide +kernel
theorem dX0_rightSigns_53 : decode cX0_rightSigns 53 = .ok (.iload_n 2, 1) := by decide +kernel
theorem dX0_rightSigns_54 : decode cX0_rightSigns 54 = .ok (.iload_n 3, 1) := by decide +kernel
theorem dX0_rightSigns_55 : decode cX0_rightSigns 55 = .ok (.iconst 2, 1) := by decide +kernel
theorem dX0_rightSigns_56 : decode cX0_rightSigns 56 = .ok (.iadd, 1) := by decide +kernel
theorem dX0_rightSigns_57 : decode cX0_rightSigns 57 = .ok (.invokevirtual 65, 3) := by decide +kernel
theorem dX0_rightSigns_60 : decode cX0_rightSigns 60 = .ok (.bipush 6, 2) := by decide +kernel
theorem dX0_rightSigns_62 : decode cX0_rightSigns 62 = .ok (.invokestatic 71, 3) := by decide +kernel
theorem dX0_rightSigns_65 : decode cX0_rightSigns 65 = .ok (.istore 6, 2) := by decide +kernel
theorem dX0_rightSigns_67 : decode cX0_rightSigns 67 = .ok (.iload 6, 2) := by decide +kernel
theorem dX0_rightSigns_69 : decode cX0_rightSigns 69 = .ok (.bipush (-9), 2) := by decide +kernel
theorem dX0_rightSigns_71 : decode cX0_rightSigns 71 = .ok (.if_icmp .eq 16, 3) := by decide +kernel
theorem dX0_rightSigns_74 : decode cX0_rightSigns 74 = .ok (.aload_n 0, 1) := by decide +kernel
theorem dX0_rightSigns_75 : decode cX0_rightSigns 75 = .ok (.iload 5, 2) := by decide +kernel
theorem dX0_rightSigns_77 : decode cX0_rightSigns 77 = .ok (.iload 6, 2) := by decide +kernel
theorem dX0_rightSigns_79 : decode cX0_rightSigns 79 = .ok (.invokevirtual 74, 3) := by decide +kernel
theorem dX0_rightSigns_82 : decode cX0_rightSigns 82 = .ok (.bipush (-9), 2) := by decide +kernel
theorem dX0_rightSigns_84 : decode cX0_rightSigns 84 = .ok (.if_icmp .eq 5, 3) := by decide +kernel
theorem dX0_rightSigns_87 : decode cX0_rightSigns 87 = .ok (.iconst 2, 1) := by decide +kernel
theorem dX0_rightSigns_88 : decode cX0_rightSigns 88 = .ok (.ireturn, 1) := by decide +kernel
theorem dX0_rightSigns_89 : decode cX0_rightSigns 89 = .ok (.aload_n 1, 1) := by decide +kernel
theorem dX0_rightSigns_90 : decode cX0_rightSigns 90 = .ok (.iload_n 2, 1) := by decide +kernel
theorem dX0_rightSigns_91 : decode cX0_rightSigns 91 = .ok (.iload_n 3, 1) := by decide +kernel
theorem dX0_rightSigns_92 : decode cX0_rightSigns 92 = .ok (.iconst 3, 1) := by decide +kernel
theorem dX0_rightSigns_93 : decode cX0_rightSigns 93 = .ok (.iadd, 1) := by decide +kernel
theorem dX0_rightSigns_94 : decode cX0_rightSigns 94 = .ok (.invokevirtual 65, 3) := by decide +kernel
theorem dX0_rightSigns_97 : decode cX0_rightSigns 97 = .ok (.bipush 10, 2) := by decide +kernel
theorem dX0_rightSigns_99 : decode cX0_rightSigns 99 = .ok (.invokestatic 71, 3) := by decide +kernel
theorem dX0_rightSigns_102 : decode cX0_rightSigns 102 = .ok (.istore 7, 2) := by decide +kernel
theorem dX0_rightSigns_104 : decode cX0_rightSigns 104 = .ok (.iload 7, 2) := by decide +kernel
theorem dX0_rightSigns_106 : decode cX0_rightSigns 106 = .ok (.bipush (-9), 2) := by decide +kernel
theorem dX0_rightSigns_108 : decode cX0_rightSigns 108 = .ok (.if_icmp .ne 5, 3) := by decide +kernel
theorem dX0_rightSigns_111 : decode cX0_rightSigns 111 = .ok (.iconst 3, 1) := by decide +kernel
theorem dX0_rightSigns_112 : decode cX0_rightSigns 112 = .ok (.ireturn, 1) := by decide +kernel
theorem dX0_rightSigns_113 : decode cX0_rightSigns 113 = .ok (.aload_n 0, 1) := by decide +kernel
theorem dX0_rightSigns_114 : decode cX0_rightSigns 114 = .ok (.getfield 9, 3) := by decide +kernel
theorem dX0_rightSigns_117 : decode cX0_rightSigns 117 = .ok (.aload_n 0, 1) := by decide +kernel
theorem dX0_rightSigns_118 : decode cX0_rightSigns 118 = .ok (.getfield 24, 3) := by decide +kernel
theorem dX0_rightSigns_121 : decode cX0_rightSigns 121 = .ok (.iload 4, 2) := by decide +kernel
theorem dX0_rightSigns_123 : decode cX0_rightSigns 123 = .ok (.iastore, 1) := by decide +kernel
theorem dX0_rightSigns_124 : decode cX0_rightSigns 124 = .ok (.aload_n 0, 1) := by decide +kernel
theorem dX0_rightSigns_125 : decode cX0_rightSigns 125 = .ok (.getfield 15, 3) := by decide +kernel
theorem dX0_rightSigns_128 : decode cX0_rightSigns 128 = .ok (.aload_n 0, 1) := by decide +kernel
theorem dX0_rightSigns_129 : decode cX0_rightSigns 129 = .ok (.getfield 24, 3) := by decide +kernel
theorem dX0_rightSigns_132 : decode cX0_rightSigns 132 = .ok (.iload 5, 2) := by decide +kernel
theorem dX0_rightSigns_134 : decode cX0_rightSigns 134 = .ok (.iastore, 1) := by decide +kernel
theorem dX0_rightSigns_135 : decode cX0_rightSigns 135 = .ok (.aload_n 0, 1) := by decide +kernel
theorem dX0_rightSigns_136 : decode cX0_rightSigns 136 = .ok (.getfield 18, 3) := by decide +kernel
theorem dX0_rightSigns_139 : decode cX0_rightSigns 139 = .ok (.aload_n 0, 1) := by decide +kernel
theorem dX0_rightSigns_140 : decode cX0_rightSigns 140 = .ok (.getfield 24, 3) := by decide +kernel
theorem dX0_rightSigns_143 : decode cX0_rightSigns 143 = .ok (.iload 6, 2) := by decide +kernel
theorem dX0_rightSigns_145 : decode cX0_rightSigns 145 = .ok (.iastore, 1) := by decide +kernel
theorem dX0_rightSigns_146 : decode cX0_rightSigns 146 = .ok (.aload_n 0, 1) := by decide +kernel
theorem dX0_rightSigns_147 : decode cX0_rightSigns 147 = .ok (.getfield 21, 3) := by decide +kernel
theorem dX0_rightSigns_150 : decode cX0_rightSigns 150 = .ok (.aload_n 0, 1) := by decide +kernel
theorem dX0_rightSigns_151 : decode cX0_rightSigns 151 = .ok (.getfield 24, 3) := by decide +kernel
theorem dX0_rightSigns_154 : decode cX0_rightSigns 154 = .ok (.iload 7, 2) := by decide +kernel
theorem dX0_rightSigns_156 : decode cX0_rightSigns 156 = .ok (.iastore, 1) := by decide +kernel
theorem dX0_rightSigns_157 : decode cX0_rightSigns 157 = .ok (.iconst 4, 1) := by decide +kernel
theorem dX0_rightSigns_158 : decode cX0_rightSigns 158 = .ok (.ireturn, 1) := by decide +kernel
theorem dX0_kindOfLetter_0 : decode cX0_kindOfLetter 0 = .ok (.iconst 0, 1) := by decide +kernel
theorem dX0_kindOfLetter_1 : decode cX0_kindOfLetter 1 = .ok (.istore_n 1, 1) := by decide +kernel
theorem dX0_kindOfLetter_2 : decode cX0_kindOfLetter 2 = .ok (.iload_n 1, 1) := by decide +kernel
theorem dX0_kindOfLetter_3 : decode cX0_kindOfLetter 3 = .ok (.bipush 6, 2) := by decide +kernel
theorem dX0_kindOfLetter_5 : decode cX0_kindOfLetter 5 = .ok (.if_icmp .ge 20, 3) := by decide +kernel
theorem dX0_kindOfLetter_8 : decode cX0_kindOfLetter 8 = .ok (.getstatic 77, 3) := by decide +kernel
theorem dX0_kindOfLetter_11 : decode cX0_kindOfLetter 11 = .ok (.iload_n 1, 1) := by decide +kernel
theorem dX0_kindOfLetter_12 : decode cX0_kindOfLetter 12 = .ok (.iaload, 1) := by decide +kernel
theorem dX0_kindOfLetter_13 : decode cX0_kindOfLetter 13 = .ok (.iload_n 0, 1) := by decide +kernel
theorem dX0_kindOfLetter_14 : decode cX0_kindOfLetter 14 = .ok (.if_icmp .ne 5, 3) := by decide +kernel
theorem dX0_kindOfLetter_17 : decode cX0_kindOfLetter 17 = .ok (.iload_n 1, 1) := by decide +kernel
theorem dX0_kindOfLetter_18 : decode cX0_kindOfLetter 18 = .ok (.ireturn, 1) := by decide +kernel
theorem dX0_kindOfLetter_19 : decode cX0_kindOfLetter 19 = .ok (.iinc 1 1, 3) := by decide +kernel
theorem dX0_kindOfLetter_22 : decode cX0_kindOfLetter 22 = .ok (.goto (-20), 3) := by decide +kernel
theorem dX0_kindOfLetter_25 : decode cX0_kindOfLetter 25 = .ok (.bipush (-9), 2) := by decide +kernel
theorem dX0_kindOfLetter_27 : decode cX0_kindOfLetter 27 = .ok (.ireturn, 1) := by decide +kernel
theorem dX0_figure_0 : decode cX0_figure 0 = .ok (.iload_n 0, 1) := by decide +kernel
theorem dX0_figure_1 : decode cX0_figure 1 = .ok (.bipush 48, 2) := by decide +kernel
theorem dX0_figure_3 : decode cX0_figure 3 = .ok (.isub, 1) := by decide +kernel
theorem dX0_figure_4 : decode cX0_figure 4 = .ok (.iload_n 1, 1) := by decide +kernel
theorem dX0_figure_5 : decode cX0_figure 5 = .ok (.invokestatic 80, 3) := by decide +kernel
theorem dX0_figure_8 : decode cX0_figure 8 = .ok (.ifCond .eq 10, 3) := by decide +kernel
theorem dX0_figure_11 : decode cX0_figure 11 = .ok (.iload_n 0, 1) := by decide +kernel
theorem dX0_figure_12 : decode cX0_figure 12 = .ok (.bipush 48, 2) := by decide +kernel
theorem dX0_figure_14 : decode cX0_figure 14 = .ok (.isub, 1) := by decide +kernel
theorem dX0_figure_15 : decode cX0_figure 15 = .ok (.goto 5, 3) := by decide +kernel
theorem dX0_figure_18 : decode cX0_figure 18 = .ok (.bipush (-9), 2) := by decide +kernel
theorem dX0_figure_20 : decode cX0_figure 20 = .ok (.ireturn, 1) := by decide +kernel
theorem dX1_init_0 : decode cX1_init 0 = .ok (.aload_n 0, 1) := by decide +kernel
theorem dX1_init_1 : decode cX1_init 1 = .ok (.invokespecial 3, 3) := by decide +kernel
theorem dX1_init_4 : decode cX1_init 4 = .ok (.aload_n 0, 1) := by decide +kernel
theorem dX1_init_5 : decode cX1_init 5 = .ok (.bipush 7, 2) := by decide +kernel
theorem dX1_init_7 : decode cX1_init 7 = .ok (.newarray .int, 2) := by decide +kernel
theorem dX1_init_9 : decode cX1_init 9 = .ok (.putfield 9, 3) := by decide +kernel
theorem dX1_init_12 : decode cX1_init 12 = .ok (.aload_n 0, 1) := by decide +kernel
theorem dX1_init_13 : decode cX1_init 13 = .ok (.iconst 0, 1) := by decide +kernel
theorem dX1_init_14 : decode cX1_init 14 = .ok (.putfield 15, 3) := by decide +kernel
theorem dX1_init_17 : decode cX1_init 17 = .ok (.aload_n 0, 1) := by decide +kernel
theorem dX1_init_18 : decode cX1_init 18 = .ok (.iconst 0, 1) := by decide +kernel
theorem dX1_init_19 : decode cX1_init 19 = .ok (.putfield 19, 3) := by decide +kernel
theorem dX1_init_22 : decode cX1_init 22 = .ok (.aload_n 0, 1) := by decide +kernel
theorem dX1_init_23 : decode cX1_init 23 = .ok (.iconst 0, 1) := by decide +kernel
theorem dX1_init_24 : decode cX1_init 24 = .ok (.putfield 22, 3) := by decide +kernel
theorem dX1_init_27 : decode cX1_init 27 = .ok (.return_, 1) := by decide +kernel
theorem dX1_heldFor_0 : decode cX1_heldFor 0 = .ok (.iload_n 1, 1) := by decide +kernel
theorem dX1_heldFor_1 : decode cX1_heldFor 1 = .ok (.ifCond .lt 18, 3) := by decide +kernel
theorem dX1_heldFor_4 : decode cX1_heldFor 4 = .ok (.iload_n 1, 1) := by decide +kernel
theorem dX1_heldFor_5 : decode cX1_heldFor 5 = .ok (.bipush 7, 2) := by decide +kernel
theorem dX1_heldFor_7 : decode cX1_heldFor 7 = .ok (.if_icmp .ge 12, 3) := by decide +kernel
theorem dX1_heldFor_10 : decode cX1_heldFor 10 = .ok (.aload_n 0, 1) := by decide +kernel
theorem dX1_heldFor_11 : decode cX1_heldFor 11 = .ok (.getfield 9, 3) := by decide +kernel
theorem dX1_heldFor_14 : decode cX1_heldFor 14 = .ok (.iload_n 1, 1) := by decide +kernel
theorem dX1_heldFor_15 : decode cX1_heldFor 15 = .ok (.iaload, 1) := by decide +kernel
theorem dX1_heldFor_16 : decode cX1_heldFor 16 = .ok (.goto 4, 3) := by decide +kernel
theorem dX1_heldFor_19 : decode cX1_heldFor 19 = .ok (.iconst 0, 1) := by decide +kernel
theorem dX1_heldFor_20 : decode cX1_heldFor 20 = .ok (.ireturn, 1) := by decide +kernel
theorem dX1_reset_0 : decode cX1_reset 0 = .ok (.aload_n 0, 1) := by decide +kernel
theorem dX1_reset_1 : decode cX1_reset 1 = .ok (.iconst 0, 1) := by decide +kernel
theorem dX1_reset_2 : decode cX1_reset 2 = .ok (.putfield 15, 3) := by decide +kernel
theorem dX1_reset_5 : decode cX1_reset 5 = .ok (.aload_n 0, 1) := by decide +kernel
theorem dX1_reset_6 : decode cX1_reset 6 = .ok (.iconst 0, 1) := by decide +kernel
theorem dX1_reset_7 : decode cX1_reset 7 = .ok (.putfield 19, 3) := by decide +kernel
theorem dX1_reset_10 : decode cX1_reset 10 = .ok (.aload_n 0, 1) := by decide +kernel
theorem dX1_reset_11 : decode cX1_reset 11 = .ok (.iconst 0, 1) := by decide +kernel
theorem dX1_reset_12 : decode cX1_reset 12 = .ok (.putfield 22, 3) := by decide +kernel
theorem dX1_reset_15 : decode cX1_reset 15 = .ok (.iconst 0, 1) := by decide +kernel
theorem dX1_reset_16 : decode cX1_reset 16 = .ok (.istore_n 1, 1) := by decide +kernel
theorem dX1_reset_17 : decode cX1_reset 17 = .ok (.iload_n 1, 1) := by decide +kernel
theorem dX1_reset_18 : decode cX1_reset 18 = .ok (.bipush 7, 2) := by decide +kernel
theorem dX1_reset_20 : decode cX1_reset 20 = .ok (.if_icmp .ge 16, 3) := by decide +kernel
theorem dX1_reset_23 : decode cX1_reset 23 = .ok (.aload_n 0, 1) := by decide +kernel
theorem dX1_reset_24 : decode cX1_reset 24 = .ok (.getfield 9, 3) := by decide +kernel
theorem dX1_reset_27 : decode cX1_reset 27 = .ok (.iload_n 1, 1) := by decide +kernel
theorem dX1_reset_28 : decode cX1_reset 28 = .ok (.iconst 0, 1) := by decide +kernel
theorem dX1_reset_29 : decode cX1_reset 29 = .ok (.iastore, 1) := by decide +kernel
theorem dX1_reset_30 : decode cX1_reset 30 = .ok (.iinc 1 1, 3) := by decide +kernel
theorem dX1_reset_33 : decode cX1_reset 33 = .ok (.goto (-16), 3) := by decide +kernel
theorem dX1_reset_36 : decode cX1_reset 36 = .ok (.return_, 1) := by decide +kernel
theorem dX1_copyFrom_0 : decode cX1_copyFrom 0 = .ok (.aload_n 0, 1) := by decide +kernel
theorem dX1_copyFrom_1 : decode cX1_copyFrom 1 = .ok (.aload_n 1, 1) := by decide +kernel
theorem dX1_copyFrom_2 : decode cX1_copyFrom 2 = .ok (.getfield 15, 3) := by decide +kernel
theorem dX1_copyFrom_5 : decode cX1_copyFrom 5 = .ok (.putfield 15, 3) := by decide +kernel
theorem dX1_copyFrom_8 : decode cX1_copyFrom 8 = .ok (.aload_n 0, 1) := by decide +kernel
theorem dX1_copyFrom_9 : decode cX1_copyFrom 9 = .ok (.aload_n 1, 1) := by decide +kernel
theorem dX1_copyFrom_10 : decode cX1_copyFrom 10 = .ok (.getfield 19, 3) := by decide +kernel
theorem dX1_copyFrom_13 : decode cX1_copyFrom 13 = .ok (.putfield 19, 3) := by decide +kernel
theorem dX1_copyFrom_16 : decode cX1_copyFrom 16 = .ok (.aload_n 0, 1) := by decide +kernel
theorem dX1_copyFrom_17 : decode cX1_copyFrom 17 = .ok (.aload_n 1, 1) := by decide +kernel
theorem dX1_copyFrom_18 : decode cX1_copyFrom 18 = .ok (.getfield 22, 3) := by decide +kernel
theorem dX1_copyFrom_21 : decode cX1_copyFrom 21 = .ok (.putfield 22, 3) := by decide +kernel
theorem dX1_copyFrom_24 : decode cX1_copyFrom 24 = .ok (.iconst 0, 1) := by decide +kernel
theorem dX1_copyFrom_25 : decode cX1_copyFrom 25 = .ok (.istore_n 2, 1) := by decide +kernel
theorem dX1_copyFrom_26 : decode cX1_copyFrom 26 = .ok (.iload_n 2, 1) := by decide +kernel
theorem dX1_copyFrom_27 : decode cX1_copyFrom 27 = .ok (.bipush 7, 2) := by decide +kernel
theorem dX1_copyFrom_29 : decode cX1_copyFrom 29 = .ok (.if_icmp .ge 21, 3) := by decide +kernel
theorem dX1_copyFrom_32 : decode cX1_copyFrom 32 = .ok (.aload_n 0, 1) := by decide +kernel
theorem dX1_copyFrom_33 : decode cX1_copyFrom 33 = .ok (.getfield 9, 3) := by decide +kernel
theorem dX1_copyFrom_36 : decode cX1_copyFrom 36 = .ok (.iload_n 2, 1) := by decide +kernel
theorem dX1_copyFrom_37 : decode cX1_copyFrom 37 = .ok (.aload_n 1, 1) := by decide +kernel
theorem dX1_copyFrom_38 : decode cX1_copyFrom 38 = .ok (.getfield 9, 3) := by decide +kernel
theorem dX1_copyFrom_41 : decode cX1_copyFrom 41 = .ok (.iload_n 2, 1) := by decide +kernel
theorem dX1_copyFrom_42 : decode cX1_copyFrom 42 = .ok (.iaload, 1) := by decide +kernel
theorem dX1_copyFrom_43 : decode cX1_copyFrom 43 = .ok (.iastore, 1) := by decide +kernel
theorem dX1_copyFrom_44 : decode cX1_copyFrom 44 = .ok (.iinc 2 1, 3) := by decide +kernel
theorem dX1_copyFrom_47 : decode cX1_copyFrom 47 = .ok (.goto (-21), 3) := by decide +kernel
theorem dX1_copyFrom_50 : decode cX1_copyFrom 50 = .ok (.return_, 1) := by decide +kernel
theorem dX1_undergo_0 : decode cX1_undergo 0 = .ok (.iload_n 1, 1) := by decide +kernel
theorem dX1_undergo_1 : decode cX1_undergo 1 = .ok (.bipush 7, 2) := by decide +kernel
theorem dX1_undergo_3 : decode cX1_undergo 3 = .ok (.if_icmp .ne 10, 3) := by decide +kernel
theorem dX1_undergo_6 : decode cX1_undergo 6 = .ok (.aload_n 0, 1) := by decide +kernel
theorem dX1_undergo_7 : decode cX1_undergo 7 = .ok (.invokevirtual 25, 3) := by decide +kernel
theorem dX1_undergo_10 : decode cX1_undergo 10 = .ok (.goto 60, 3) := by decide +kernel
theorem dX1_undergo_13 : decode cX1_undergo 13 = .ok (.iload_n 1, 1) := by decide +kernel
theorem dX1_undergo_14 : decode cX1_undergo 14 = .ok (.bipush 8, 2) := by decide +kernel
theorem dX1_undergo_16 : decode cX1_undergo 16 = .ok (.isub, 1) := by decide +kernel
theorem dX1_undergo_17 : decode cX1_undergo 17 = .ok (.iconst 4, 1) := by decide +kernel
theorem dX1_undergo_18 : decode cX1_undergo 18 = .ok (.invokestatic 28, 3) := by decide +kernel
theorem dX1_undergo_21 : decode cX1_undergo 21 = .ok (.ifCond .eq 21, 3) := by decide +kernel
theorem dX1_undergo_24 : decode cX1_undergo 24 = .ok (.aload_n 0, 1) := by decide +kernel
theorem dX1_undergo_25 : decode cX1_undergo 25 = .ok (.dup, 1) := by decide +kernel
theorem dX1_undergo_26 : decode cX1_undergo 26 = .ok (.getfield 22, 3) := by decide +kernel
theorem dX1_undergo_29 : decode cX1_undergo 29 = .ok (.iconst 1, 1) := by decide +kernel
theorem dX1_undergo_30 : decode cX1_undergo 30 = .ok (.iload_n 1, 1) := by decide +kernel
theorem dX1_undergo_31 : decode cX1_undergo 31 = .ok (.bipush 8, 2) := by decide +kernel
theorem dX1_undergo_33 : decode cX1_undergo 33 = .ok (.isub, 1) := by decide +kernel
theorem dX1_undergo_34 : decode cX1_undergo 34 = .ok (.ishl, 1) := by decide +kernel
theorem dX1_undergo_35 : decode cX1_undergo 35 = .ok (.ixor, 1) := by decide +kernel
theorem dX1_undergo_36 : decode cX1_undergo 36 = .ok (.putfield 22, 3) := by decide +kernel
theorem dX1_undergo_39 : decode cX1_undergo 39 = .ok (.goto 31, 3) := by decide +kernel
theorem dX1_undergo_42 : decode cX1_undergo 42 = .ok (.iload_n 1, 1) := by decide +kernel
theorem dX1_undergo_43 : decode cX1_undergo 43 = .ok (.bipush 7, 2) := by decide +kernel
theorem dX1_undergo_45 : decode cX1_undergo 45 = .ok (.invokestatic 28, 3) := by decide +kernel
theorem dX1_undergo_48 : decode cX1_undergo 48 = .ok (.ifCond .eq 22, 3) := by decide +kernel
theorem dX1_undergo_51 : decode cX1_undergo 51 = .ok (.aload_n 0, 1) := by decide +kernel
theorem dX1_undergo_52 : decode cX1_undergo 52 = .ok (.dup, 1) := by decide +kernel
theorem dX1_undergo_53 : decode cX1_undergo 53 = .ok (.getfield 19, 3) := by decide +kernel
theorem dX1_undergo_56 : decode cX1_undergo 56 = .ok (.iconst 1, 1) := by decide +kernel
theorem dX1_undergo_57 : decode cX1_undergo 57 = .ok (.iload_n 1, 1) := by decide +kernel
theorem dX1_undergo_58 : decode cX1_undergo 58 = .ok (.ishl, 1) := by decide +kernel
theorem dX1_undergo_59 : decode cX1_undergo 59 = .ok (.ixor, 1) := by decide +kernel
theorem dX1_undergo_60 : decode cX1_undergo 60 = .ok (.putfield 19, 3) := by decide +kernel
theorem dX1_undergo_63 : decode cX1_undergo 63 = .ok (.aload_n 0, 1) := by decide +kernel
theorem dX1_undergo_64 : decode cX1_undergo 64 = .ok (.getfield 9, 3) := by decide +kernel
theorem dX1_undergo_67 : decode cX1_undergo 67 = .ok (.iload_n 1, 1) := by decide +kernel
theorem dX1_undergo_68 : decode cX1_undergo 68 = .ok (.iconst 0, 1) := by decide +kernel
theorem dX1_undergo_69 : decode cX1_undergo 69 = .ok (.iastore, 1) := by decide +kernel
theorem dX1_undergo_70 : decode cX1_undergo 70 = .ok (.return_, 1) := by decide +kernel
theorem dX1_passScan_0 : decode cX1_passScan 0 = .ok (.aload_n 0, 1) := by decide +kernel
theorem dX1_passScan_1 : decode cX1_passScan 1 = .ok (.dup, 1) := by decide +kernel
theorem dX1_passScan_2 : decode cX1_passScan 2 = .ok (.getfield 15, 3) := by decide +kernel
theorem dX1_passScan_5 : decode cX1_passScan 5 = .ok (.iconst 1, 1) := by decide +kernel
theorem dX1_passScan_6 : decode cX1_passScan 6 = .ok (.iadd, 1) := by decide +kernel
theorem dX1_passScan_7 : decode cX1_passScan 7 = .ok (.putfield 15, 3) := by decide +kernel
theorem dX1_passScan_10 : decode cX1_passScan 10 = .ok (.iconst 0, 1) := by decide +kernel
theorem dX1_passScan_11 : decode cX1_passScan 11 = .ok (.istore_n 1, 1) := by decide +kernel
theorem dX1_passScan_12 : decode cX1_passScan 12 = .ok (.iload_n 1, 1) := by decide +kernel
theorem dX1_passScan_13 : decode cX1_passScan 13 = .ok (.bipush 7, 2) := by decide +kernel
theorem dX1_passScan_15 : decode cX1_passScan 15 = .ok (.if_icmp .ge 39, 3) := by decide +kernel
theorem dX1_passScan_18 : decode cX1_passScan 18 = .ok (.aload_n 0, 1) := by decide +kernel
theorem dX1_passScan_19 : decode cX1_passScan 19 = .ok (.getfield 19, 3) := by decide +kernel
theorem dX1_passScan_22 : decode cX1_passScan 22 = .ok (.iload_n 1, 1) := by decide +kernel
theorem dX1_passScan_23 : decode cX1_passScan 23 = .ok (.invokestatic 32, 3) := by decide +kernel
theorem dX1_passScan_26 : decode cX1_passScan 26 = .ok (.ifCond .eq 22, 3) := by decide +kernel
theorem dX1_passScan_29 : decode cX1_passScan 29 = .ok (.aload_n 0, 1) := by decide +kernel
theorem dX1_passScan_30 : decode cX1_passScan 30 = .ok (.getfield 9, 3) := by decide +kernel
theorem dX1_passScan_33 : decode cX1_passScan 33 = .ok (.iload_n 1, 1) := by decide +kernel
theorem dX1_passScan_34 : decode cX1_passScan 34 = .ok (.bipush 9, 2) := by decide +kernel
theorem dX1_passScan_36 : decode cX1_passScan 36 = .ok (.aload_n 0, 1) := by decide +kernel
theorem dX1_passScan_37 : decode cX1_passScan 37 = .ok (.getfield 9, 3) := by decide +kernel
theorem dX1_passScan_40 : decode cX1_passScan 40 = .ok (.iload_n 1, 1) := by decide +kernel
theorem dX1_passScan_41 : decode cX1_passScan 41 = .ok (.iaload, 1) := by decide +kernel
theorem dX1_passScan_42 : decode cX1_passScan 42 = .ok (.iconst 1, 1) := by decide +kernel
theorem dX1_passScan_43 : decode cX1_passScan 43 = .ok (.iadd, 1) := by decide +kernel
theorem dX1_passScan_44 : decode cX1_passScan 44 = .ok (.invokestatic 35, 3) := by decide +kernel
theorem dX1_passScan_47 : decode cX1_passScan 47 = .ok (.iastore, 1) := by decide +kernel
theorem dX1_passScan_48 : decode cX1_passScan 48 = .ok (.iinc 1 1, 3) := by decide +kernel
theorem dX1_passScan_51 : decode cX1_passScan 51 = .ok (.goto (-39), 3) := by decide +kernel
theorem dX1_passScan_54 : decode cX1_passScan 54 = .ok (.return_, 1) := by decide +kernel
theorem dX2_init_0 : decode cX2_init 0 = .ok (.aload_n 0, 1) := by decide +kernel
theorem dX2_init_1 : decode cX2_init 1 = .ok (.invokespecial 3, 3) := by decide +kernel
theorem dX2_init_4 : decode cX2_init 4 = .ok (.aload_n 0, 1) := by decide +kernel
theorem dX2_init_5 : decode cX2_init 5 = .ok (.iconst 0, 1) := by decide +kernel
theorem dX2_init_6 : decode cX2_init 6 = .ok (.iload_n 1, 1) := by decide +kernel
theorem dX2_init_7 : decode cX2_init 7 = .ok (.invokestatic 9, 3) := by decide +kernel
theorem dX2_init_10 : decode cX2_init 10 = .ok (.putfield 15, 3) := by decide +kernel
theorem dX2_init_13 : decode cX2_init 13 = .ok (.aload_n 0, 1) := by decide +kernel
theorem dX2_init_14 : decode cX2_init 14 = .ok (.iconst 0, 1) := by decide +kernel
theorem dX2_init_15 : decode cX2_init 15 = .ok (.iload_n 2, 1) := by decide +kernel
theorem dX2_init_16 : decode cX2_init 16 = .ok (.invokestatic 9, 3) := by decide +kernel
theorem dX2_init_19 : decode cX2_init 19 = .ok (.putfield 21, 3) := by decide +kernel
theorem dX2_init_22 : decode cX2_init 22 = .ok (.aload_n 0, 1) := by decide +kernel
theorem dX2_init_23 : decode cX2_init 23 = .ok (.aload_n 0, 1) := by decide +kernel
theorem dX2_init_24 : decode cX2_init 24 = .ok (.getfield 15, 3) := by decide +kernel
theorem dX2_init_27 : decode cX2_init 27 = .ok (.newarray .int, 2) := by decide +kernel
theorem dX2_init_29 : decode cX2_init 29 = .ok (.putfield 24, 3) := by decide +kernel
theorem dX2_init_32 : decode cX2_init 32 = .ok (.aload_n 0, 1) := by decide +kernel
theorem dX2_init_33 : decode cX2_init 33 = .ok (.aload_n 0, 1) := by decide +kernel
theorem dX2_init_34 : decode cX2_init 34 = .ok (.getfield 15, 3) := by decide +kernel
theorem dX2_init_37 : decode cX2_init 37 = .ok (.aload_n 0, 1) := by decide +kernel
theorem dX2_init_38 : decode cX2_init 38 = .ok (.getfield 21, 3) := by decide +kernel
theorem dX2_init_41 : decode cX2_init 41 = .ok (.imul, 1) := by decide +kernel
theorem dX2_init_42 : decode cX2_init 42 = .ok (.newarray .int, 2) := by decide +kernel
theorem dX2_init_44 : decode cX2_init 44 = .ok (.putfield 28, 3) := by decide +kernel
theorem dX2_init_47 : decode cX2_init 47 = .ok (.iconst 0, 1) := by decide +kernel
theorem dX2_init_48 : decode cX2_init 48 = .ok (.istore_n 3, 1) := by decide +kernel
theorem dX2_init_49 : decode cX2_init 49 = .ok (.iload_n 3, 1) := by decide +kernel
theorem dX2_init_50 : decode cX2_init 50 = .ok (.aload_n 0, 1) := by decide +kernel
theorem dX2_init_51 : decode cX2_init 51 = .ok (.getfield 15, 3) := by decide +kernel
theorem dX2_init_54 : decode cX2_init 54 = .ok (.if_icmp .ge 16, 3) := by decide +kernel
theorem dX2_init_57 : decode cX2_init 57 = .ok (.aload_n 0, 1) := by decide +kernel
theorem dX2_init_58 : decode cX2_init 58 = .ok (.getfield 24, 3) := by decide +kernel
theorem dX2_init_61 : decode cX2_init 61 = .ok (.iload_n 3, 1) := by decide +kernel
theorem dX2_init_62 : decode cX2_init 62 = .ok (.iconst (-1), 1) := by decide +kernel
theorem dX2_init_63 : decode cX2_init 63 = .ok (.iastore, 1) := by decide +kernel
theorem dX2_init_64 : decode cX2_init 64 = .ok (.iinc 3 1, 3) := by decide +kernel
theorem dX2_init_67 : decode cX2_init 67 = .ok (.goto (-18), 3) := by decide +kernel
theorem dX2_init_70 : decode cX2_init 70 = .ok (.return_, 1) := by decide +kernel
theorem dX2_size_0 : decode cX2_size 0 = .ok (.iload_n 1, 1) := by decide +kernel
theorem dX2_size_1 : decode cX2_size 1 = .ok (.aload_n 0, 1) := by decide +kernel
theorem dX2_size_2 : decode cX2_size 2 = .ok (.getfield 15, 3) := by decide +kernel
theorem dX2_size_5 : decode cX2_size 5 = .ok (.invokestatic 31, 3) := by decide +kernel
theorem dX2_size_8 : decode cX2_size 8 = .ok (.ifCond .eq 12, 3) := by decide +kernel
theorem dX2_size_11 : decode cX2_size 11 = .ok (.aload_n 0, 1) := by decide +kernel
theorem dX2_size_12 : decode cX2_size 12 = .ok (.getfield 24, 3) := by decide +kernel
theorem dX2_size_15 : decode cX2_size 15 = .ok (.iload_n 1, 1) := by decide +kernel
theorem dX2_size_16 : decode cX2_size 16 = .ok (.iaload, 1) := by decide +kernel
theorem dX2_size_17 : decode cX2_size 17 = .ok (.goto 4, 3) := by decide +kernel
theorem dX2_size_20 : decode cX2_size 20 = .ok (.iconst (-1), 1) := by decide +kernel
theorem dX2_size_21 : decode cX2_size 21 = .ok (.ireturn, 1) := by decide +kernel
theorem dX2_has_0 : decode cX2_has 0 = .ok (.aload_n 0, 1) := by decide +kernel
theorem dX2_has_1 : decode cX2_has 1 = .ok (.iload_n 1, 1) := by decide +kernel
theorem dX2_has_2 : decode cX2_has 2 = .ok (.invokevirtual 35, 3) := by decide +kernel
theorem dX2_has_5 : decode cX2_has 5 = .ok (.iconst (-1), 1) := by decide +kernel
theorem dX2_has_6 : decode cX2_has 6 = .ok (.if_icmp .eq 7, 3) := by decide +kernel
theorem dX2_has_9 : decode cX2_has 9 = .ok (.iconst 1, 1) := by decide +kernel
theorem dX2_has_10 : decode cX2_has 10 = .ok (.goto 4, 3) := by decide +kernel
theorem dX2_has_13 : decode cX2_has 13 = .ok (.iconst 0, 1) := by decide +kernel
theorem dX2_has_14 : decode cX2_has 14 = .ok (.ireturn, 1) := by decide +kernel
theorem dX2_howMany_0 : decode cX2_howMany 0 = .ok (.iconst 0, 1) := by decide +kernel
theorem dX2_howMany_1 : decode cX2_howMany 1 = .ok (.istore_n 2, 1) := by decide +kernel
theorem dX2_howMany_2 : decode cX2_howMany 2 = .ok (.iconst 0, 1) := by decide +kernel
theorem dX2_howMany_3 : decode cX2_howMany 3 = .ok (.istore_n 3, 1) := by decide +kernel
theorem dX2_howMany_4 : decode cX2_howMany 4 = .ok (.iload_n 3, 1) := by decide +kernel
theorem dX2_howMany_5 : decode cX2_howMany 5 = .ok (.iload_n 1, 1) := by decide +kernel
theorem dX2_howMany_6 : decode cX2_howMany 6 = .ok (.if_icmp .ge 20, 3) := by decide +kernel
theorem dX2_howMany_9 : decode cX2_howMany 9 = .ok (.aload_n 0, 1) := by decide +kernel
theorem dX2_howMany_10 : decode cX2_howMany 10 = .ok (.iload_n 3, 1) := by decide +kernel
theorem dX2_howMany_11 : decode cX2_howMany 11 = .ok (.invokevirtual 39, 3) := by decide +kernel
theorem dX2_howMany_14 : decode cX2_howMany 14 = .ok (.ifCond .eq 6, 3) := by decide +kernel
theorem dX2_howMany_17 : decode cX2_howMany 17 = .ok (.iinc 2 1, 3) := by decide +kernel
theorem dX2_howMany_20 : decode cX2_howMany 20 = .ok (.iinc 3 1, 3) := by decide +kernel
theorem dX2_howMany_23 : decode cX2_howMany 23 = .ok (.goto (-19), 3) := by decide +kernel
theorem dX2_howMany_26 : decode cX2_howMany 26 = .ok (.iload_n 2, 1) := by decide +kernel
theorem dX2_howMany_27 : decode cX2_howMany 27 = .ok (.ireturn, 1) := by decide +kernel
theorem dX2_get_0 : decode cX2_get 0 = .ok (.iload_n 2, 1) := by decide +kernel
theorem dX2_get_1 : decode cX2_get 1 = .ok (.aload_n 0, 1) := by decide +kernel
theorem dX2_get_2 : decode cX2_get 2 = .ok (.iload_n 1, 1) := by decide +kernel
theorem dX2_get_3 : decode cX2_get 3 = .ok (.invokevirtual 35, 3) := by decide +kernel
theorem dX2_get_6 : decode cX2_get 6 = .ok (.invokestatic 31, 3) := by decide +kernel
theorem dX2_get_9 : decode cX2_get 9 = .ok (.ifCond .eq 19, 3) := by decide +kernel
theorem dX2_get_12 : decode cX2_get 12 = .ok (.aload_n 0, 1) := by decide +kernel
theorem dX2_get_13 : decode cX2_get 13 = .ok (.getfield 28, 3) := by decide +kernel
theorem dX2_get_16 : decode cX2_get 16 = .ok (.iload_n 1, 1) := by decide +kernel
theorem dX2_get_17 : decode cX2_get 17 = .ok (.aload_n 0, 1) := by decide +kernel
theorem dX2_get_18 : decode cX2_get 18 = .ok (.getfield 21, 3) := by decide +kernel
theorem dX2_get_21 : decode cX2_get 21 = .ok (.imul, 1) := by decide +kernel
theorem dX2_get_22 : decode cX2_get 22 = .ok (.iload_n 2, 1) := by decide +kernel
theorem dX2_get_23 : decode cX2_get 23 = .ok (.iadd, 1) := by decide +kernel
theorem dX2_get_24 : decode cX2_get 24 = .ok (.iaload, 1) := by decide +kernel
theorem dX2_get_25 : decode cX2_get 25 = .ok (.goto 4, 3) := by decide +kernel
theorem dX2_get_28 : decode cX2_get 28 = .ok (.iconst 0, 1) := by decide +kernel
theorem dX2_get_29 : decode cX2_get 29 = .ok (.ireturn, 1) := by decide +kernel
theorem dX2_set_0 : decode cX2_set 0 = .ok (.iload_n 2, 1) := by decide +kernel
theorem dX2_set_1 : decode cX2_set 1 = .ok (.aload_n 0, 1) := by decide +kernel
theorem dX2_set_2 : decode cX2_set 2 = .ok (.iload_n 1, 1) := by decide +kernel
theorem dX2_set_3 : decode cX2_set 3 = .ok (.invokevirtual 35, 3) := by decide +kernel
theorem dX2_set_6 : decode cX2_set 6 = .ok (.invokestatic 31, 3) := by decide +kernel
theorem dX2_set_9 : decode cX2_set 9 = .ok (.ifCond .eq 17, 3) := by decide +kernel
theorem dX2_set_12 : decode cX2_set 12 = .ok (.aload_n 0, 1) := by decide +kernel
theorem dX2_set_13 : decode cX2_set 13 = .ok (.getfield 28, 3) := by decide +kernel
theorem dX2_set_16 : decode cX2_set 16 = .ok (.iload_n 1, 1) := by decide +kernel
theorem dX2_set_17 : decode cX2_set 17 = .ok (.aload_n 0, 1) := by decide +kernel
theorem dX2_set_18 : decode cX2_set 18 = .ok (.getfield 21, 3) := by decide +kernel
theorem dX2_set_21 : decode cX2_set 21 = .ok (.imul, 1) := by decide +kernel
theorem dX2_set_22 : decode cX2_set 22 = .ok (.iload_n 2, 1) := by decide +kernel
theorem dX2_set_23 : decode cX2_set 23 = .ok (.iadd, 1) := by decide +kernel
theorem dX2_set_24 : decode cX2_set 24 = .ok (.iload_n 3, 1) := by decide +kernel
theorem dX2_set_25 : decode cX2_set 25 = .ok (.iastore, 1) := by decide +kernel
theorem dX2_set_26 : decode cX2_set 26 = .ok (.return_, 1) := by decide +kernel
theorem dX2_make_0 : decode cX2_make 0 = .ok (.iload_n 1, 1) := by decide +kernel
theorem dX2_make_1 : decode cX2_make 1 = .ok (.aload_n 0, 1) := by decide +kernel
theorem dX2_make_2 : decode cX2_make 2 = .ok (.getfield 15, 3) := by decide +kernel
theorem dX2_make_5 : decode cX2_make 5 = .ok (.invokestatic 31, 3) := by decide +kernel
theorem dX2_make_8 : decode cX2_make 8 = .ok (.ifCond .eq 52, 3) := by decide +kernel
theorem dX2_make_11 : decode cX2_make 11 = .ok (.iload_n 2, 1) := by decide +kernel
theorem dX2_make_12 : decode cX2_make 12 = .ok (.ifCond .lt 48, 3) := by decide +kernel
theorem dX2_make_15 : decode cX2_make 15 = .ok (.iload_n 2, 1) := by decide +kernel
theorem dX2_make_16 : decode cX2_make 16 = .ok (.aload_n 0, 1) := by decide +kernel
theorem dX2_make_17 : decode cX2_make 17 = .ok (.getfield 21, 3) := by decide +kernel
theorem dX2_make_20 : decode cX2_make 20 = .ok (.if_icmp .gt 40, 3) := by decide +kernel
theorem dX2_make_23 : decode cX2_make 23 = .ok (.aload_n 0, 1) := by decide +kernel
theorem dX2_make_24 : decode cX2_make 24 = .ok (.getfield 24, 3) := by decide +kernel
theorem dX2_make_27 : decode cX2_make 27 = .ok (.iload_n 1, 1) := by decide +kernel
theorem dX2_make_28 : decode cX2_make 28 = .ok (.iload_n 2, 1) := by decide +kernel
theorem dX2_make_29 : decode cX2_make 29 = .ok (.iastore, 1) := by decide +kernel
theorem dX2_make_30 : decode cX2_make 30 = .ok (.iconst 0, 1) := by decide +kernel
theorem dX2_make_31 : decode cX2_make 31 = .ok (.istore 4, 2) := by decide +kernel
theorem dX2_make_33 : decode cX2_make 33 = .ok (.iload 4, 2) := by decide +kernel
theorem dX2_make_35 : decode cX2_make 35 = .ok (.iload_n 2, 1) := by decide +kernel
theorem dX2_make_36 : decode cX2_make 36 = .ok (.if_icmp .ge 24, 3) := by decide +kernel
theorem dX2_make_39 : decode cX2_make 39 = .ok (.aload_n 0, 1) := by decide +kernel
theorem dX2_make_40 : decode cX2_make 40 = .ok (.getfield 28, 3) := by decide +kernel
theorem dX2_make_43 : decode cX2_make 43 = .ok (.iload_n 1, 1) := by decide +kernel
theorem dX2_make_44 : decode cX2_make 44 = .ok (.aload_n 0, 1) := by decide +kernel
theorem dX2_make_45 : decode cX2_make 45 = .ok (.getfield 21, 3) := by decide +kernel
theorem dX2_make_48 : decode cX2_make 48 = .ok (.imul, 1) := by decide +kernel
theorem dX2_make_49 : decode cX2_make 49 = .ok (.iload 4, 2) := by decide +kernel
theorem dX2_make_51 : decode cX2_make 51 = .ok (.iadd, 1) := by decide +kernel
theorem dX2_make_52 : decode cX2_make 52 = .ok (.iload_n 3, 1) := by decide +kernel
theorem dX2_make_53 : decode cX2_make 53 = .ok (.iastore, 1) := by decide +kernel
theorem dX2_make_54 : decode cX2_make 54 = .ok (.iinc 4 1, 3) := by decide +kernel
theorem dX2_make_57 : decode cX2_make 57 = .ok (.goto (-24), 3) := by decide +kernel
theorem dX2_make_60 : decode cX2_make 60 = .ok (.return_, 1) := by decide +kernel
theorem dX2_remove_0 : decode cX2_remove 0 = .ok (.iload_n 1, 1) := by decide +kernel
theorem dX2_remove_1 : decode cX2_remove 1 = .ok (.aload_n 0, 1) := by decide +kernel
theorem dX2_remove_2 : decode cX2_remove 2 = .ok (.getfield 15, 3) := by decide +kernel
theorem dX2_remove_5 : decode cX2_remove 5 = .ok (.invokestatic 31, 3) := by decide +kernel
theorem dX2_remove_8 : decode cX2_remove 8 = .ok (.ifCond .eq 10, 3) := by decide +kernel
theorem dX2_remove_11 : decode cX2_remove 11 = .ok (.aload_n 0, 1) := by decide +kernel
theorem dX2_remove_12 : decode cX2_remove 12 = .ok (.getfield 24, 3) := by decide +kernel
theorem dX2_remove_15 : decode cX2_remove 15 = .ok (.iload_n 1, 1) := by decide +kernel
theorem dX2_remove_16 : decode cX2_remove 16 = .ok (.iconst (-1), 1) := by decide +kernel
theorem dX2_remove_17 : decode cX2_remove 17 = .ok (.iastore, 1) := by decide +kernel
theorem dX2_remove_18 : decode cX2_remove 18 = .ok (.return_, 1) := by decide +kernel
theorem dX2_add_0 : decode cX2_add 0 = .ok (.aload_n 0, 1) := by decide +kernel
theorem dX2_add_1 : decode cX2_add 1 = .ok (.iload_n 1, 1) := by decide +kernel
theorem dX2_add_2 : decode cX2_add 2 = .ok (.invokevirtual 35, 3) := by decide +kernel
theorem dX2_add_5 : decode cX2_add 5 = .ok (.istore_n 3, 1) := by decide +kernel
theorem dX2_add_6 : decode cX2_add 6 = .ok (.iload_n 3, 1) := by decide +kernel
theorem dX2_add_7 : decode cX2_add 7 = .ok (.aload_n 0, 1) := by decide +kernel
theorem dX2_add_8 : decode cX2_add 8 = .ok (.getfield 21, 3) := by decide +kernel
theorem dX2_add_11 : decode cX2_add 11 = .ok (.invokestatic 31, 3) := by decide +kernel
theorem dX2_add_14 : decode cX2_add 14 = .ok (.ifCond .eq 26, 3) := by decide +kernel
theorem dX2_add_17 : decode cX2_add 17 = .ok (.aload_n 0, 1) := by decide +kernel
theorem dX2_add_18 : decode cX2_add 18 = .ok (.getfield 24, 3) := by decide +kernel
theorem dX2_add_21 : decode cX2_add 21 = .ok (.iload_n 1, 1) := by decide +kernel
theorem dX2_add_22 : decode cX2_add 22 = .ok (.iload_n 3, 1) := by decide +kernel
theorem dX2_add_23 : decode cX2_add 23 = .ok (.iconst 1, 1) := by decide +kernel
theorem dX2_add_24 : decode cX2_add 24 = .ok (.iadd, 1) := by decide +kernel
theorem dX2_add_25 : decode cX2_add 25 = .ok (.iastore, 1) := by decide +kernel
theorem dX2_add_26 : decode cX2_add 26 = .ok (.aload_n 0, 1) := by decide +kernel
theorem dX2_add_27 : decode cX2_add 27 = .ok (.getfield 28, 3) := by decide +kernel
theorem dX2_add_30 : decode cX2_add 30 = .ok (.iload_n 1, 1) := by decide +kernel
theorem dX2_add_31 : decode cX2_add 31 = .ok (.aload_n 0, 1) := by decide +kernel
theorem dX2_add_32 : decode cX2_add 32 = .ok (.getfield 21, 3) := by decide +kernel
theorem dX2_add_35 : decode cX2_add 35 = .ok (.imul, 1) := by decide +kernel
theorem dX2_add_36 : decode cX2_add 36 = .ok (.iload_n 3, 1) := by decide +kernel
theorem dX2_add_37 : decode cX2_add 37 = .ok (.iadd, 1) := by decide +kernel
theorem dX2_add_38 : decode cX2_add 38 = .ok (.iload_n 2, 1) := by decide +kernel
theorem dX2_add_39 : decode cX2_add 39 = .ok (.iastore, 1) := by decide +kernel
theorem dX2_add_40 : decode cX2_add 40 = .ok (.return_, 1) := by decide +kernel
theorem dX2_shorten_0 : decode cX2_shorten 0 = .ok (.iload_n 2, 1) := by decide +kernel
theorem dX2_shorten_1 : decode cX2_shorten 1 = .ok (.ifCond .lt 19, 3) := by decide +kernel
theorem dX2_shorten_4 : decode cX2_shorten 4 = .ok (.iload_n 2, 1) := by decide +kernel
theorem dX2_shorten_5 : decode cX2_shorten 5 = .ok (.aload_n 0, 1) := by decide +kernel
theorem dX2_shorten_6 : decode cX2_shorten 6 = .ok (.iload_n 1, 1) := by decide +kernel
theorem dX2_shorten_7 : decode cX2_shorten 7 = .ok (.invokevirtual 35, 3) := by decide +kernel
theorem dX2_shorten_10 : decode cX2_shorten 10 = .ok (.if_icmp .gt 10, 3) := by decide +kernel
theorem dX2_shorten_13 : decode cX2_shorten 13 = .ok (.aload_n 0, 1) := by decide +kernel
theorem dX2_shorten_14 : decode cX2_shorten 14 = .ok (.getfield 24, 3) := by decide +kernel
theorem dX2_shorten_17 : decode cX2_shorten 17 = .ok (.iload_n 1, 1) := by decide +kernel
theorem dX2_shorten_18 : decode cX2_shorten 18 = .ok (.iload_n 2, 1) := by decide +kernel
theorem dX2_shorten_19 : decode cX2_shorten 19 = .ok (.iastore, 1) := by decide +kernel
theorem dX2_shorten_20 : decode cX2_shorten 20 = .ok (.return_, 1) := by decide +kernel
theorem dX2_reaches_0 : decode cX2_reaches 0 = .ok (.iload_n 2, 1) := by decide +kernel
theorem dX2_reaches_1 : decode cX2_reaches 1 = .ok (.ifCond .lt 22, 3) := by decide +kernel
theorem dX2_reaches_4 : decode cX2_reaches 4 = .ok (.iload_n 3, 1) := by decide +kernel
theorem dX2_reaches_5 : decode cX2_reaches 5 = .ok (.ifCond .lt 18, 3) := by decide +kernel
theorem dX2_reaches_8 : decode cX2_reaches 8 = .ok (.iload_n 3, 1) := by decide +kernel
theorem dX2_reaches_9 : decode cX2_reaches 9 = .ok (.aload_n 0, 1) := by decide +kernel
theorem dX2_reaches_10 : decode cX2_reaches 10 = .ok (.iload_n 1, 1) := by decide +kernel
theorem dX2_reaches_11 : decode cX2_reaches 11 = .ok (.invokevirtual 35, 3) := by decide +kernel
theorem dX2_reaches_14 : decode cX2_reaches 14 = .ok (.iload_n 2, 1) := by decide +kernel
theorem dX2_reaches_15 : decode cX2_reaches 15 = .ok (.isub, 1) := by decide +kernel
theorem dX2_reaches_16 : decode cX2_reaches 16 = .ok (.if_icmp .gt 7, 3) := by decide +kernel
theorem dX2_reaches_19 : decode cX2_reaches 19 = .ok (.iconst 1, 1) := by decide +kernel
theorem dX2_reaches_20 : decode cX2_reaches 20 = .ok (.goto 4, 3) := by decide +kernel
theorem dX2_reaches_23 : decode cX2_reaches 23 = .ok (.iconst 0, 1) := by decide +kernel
theorem dX2_reaches_24 : decode cX2_reaches 24 = .ok (.ireturn, 1) := by decide +kernel
theorem dX2_move_0 : decode cX2_move 0 = .ok (.aload_n 0, 1) := by decide +kernel
theorem dX2_move_1 : decode cX2_move 1 = .ok (.iload_n 1, 1) := by decide +kernel
theorem dX2_move_2 : decode cX2_move 2 = .ok (.iload_n 2, 1) := by decide +kernel
theorem dX2_move_3 : decode cX2_move 3 = .ok (.iload 5, 2) := by decide +kernel
theorem dX2_move_5 : decode cX2_move 5 = .ok (.invokevirtual 43, 3) := by decide +kernel
theorem dX2_move_8 : decode cX2_move 8 = .ok (.ifCond .eq 45, 3) := by decide +kernel
theorem dX2_move_11 : decode cX2_move 11 = .ok (.aload_n 0, 1) := by decide +kernel
theorem dX2_move_12 : decode cX2_move 12 = .ok (.iload_n 3, 1) := by decide +kernel
theorem dX2_move_13 : decode cX2_move 13 = .ok (.iload 4, 2) := by decide +kernel
theorem dX2_move_15 : decode cX2_move 15 = .ok (.iload 5, 2) := by decide +kernel
theorem dX2_move_17 : decode cX2_move 17 = .ok (.invokevirtual 43, 3) := by decide +kernel
theorem dX2_move_20 : decode cX2_move 20 = .ok (.ifCond .eq 33, 3) := by decide +kernel
theorem dX2_move_23 : decode cX2_move 23 = .ok (.aload_n 0, 1) := by decide +kernel
theorem dX2_move_24 : decode cX2_move 24 = .ok (.getfield 28, 3) := by decide +kernel
theorem dX2_move_27 : decode cX2_move 27 = .ok (.iload_n 1, 1) := by decide +kernel
theorem dX2_move_28 : decode cX2_move 28 = .ok (.aload_n 0, 1) := by decide +kernel
theorem dX2_move_29 : decode cX2_move 29 = .ok (.getfield 21, 3) := by decide +kernel
theorem dX2_move_32 : decode cX2_move 32 = .ok (.imul, 1) := by decide +kernel
theorem dX2_move_33 : decode cX2_move 33 = .ok (.iload_n 2, 1) := by decide +kernel
theorem dX2_move_34 : decode cX2_move 34 = .ok (.iadd, 1) := by decide +kernel
theorem dX2_move_35 : decode cX2_move 35 = .ok (.aload_n 0, 1) := by decide +kernel
theorem dX2_move_36 : decode cX2_move 36 = .ok (.getfield 28, 3) := by decide +kernel
theorem dX2_move_39 : decode cX2_move 39 = .ok (.iload_n 3, 1) := by decide +kernel
theorem dX2_move_40 : decode cX2_move 40 = .ok (.aload_n 0, 1) := by decide +kernel
theorem dX2_move_41 : decode cX2_move 41 = .ok (.getfield 21, 3) := by decide +kernel
theorem dX2_move_44 : decode cX2_move 44 = .ok (.imul, 1) := by decide +kernel
theorem dX2_move_45 : decode cX2_move 45 = .ok (.iload 4, 2) := by decide +kernel
theorem dX2_move_47 : decode cX2_move 47 = .ok (.iadd, 1) := by decide +kernel
theorem dX2_move_48 : decode cX2_move 48 = .ok (.iload 5, 2) := by decide +kernel
theorem dX2_move_50 : decode cX2_move 50 = .ok (.invokestatic 47, 3) := by decide +kernel
theorem dX2_move_53 : decode cX2_move 53 = .ok (.return_, 1) := by decide +kernel
theorem dX2_moveAll_0 : decode cX2_moveAll 0 = .ok (.aload_n 0, 1) := by decide +kernel
theorem dX2_moveAll_1 : decode cX2_moveAll 1 = .ok (.iload_n 2, 1) := by decide +kernel
theorem dX2_moveAll_2 : decode cX2_moveAll 2 = .ok (.aload_n 0, 1) := by decide +kernel
theorem dX2_moveAll_3 : decode cX2_moveAll 3 = .ok (.iload_n 1, 1) := by decide +kernel
theorem dX2_moveAll_4 : decode cX2_moveAll 4 = .ok (.invokevirtual 35, 3) := by decide +kernel
theorem dX2_moveAll_7 : decode cX2_moveAll 7 = .ok (.iconst 0, 1) := by decide +kernel
theorem dX2_moveAll_8 : decode cX2_moveAll 8 = .ok (.invokevirtual 53, 3) := by decide +kernel
theorem dX2_moveAll_11 : decode cX2_moveAll 11 = .ok (.aload_n 0, 1) := by decide +kernel
theorem dX2_moveAll_12 : decode cX2_moveAll 12 = .ok (.iload_n 1, 1) := by decide +kernel
theorem dX2_moveAll_13 : decode cX2_moveAll 13 = .ok (.iconst 0, 1) := by decide +kernel
theorem dX2_moveAll_14 : decode cX2_moveAll 14 = .ok (.iload_n 2, 1) := by decide +kernel
theorem dX2_moveAll_15 : decode cX2_moveAll 15 = .ok (.iconst 0, 1) := by decide +kernel
theorem dX2_moveAll_16 : decode cX2_moveAll 16 = .ok (.aload_n 0, 1) := by decide +kernel
theorem dX2_moveAll_17 : decode cX2_moveAll 17 = .ok (.iload_n 1, 1) := by decide +kernel
theorem dX2_moveAll_18 : decode cX2_moveAll 18 = .ok (.invokevirtual 35, 3) := by decide +kernel
theorem dX2_moveAll_21 : decode cX2_moveAll 21 = .ok (.invokevirtual 57, 3) := by decide +kernel
theorem dX2_moveAll_24 : decode cX2_moveAll 24 = .ok (.return_, 1) := by decide +kernel
theorem dX2_sum_0 : decode cX2_sum 0 = .ok (.lconst 0, 1) := by decide +kernel
theorem dX2_sum_1 : decode cX2_sum 1 = .ok (.lstore_n 2, 1) := by decide +kernel
theorem dX2_sum_2 : decode cX2_sum 2 = .ok (.aload_n 0, 1) := by decide +kernel
theorem dX2_sum_3 : decode cX2_sum 3 = .ok (.iload_n 1, 1) := by decide +kernel
theorem dX2_sum_4 : decode cX2_sum 4 = .ok (.invokevirtual 35, 3) := by decide +kernel
theorem dX2_sum_7 : decode cX2_sum 7 = .ok (.istore 4, 2) := by decide +kernel
theorem dX2_sum_9 : decode cX2_sum 9 = .ok (.iconst 0, 1) := by decide +kernel
theorem dX2_sum_10 : decode cX2_sum 10 = .ok (.istore 5, 2) := by decide +kernel
theorem dX2_sum_12 : decode cX2_sum 12 = .ok (.iload 5, 2) := by decide +kernel
theorem dX2_sum_14 : decode cX2_sum 14 = .ok (.iload 4, 2) := by decide +kernel
theorem dX2_sum_16 : decode cX2_sum 16 = .ok (.if_icmp .ge 20, 3) := by decide +kernel
theorem dX2_sum_19 : decode cX2_sum 19 = .ok (.lload_n 2, 1) := by decide +kernel
theorem dX2_sum_20 : decode cX2_sum 20 = .ok (.aload_n 0, 1) := by decide +kernel
theorem dX2_sum_21 : decode cX2_sum 21 = .ok (.iload_n 1, 1) := by decide +kernel
theorem dX2_sum_22 : decode cX2_sum 22 = .ok (.iload 5, 2) := by decide +kernel
theorem dX2_sum_24 : decode cX2_sum 24 = .ok (.invokevirtual 61, 3) := by decide +kernel
theorem dX2_sum_27 : decode cX2_sum 27 = .ok (.i2l, 1) := by decide +kernel
theorem dX2_sum_28 : decode cX2_sum 28 = .ok (.ladd, 1) := by decide +kernel
theorem dX2_sum_29 : decode cX2_sum 29 = .ok (.lstore_n 2, 1) := by decide +kernel
theorem dX2_sum_30 : decode cX2_sum 30 = .ok (.iinc 5 1, 3) := by decide +kernel
theorem dX2_sum_33 : decode cX2_sum 33 = .ok (.goto (-21), 3) := by decide +kernel
theorem dX2_sum_36 : decode cX2_sum 36 = .ok (.lload_n 2, 1) := by decide +kernel
theorem dX2_sum_37 : decode cX2_sum 37 = .ok (.lreturn, 1) := by decide +kernel
theorem dX2_mixInto_0 : decode cX2_mixInto 0 = .ok (.lload_n 1, 1) := by decide +kernel
theorem dX2_mixInto_1 : decode cX2_mixInto 1 = .ok (.lstore_n 3, 1) := by decide +kernel
theorem dX2_mixInto_2 : decode cX2_mixInto 2 = .ok (.iconst 0, 1) := by decide +kernel
theorem dX2_mixInto_3 : decode cX2_mixInto 3 = .ok (.istore 5, 2) := by decide +kernel
theorem dX2_mixInto_5 : decode cX2_mixInto 5 = .ok (.iload 5, 2) := by decide +kernel
theorem dX2_mixInto_7 : decode cX2_mixInto 7 = .ok (.aload_n 0, 1) := by decide +kernel
theorem dX2_mixInto_8 : decode cX2_mixInto 8 = .ok (.getfield 15, 3) := by decide +kernel
theorem dX2_mixInto_11 : decode cX2_mixInto 11 = .ok (.if_icmp .ge 59, 3) := by decide +kernel
theorem dX2_mixInto_14 : decode cX2_mixInto 14 = .ok (.aload_n 0, 1) := by decide +kernel
theorem dX2_mixInto_15 : decode cX2_mixInto 15 = .ok (.iload 5, 2) := by decide +kernel
theorem dX2_mixInto_17 : decode cX2_mixInto 17 = .ok (.invokevirtual 35, 3) := by decide +kernel
theorem dX2_mixInto_20 : decode cX2_mixInto 20 = .ok (.istore 6, 2) := by decide +kernel
theorem dX2_mixInto_22 : decode cX2_mixInto 22 = .ok (.ldc2_w 64, 3) := by decide +kernel
theorem dX2_mixInto_25 : decode cX2_mixInto 25 = .ok (.lload_n 3, 1) := by decide +kernel
theorem dX2_mixInto_26 : decode cX2_mixInto 26 = .ok (.lmul, 1) := by decide +kernel
theorem dX2_mixInto_27 : decode cX2_mixInto 27 = .ok (.iload 6, 2) := by decide +kernel
theorem dX2_mixInto_29 : decode cX2_mixInto 29 = .ok (.i2l, 1) := by decide +kernel
theorem dX2_mixInto_30 : decode cX2_mixInto 30 = .ok (.ladd, 1) := by decide +kernel
theorem dX2_mixInto_31 : decode cX2_mixInto 31 = .ok (.lstore_n 3, 1) := by decide +kernel
theorem dX2_mixInto_32 : decode cX2_mixInto 32 = .ok (.iconst 0, 1) := by decide +kernel
theorem dX2_mixInto_33 : decode cX2_mixInto 33 = .ok (.istore 7, 2) := by decide +kernel
theorem dX2_mixInto_35 : decode cX2_mixInto 35 = .ok (.iload 7, 2) := by decide +kernel
theorem dX2_mixInto_37 : decode cX2_mixInto 37 = .ok (.iload 6, 2) := by decide +kernel
theorem dX2_mixInto_39 : decode cX2_mixInto 39 = .ok (.if_icmp .ge 25, 3) := by decide +kernel
theorem dX2_mixInto_42 : decode cX2_mixInto 42 = .ok (.ldc2_w 64, 3) := by decide +kernel
theorem dX2_mixInto_45 : decode cX2_mixInto 45 = .ok (.lload_n 3, 1) := by decide +kernel
theorem dX2_mixInto_46 : decode cX2_mixInto 46 = .ok (.lmul, 1) := by decide +kernel
theorem dX2_mixInto_47 : decode cX2_mixInto 47 = .ok (.aload_n 0, 1) := by decide +kernel
theorem dX2_mixInto_48 : decode cX2_mixInto 48 = .ok (.iload 5, 2) := by decide +kernel
theorem dX2_mixInto_50 : decode cX2_mixInto 50 = .ok (.iload 7, 2) := by decide +kernel
theorem dX2_mixInto_52 : decode cX2_mixInto 52 = .ok (.invokevirtual 61, 3) := by decide +kernel
theorem dX2_mixInto_55 : decode cX2_mixInto 55 = .ok (.i2l, 1) := by decide +kernel
theorem dX2_mixInto_56 : decode cX2_mixInto 56 = .ok (.ladd, 1) := by decide +kernel
theorem dX2_mixInto_57 : decode cX2_mixInto 57 = .ok (.lstore_n 3, 1) := by decide +kernel
theorem dX2_mixInto_58 : decode cX2_mixInto 58 = .ok (.iinc 7 1, 3) := by decide +kernel
theorem dX2_mixInto_61 : decode cX2_mixInto 61 = .ok (.goto (-26), 3) := by decide +kernel
theorem dX2_mixInto_64 : decode cX2_mixInto 64 = .ok (.iinc 5 1, 3) := by decide +kernel
theorem dX2_mixInto_67 : decode cX2_mixInto 67 = .ok (.goto (-62), 3) := by decide +kernel
theorem dX2_mixInto_70 : decode cX2_mixInto 70 = .ok (.lload_n 3, 1) := by decide +kernel
theorem dX2_mixInto_71 : decode cX2_mixInto 71 = .ok (.lreturn, 1) := by decide +kernel
theorem dX3_init_0 : decode cX3_init 0 = .ok (.aload_n 0, 1) := by decide +kernel
theorem dX3_init_1 : decode cX3_init 1 = .ok (.invokespecial 3, 3) := by decide +kernel
theorem dX3_init_4 : decode cX3_init 4 = .ok (.aload_n 0, 1) := by decide +kernel
theorem dX3_init_5 : decode cX3_init 5 = .ok (.bipush 7, 2) := by decide +kernel
theorem dX3_init_7 : decode cX3_init 7 = .ok (.newarray .int, 2) := by decide +kernel
theorem dX3_init_9 : decode cX3_init 9 = .ok (.putfield 9, 3) := by decide +kernel
theorem dX3_init_12 : decode cX3_init 12 = .ok (.aload_n 0, 1) := by decide +kernel
theorem dX3_init_13 : decode cX3_init 13 = .ok (.bipush 7, 2) := by decide +kernel
theorem dX3_init_15 : decode cX3_init 15 = .ok (.newarray .int, 2) := by decide +kernel
theorem dX3_init_17 : decode cX3_init 17 = .ok (.putfield 15, 3) := by decide +kernel
theorem dX3_init_20 : decode cX3_init 20 = .ok (.aload_n 0, 1) := by decide +kernel
theorem dX3_init_21 : decode cX3_init 21 = .ok (.iconst 4, 1) := by decide +kernel
theorem dX3_init_22 : decode cX3_init 22 = .ok (.newarray .int, 2) := by decide +kernel
theorem dX3_init_24 : decode cX3_init 24 = .ok (.putfield 18, 3) := by decide +kernel
theorem dX3_init_27 : decode cX3_init 27 = .ok (.aload_n 0, 1) := by decide +kernel
theorem dX3_init_28 : decode cX3_init 28 = .ok (.iconst 4, 1) := by decide +kernel
theorem dX3_init_29 : decode cX3_init 29 = .ok (.newarray .int, 2) := by decide +kernel
theorem dX3_init_31 : decode cX3_init 31 = .ok (.putfield 21, 3) := by decide +kernel
theorem dX3_init_34 : decode cX3_init 34 = .ok (.aload_n 0, 1) := by decide +kernel
theorem dX3_init_35 : decode cX3_init 35 = .ok (.iconst 4, 1) := by decide +kernel
theorem dX3_init_36 : decode cX3_init 36 = .ok (.newarray .int, 2) := by decide +kernel
theorem dX3_init_38 : decode cX3_init 38 = .ok (.putfield 24, 3) := by decide +kernel
theorem dX3_init_41 : decode cX3_init 41 = .ok (.aload_n 0, 1) := by decide +kernel
theorem dX3_init_42 : decode cX3_init 42 = .ok (.iconst 0, 1) := by decide +kernel
theorem dX3_init_43 : decode cX3_init 43 = .ok (.putfield 27, 3) := by decide +kernel
theorem dX3_init_46 : decode cX3_init 46 = .ok (.aload_n 0, 1) := by decide +kernel
theorem dX3_init_47 : decode cX3_init 47 = .ok (.iconst 0, 1) := by decide +kernel
theorem dX3_init_48 : decode cX3_init 48 = .ok (.putfield 31, 3) := by decide +kernel
theorem dX3_init_51 : decode cX3_init 51 = .ok (.aload_n 0, 1) := by decide +kernel
theorem dX3_init_52 : decode cX3_init 52 = .ok (.iconst 0, 1) := by decide +kernel
theorem dX3_init_53 : decode cX3_init 53 = .ok (.putfield 34, 3) := by decide +kernel
theorem dX3_init_56 : decode cX3_init 56 = .ok (.aload_n 0, 1) := by decide +kernel
theorem dX3_init_57 : decode cX3_init 57 = .ok (.iconst 0, 1) := by decide +kernel
theorem dX3_init_58 : decode cX3_init 58 = .ok (.putfield 37, 3) := by decide +kernel
theorem dX3_init_61 : decode cX3_init 61 = .ok (.return_, 1) := by decide +kernel
theorem dX3_attach_0 : decode cX3_attach 0 = .ok (.aload_n 0, 1) := by decide +kernel
theorem dX3_attach_1 : decode cX3_attach 1 = .ok (.aload_n 1, 1) := by decide +kernel
theorem dX3_attach_2 : decode cX3_attach 2 = .ok (.getfield 40, 3) := by decide +kernel
theorem dX3_attach_5 : decode cX3_attach 5 = .ok (.putfield 27, 3) := by decide +kernel
theorem dX3_attach_8 : decode cX3_attach 8 = .ok (.aload_n 0, 1) := by decide +kernel
theorem dX3_attach_9 : decode cX3_attach 9 = .ok (.iconst 0, 1) := by decide +kernel
theorem dX3_attach_10 : decode cX3_attach 10 = .ok (.putfield 31, 3) := by decide +kernel
theorem dX3_attach_13 : decode cX3_attach 13 = .ok (.aload_n 0, 1) := by decide +kernel
theorem dX3_attach_14 : decode cX3_attach 14 = .ok (.iconst 0, 1) := by decide +kernel
theorem dX3_attach_15 : decode cX3_attach 15 = .ok (.putfield 34, 3) := by decide +kernel
theorem dX3_attach_18 : decode cX3_attach 18 = .ok (.aload_n 0, 1) := by decide +kernel
theorem dX3_attach_19 : decode cX3_attach 19 = .ok (.iconst 0, 1) := by decide +kernel
theorem dX3_attach_20 : decode cX3_attach 20 = .ok (.putfield 37, 3) := by decide +kernel
theorem dX3_attach_23 : decode cX3_attach 23 = .ok (.iconst 0, 1) := by decide +kernel
theorem dX3_attach_24 : decode cX3_attach 24 = .ok (.istore_n 3, 1) := by decide +kernel
theorem dX3_attach_25 : decode cX3_attach 25 = .ok (.iload_n 3, 1) := by decide +kernel
theorem dX3_attach_26 : decode cX3_attach 26 = .ok (.aload_n 0, 1) := by decide +kernel
theorem dX3_attach_27 : decode cX3_attach 27 = .ok (.getfield 27, 3) := by decide +kernel
theorem dX3_attach_30 : decode cX3_attach 30 = .ok (.if_icmp .ge 158, 3) := by decide +kernel
theorem dX3_attach_33 : decode cX3_attach 33 = .ok (.iload_n 3, 1) := by decide +kernel
theorem dX3_attach_34 : decode cX3_attach 34 = .ok (.bipush 7, 2) := by decide +kernel
theorem dX3_attach_36 : decode cX3_attach 36 = .ok (.if_icmp .ge 152, 3) := by decide +kernel
theorem dX3_attach_39 : decode cX3_attach 39 = .ok (.iconst 1, 1) := by decide +kernel
theorem dX3_attach_40 : decode cX3_attach 40 = .ok (.iload_n 3, 1) := by decide +kernel
theorem dX3_attach_41 : decode cX3_attach 41 = .ok (.ishl, 1) := by decide +kernel
theorem dX3_attach_42 : decode cX3_attach 42 = .ok (.istore 4, 2) := by decide +kernel
theorem dX3_attach_44 : decode cX3_attach 44 = .ok (.aload_n 0, 1) := by decide +kernel
theorem dX3_attach_45 : decode cX3_attach 45 = .ok (.getfield 9, 3) := by decide +kernel
theorem dX3_attach_48 : decode cX3_attach 48 = .ok (.iload_n 3, 1) := by decide +kernel
theorem dX3_attach_49 : decode cX3_attach 49 = .ok (.aload_n 1, 1) := by decide +kernel
theorem dX3_attach_50 : decode cX3_attach 50 = .ok (.getfield 43, 3) := by decide +kernel
theorem dX3_attach_53 : decode cX3_attach 53 = .ok (.iload_n 3, 1) := by decide +kernel
theorem dX3_attach_54 : decode cX3_attach 54 = .ok (.iaload, 1) := by decide +kernel
theorem dX3_attach_55 : decode cX3_attach 55 = .ok (.iastore, 1) := by decide +kernel
theorem dX3_attach_56 : decode cX3_attach 56 = .ok (.aload_n 0, 1) := by decide +kernel
theorem dX3_attach_57 : decode cX3_attach 57 = .ok (.getfield 15, 3) := by decide +kernel
theorem dX3_attach_60 : decode cX3_attach 60 = .ok (.iload_n 3, 1) := by decide +kernel
theorem dX3_attach_61 : decode cX3_attach 61 = .ok (.iconst 1, 1) := by decide +kernel
theorem dX3_attach_62 : decode cX3_attach 62 = .ok (.aload_n 1, 1) := by decide +kernel
theorem dX3_attach_63 : decode cX3_attach 63 = .ok (.getfield 44, 3) := by decide +kernel
theorem dX3_attach_66 : decode cX3_attach 66 = .ok (.iload_n 3, 1) := by decide +kernel
theorem dX3_attach_67 : decode cX3_attach 67 = .ok (.iaload, 1) := by decide +kernel
theorem dX3_attach_68 : decode cX3_attach 68 = .ok (.ishl, 1) := by decide +kernel
theorem dX3_attach_69 : decode cX3_attach 69 = .ok (.iastore, 1) := by decide +kernel
theorem dX3_attach_70 : decode cX3_attach 70 = .ok (.aload_n 2, 1) := by decide +kernel
theorem dX3_attach_71 : decode cX3_attach 71 = .ok (.getfield 47, 3) := by decide +kernel
theorem dX3_attach_74 : decode cX3_attach 74 = .ok (.aload_n 0, 1) := by decide +kernel
theorem dX3_attach_75 : decode cX3_attach 75 = .ok (.getfield 9, 3) := by decide +kernel
theorem dX3_attach_78 : decode cX3_attach 78 = .ok (.iload_n 3, 1) := by decide +kernel
theorem dX3_attach_79 : decode cX3_attach 79 = .ok (.iaload, 1) := by decide +kernel
theorem dX3_attach_80 : decode cX3_attach 80 = .ok (.invokestatic 52, 3) := by decide +kernel
theorem dX3_attach_83 : decode cX3_attach 83 = .ok (.ifCond .ne 7, 3) := by decide +kernel
theorem dX3_attach_86 : decode cX3_attach 86 = .ok (.iconst 1, 1) := by decide +kernel
theorem dX3_attach_87 : decode cX3_attach 87 = .ok (.goto 4, 3) := by decide +kernel
theorem dX3_attach_90 : decode cX3_attach 90 = .ok (.iconst 0, 1) := by decide +kernel
theorem dX3_attach_91 : decode cX3_attach 91 = .ok (.istore 5, 2) := by decide +kernel
theorem dX3_attach_93 : decode cX3_attach 93 = .ok (.aload_n 0, 1) := by decide +kernel
theorem dX3_attach_94 : decode cX3_attach 94 = .ok (.dup, 1) := by decide +kernel
theorem dX3_attach_95 : decode cX3_attach 95 = .ok (.getfield 31, 3) := by decide +kernel
theorem dX3_attach_98 : decode cX3_attach 98 = .ok (.iload 5, 2) := by decide +kernel
theorem dX3_attach_100 : decode cX3_attach 100 = .ok (.ifCond .eq 19, 3) := by decide +kernel
theorem dX3_attach_103 : decode cX3_attach 103 = .ok (.aload_n 1, 1) := by decide +kernel
theorem dX3_attach_104 : decode cX3_attach 104 = .ok (.iload_n 3, 1) := by decide +kernel
theorem dX3_attach_105 : decode cX3_attach 105 = .ok (.aload_n 2, 1) := by decide +kernel
theorem dX3_attach_106 : decode cX3_attach 106 = .ok (.iload 4, 2) := by decide +kernel
theorem dX3_attach_108 : decode cX3_attach 108 = .ok (.invokevirtual 56, 3) := by decide +kernel
theorem dX3_attach_111 : decode cX3_attach 111 = .ok (.ifCond .eq 8, 3) := by decide +kernel
theorem dX3_attach_114 : decode cX3_attach 114 = .ok (.iload 4, 2) := by decide +kernel
theorem dX3_attach_116 : decode cX3_attach 116 = .ok (.goto 4, 3) := by decide +kernel
theorem dX3_attach_119 : decode cX3_attach 119 = .ok (.iconst 0, 1) := by decide +kernel
theorem dX3_attach_120 : decode cX3_attach 120 = .ok (.ior, 1) := by decide +kernel
theorem dX3_attach_121 : decode cX3_attach 121 = .ok (.putfield 31, 3) := by decide +kernel
theorem dX3_attach_124 : decode cX3_attach 124 = .ok (.aload_n 0, 1) := by decide +kernel
theorem dX3_attach_125 : decode cX3_attach 125 = .ok (.dup, 1) := by decide +kernel
theorem dX3_attach_126 : decode cX3_attach 126 = .ok (.getfield 34, 3) := by decide +kernel
theorem dX3_attach_129 : decode cX3_attach 129 = .ok (.iload 5, 2) := by decide +kernel
theorem dX3_attach_131 : decode cX3_attach 131 = .ok (.ifCond .eq 18, 3) := by decide +kernel
theorem dX3_attach_134 : decode cX3_attach 134 = .ok (.aload_n 1, 1) := by decide +kernel
theorem dX3_attach_135 : decode cX3_attach 135 = .ok (.iload_n 3, 1) := by decide +kernel
theorem dX3_attach_136 : decode cX3_attach 136 = .ok (.aload_n 2, 1) := by decide +kernel
theorem dX3_attach_137 : decode cX3_attach 137 = .ok (.iconst 0, 1) := by decide +kernel
theorem dX3_attach_138 : decode cX3_attach 138 = .ok (.invokevirtual 56, 3) := by decide +kernel
theorem dX3_attach_141 : decode cX3_attach 141 = .ok (.ifCond .eq 8, 3) := by decide +kernel
theorem dX3_attach_144 : decode cX3_attach 144 = .ok (.iload 4, 2) := by decide +kernel
theorem dX3_attach_146 : decode cX3_attach 146 = .ok (.goto 4, 3) := by decide +kernel
theorem dX3_attach_149 : decode cX3_attach 149 = .ok (.iconst 0, 1) := by decide +kernel
theorem dX3_attach_150 : decode cX3_attach 150 = .ok (.ior, 1) := by decide +kernel
theorem dX3_attach_151 : decode cX3_attach 151 = .ok (.putfield 34, 3) := by decide +kernel
theorem dX3_attach_154 : decode cX3_attach 154 = .ok (.aload_n 0, 1) := by decide +kernel
theorem dX3_attach_155 : decode cX3_attach 155 = .ok (.dup, 1) := by decide +kernel
theorem dX3_attach_156 : decode cX3_attach 156 = .ok (.getfield 37, 3) := by decide +kernel
theorem dX3_attach_159 : decode cX3_attach 159 = .ok (.aload_n 1, 1) := by decide +kernel
theorem dX3_attach_160 : decode cX3_attach 160 = .ok (.getfield 60, 3) := by decide +kernel
theorem dX3_attach_163 : decode cX3_attach 163 = .ok (.iload_n 3, 1) := by decide +kernel
theorem dX3_attach_164 : decode cX3_attach 164 = .ok (.iaload, 1) := by decide +kernel
theorem dX3_attach_165 : decode cX3_attach 165 = .ok (.iconst 1, 1) := by decide +kernel
theorem dX3_attach_166 : decode cX3_attach 166 = .ok (.invokestatic 63, 3) := by decide +kernel
theorem dX3_attach_169 : decode cX3_attach 169 = .ok (.ifCond .eq 8, 3) := by decide +kernel
theorem dX3_attach_172 : decode cX3_attach 172 = .ok (.iload 4, 2) := by decide +kernel
theorem dX3_attach_174 : decode cX3_attach 174 = .ok (.goto 4, 3) := by decide +kernel
theorem dX3_attach_177 : decode cX3_attach 177 = .ok (.iconst 0, 1) := by decide +kernel
theorem dX3_attach_178 : decode cX3_attach 178 = .ok (.ior, 1) := by decide +kernel
theorem dX3_attach_179 : decode cX3_attach 179 = .ok (.putfield 37, 3) := by decide +kernel
theorem dX3_attach_182 : decode cX3_attach 182 = .ok (.iinc 3 1, 3) := by decide +kernel
theorem dX3_attach_185 : decode cX3_attach 185 = .ok (.goto (-160), 3) := by decide +kernel
theorem dX3_attach_188 : decode cX3_attach 188 = .ok (.return_, 1) := by decide +kernel
theorem dX3_connect_0 : decode cX3_connect 0 = .ok (.iload_n 1, 1) := by decide +kernel
theorem dX3_connect_1 : decode cX3_connect 1 = .ok (.aload_n 0, 1) := by decide +kernel
theorem dX3_connect_2 : decode cX3_connect 2 = .ok (.getfield 31, 3) := by decide +kernel
theorem dX3_connect_5 : decode cX3_connect 5 = .ok (.iand, 1) := by decide +kernel
theorem dX3_connect_6 : decode cX3_connect 6 = .ok (.aload_n 0, 1) := by decide +kernel
theorem dX3_connect_7 : decode cX3_connect 7 = .ok (.getfield 34, 3) := by decide +kernel
theorem dX3_connect_10 : decode cX3_connect 10 = .ok (.ior, 1) := by decide +kernel
theorem dX3_connect_11 : decode cX3_connect 11 = .ok (.istore_n 2, 1) := by decide +kernel
theorem dX3_connect_12 : decode cX3_connect 12 = .ok (.iconst 0, 1) := by decide +kernel
theorem dX3_connect_13 : decode cX3_connect 13 = .ok (.istore_n 3, 1) := by decide +kernel
theorem dX3_connect_14 : decode cX3_connect 14 = .ok (.iload_n 3, 1) := by decide +kernel
theorem dX3_connect_15 : decode cX3_connect 15 = .ok (.iconst 4, 1) := by decide +kernel
theorem dX3_connect_16 : decode cX3_connect 16 = .ok (.if_icmp .ge 23, 3) := by decide +kernel
theorem dX3_connect_19 : decode cX3_connect 19 = .ok (.aload_n 0, 1) := by decide +kernel
theorem dX3_connect_20 : decode cX3_connect 20 = .ok (.getfield 18, 3) := by decide +kernel
theorem dX3_connect_23 : decode cX3_connect 23 = .ok (.iload_n 3, 1) := by decide +kernel
theorem dX3_connect_24 : decode cX3_connect 24 = .ok (.iconst 0, 1) := by decide +kernel
theorem dX3_connect_25 : decode cX3_connect 25 = .ok (.iastore, 1) := by decide +kernel
theorem dX3_connect_26 : decode cX3_connect 26 = .ok (.aload_n 0, 1) := by decide +kernel
theorem dX3_connect_27 : decode cX3_connect 27 = .ok (.getfield 21, 3) := by decide +kernel
theorem dX3_connect_30 : decode cX3_connect 30 = .ok (.iload_n 3, 1) := by decide +kernel
theorem dX3_connect_31 : decode cX3_connect 31 = .ok (.iconst 0, 1) := by decide +kernel
theorem dX3_connect_32 : decode cX3_connect 32 = .ok (.iastore, 1) := by decide +kernel
theorem dX3_connect_33 : decode cX3_connect 33 = .ok (.iinc 3 1, 3) := by decide +kernel
theorem dX3_connect_36 : decode cX3_connect 36 = .ok (.goto (-22), 3) := by decide +kernel
theorem dX3_connect_39 : decode cX3_connect 39 = .ok (.iconst 0, 1) := by decide +kernel
theorem dX3_connect_40 : decode cX3_connect 40 = .ok (.istore_n 3, 1) := by decide +kernel
theorem dX3_connect_41 : decode cX3_connect 41 = .ok (.iload_n 3, 1) := by decide +kernel
theorem dX3_connect_42 : decode cX3_connect 42 = .ok (.aload_n 0, 1) := by decide +kernel
theorem dX3_connect_43 : decode cX3_connect 43 = .ok (.getfield 27, 3) := by decide +kernel
theorem dX3_connect_46 : decode cX3_connect 46 = .ok (.if_icmp .ge 89, 3) := by decide +kernel
theorem dX3_connect_49 : decode cX3_connect 49 = .ok (.iload_n 3, 1) := by decide +kernel
theorem dX3_connect_50 : decode cX3_connect 50 = .ok (.bipush 7, 2) := by decide +kernel
theorem dX3_connect_52 : decode cX3_connect 52 = .ok (.if_icmp .ge 83, 3) := by decide +kernel
theorem dX3_connect_55 : decode cX3_connect 55 = .ok (.aload_n 0, 1) := by decide +kernel
theorem dX3_connect_56 : decode cX3_connect 56 = .ok (.getfield 9, 3) := by decide +kernel
theorem dX3_connect_59 : decode cX3_connect 59 = .ok (.iload_n 3, 1) := by decide +kernel
theorem dX3_connect_60 : decode cX3_connect 60 = .ok (.iaload, 1) := by decide +kernel
theorem dX3_connect_61 : decode cX3_connect 61 = .ok (.istore 4, 2) := by decide +kernel
theorem dX3_connect_63 : decode cX3_connect 63 = .ok (.iload_n 2, 1) := by decide +kernel
theorem dX3_connect_64 : decode cX3_connect 64 = .ok (.iload_n 3, 1) := by decide +kernel
theorem dX3_connect_65 : decode cX3_connect 65 = .ok (.ishr, 1) := by decide +kernel
theorem dX3_connect_66 : decode cX3_connect 66 = .ok (.iconst 1, 1) := by decide +kernel
theorem dX3_connect_67 : decode cX3_connect 67 = .ok (.iand, 1) := by decide +kernel
theorem dX3_connect_68 : decode cX3_connect 68 = .ok (.ifCond .eq 61, 3) := by decide +kernel
theorem dX3_connect_71 : decode cX3_connect 71 = .ok (.iload 4, 2) := by decide +kernel
theorem dX3_connect_73 : decode cX3_connect 73 = .ok (.ifCond .lt 56, 3) := by decide +kernel
theorem dX3_connect_76 : decode cX3_connect 76 = .ok (.iload 4, 2) := by decide +kernel
theorem dX3_connect_78 : decode cX3_connect 78 = .ok (.iconst 4, 1) := by decide +kernel
theorem dX3_connect_79 : decode cX3_connect 79 = .ok (.if_icmp .ge 50, 3) := by decide +kernel
theorem dX3_connect_82 : decode cX3_connect 82 = .ok (.aload_n 0, 1) := by decide +kernel
theorem dX3_connect_83 : decode cX3_connect 83 = .ok (.getfield 18, 3) := by decide +kernel
theorem dX3_connect_86 : decode cX3_connect 86 = .ok (.iload 4, 2) := by decide +kernel
theorem dX3_connect_88 : decode cX3_connect 88 = .ok (.dup2, 1) := by decide +kernel
theorem dX3_connect_89 : decode cX3_connect 89 = .ok (.iaload, 1) := by decide +kernel
theorem dX3_connect_90 : decode cX3_connect 90 = .ok (.aload_n 0, 1) := by decide +kernel
theorem dX3_connect_91 : decode cX3_connect 91 = .ok (.getfield 15, 3) := by decide +kernel
theorem dX3_connect_94 : decode cX3_connect 94 = .ok (.iload_n 3, 1) := by decide +kernel
theorem dX3_connect_95 : decode cX3_connect 95 = .ok (.iaload, 1) := by decide +kernel
theorem dX3_connect_96 : decode cX3_connect 96 = .ok (.ior, 1) := by decide +kernel
theorem dX3_connect_97 : decode cX3_connect 97 = .ok (.iastore, 1) := by decide +kernel
theorem dX3_connect_98 : decode cX3_connect 98 = .ok (.aload_n 0, 1) := by decide +kernel
theorem dX3_connect_99 : decode cX3_connect 99 = .ok (.getfield 21, 3) := by decide +kernel
theorem dX3_connect_102 : decode cX3_connect 102 = .ok (.iload 4, 2) := by decide +kernel
theorem dX3_connect_104 : decode cX3_connect 104 = .ok (.dup2, 1) := by decide +kernel
theorem dX3_connect_105 : decode cX3_connect 105 = .ok (.iaload, 1) := by decide +kernel
theorem dX3_connect_106 : decode cX3_connect 106 = .ok (.aload_n 0, 1) := by decide +kernel
theorem dX3_connect_107 : decode cX3_connect 107 = .ok (.getfield 37, 3) := by decide +kernel
theorem dX3_connect_110 : decode cX3_connect 110 = .ok (.iload_n 3, 1) := by decide +kernel
theorem dX3_connect_111 : decode cX3_connect 111 = .ok (.ishr, 1) := by decide +kernel
theorem dX3_connect_112 : decode cX3_connect 112 = .ok (.iconst 1, 1) := by decide +kernel
theorem dX3_connect_113 : decode cX3_connect 113 = .ok (.iand, 1) := by decide +kernel
theorem dX3_connect_114 : decode cX3_connect 114 = .ok (.ifCond .eq 7, 3) := by decide +kernel
theorem dX3_connect_117 : decode cX3_connect 117 = .ok (.iconst 0, 1) := by decide +kernel
theorem dX3_connect_118 : decode cX3_connect 118 = .ok (.goto 9, 3) := by decide +kernel
theorem dX3_connect_121 : decode cX3_connect 121 = .ok (.aload_n 0, 1) := by decide +kernel
theorem dX3_connect_122 : decode cX3_connect 122 = .ok (.getfield 15, 3) := by decide +kernel
theorem dX3_connect_125 : decode cX3_connect 125 = .ok (.iload_n 3, 1) := by decide +kernel
theorem dX3_connect_126 : decode cX3_connect 126 = .ok (.iaload, 1) := by decide +kernel
theorem dX3_connect_127 : decode cX3_connect 127 = .ok (.ior, 1) := by decide +kernel
theorem dX3_connect_128 : decode cX3_connect 128 = .ok (.iastore, 1) := by decide +kernel
theorem dX3_connect_129 : decode cX3_connect 129 = .ok (.iinc 3 1, 3) := by decide +kernel
theorem dX3_connect_132 : decode cX3_connect 132 = .ok (.goto (-91), 3) := by decide +kernel
theorem dX3_connect_135 : decode cX3_connect 135 = .ok (.return_, 1) := by decide +kernel
theorem dX3_columnsFrom_0 : decode cX3_columnsFrom 0 = .ok (.iload_n 1, 1) := by decide +kernel
theorem dX3_columnsFrom_1 : decode cX3_columnsFrom 1 = .ok (.iconst 4, 1) := by decide +kernel
theorem dX3_columnsFrom_2 : decode cX3_columnsFrom 2 = .ok (.invokestatic 66, 3) := by decide +kernel
theorem dX3_columnsFrom_5 : decode cX3_columnsFrom 5 = .ok (.ifCond .ne 5, 3) := by decide +kernel
theorem dX3_columnsFrom_8 : decode cX3_columnsFrom 8 = .ok (.iconst 0, 1) := by decide +kernel
theorem dX3_columnsFrom_9 : decode cX3_columnsFrom 9 = .ok (.ireturn, 1) := by decide +kernel
theorem dX3_columnsFrom_10 : decode cX3_columnsFrom 10 = .ok (.aload_n 0, 1) := by decide +kernel
theorem dX3_columnsFrom_11 : decode cX3_columnsFrom 11 = .ok (.getfield 18, 3) := by decide +kernel
theorem dX3_columnsFrom_14 : decode cX3_columnsFrom 14 = .ok (.iload_n 1, 1) := by decide +kernel
theorem dX3_columnsFrom_15 : decode cX3_columnsFrom 15 = .ok (.iaload, 1) := by decide +kernel
theorem dX3_columnsFrom_16 : decode cX3_columnsFrom 16 = .ok (.istore_n 2, 1) := by decide +kernel
theorem dX3_columnsFrom_17 : decode cX3_columnsFrom 17 = .ok (.iconst 1, 1) := by decide +kernel
theorem dX3_columnsFrom_18 : decode cX3_columnsFrom 18 = .ok (.iload_n 1, 1) := by decide +kernel
theorem dX3_columnsFrom_19 : decode cX3_columnsFrom 19 = .ok (.ishl, 1) := by decide +kernel
theorem dX3_columnsFrom_20 : decode cX3_columnsFrom 20 = .ok (.istore_n 3, 1) := by decide +kernel
theorem dX3_columnsFrom_21 : decode cX3_columnsFrom 21 = .ok (.iconst 0, 1) := by decide +kernel
theorem dX3_columnsFrom_22 : decode cX3_columnsFrom 22 = .ok (.istore 4, 2) := by decide +kernel
theorem dX3_columnsFrom_24 : decode cX3_columnsFrom 24 = .ok (.iconst 0, 1) := by decide +kernel
theorem dX3_columnsFrom_25 : decode cX3_columnsFrom 25 = .ok (.istore 5, 2) := by decide +kernel
theorem dX3_columnsFrom_27 : decode cX3_columnsFrom 27 = .ok (.iload 5, 2) := by decide +kernel
theorem dX3_columnsFrom_29 : decode cX3_columnsFrom 29 = .ok (.iconst 4, 1) := by decide +kernel
theorem dX3_columnsFrom_30 : decode cX3_columnsFrom 30 = .ok (.if_icmp .ge 75, 3) := by decide +kernel
theorem dX3_columnsFrom_33 : decode cX3_columnsFrom 33 = .ok (.iload_n 2, 1) := by decide +kernel
theorem dX3_columnsFrom_34 : decode cX3_columnsFrom 34 = .ok (.ifCond .eq 71, 3) := by decide +kernel
theorem dX3_columnsFrom_37 : decode cX3_columnsFrom 37 = .ok (.iload_n 3, 1) := by decide +kernel
theorem dX3_columnsFrom_38 : decode cX3_columnsFrom 38 = .ok (.iload 4, 2) := by decide +kernel
theorem dX3_columnsFrom_40 : decode cX3_columnsFrom 40 = .ok (.if_icmp .eq 65, 3) := by decide +kernel
theorem dX3_columnsFrom_43 : decode cX3_columnsFrom 43 = .ok (.iload_n 3, 1) := by decide +kernel
theorem dX3_columnsFrom_44 : decode cX3_columnsFrom 44 = .ok (.istore 4, 2) := by decide +kernel
theorem dX3_columnsFrom_46 : decode cX3_columnsFrom 46 = .ok (.iconst 0, 1) := by decide +kernel
theorem dX3_columnsFrom_47 : decode cX3_columnsFrom 47 = .ok (.istore 6, 2) := by decide +kernel
theorem dX3_columnsFrom_49 : decode cX3_columnsFrom 49 = .ok (.iload 6, 2) := by decide +kernel
theorem dX3_columnsFrom_51 : decode cX3_columnsFrom 51 = .ok (.iconst 4, 1) := by decide +kernel
theorem dX3_columnsFrom_52 : decode cX3_columnsFrom 52 = .ok (.if_icmp .ge 47, 3) := by decide +kernel
theorem dX3_columnsFrom_55 : decode cX3_columnsFrom 55 = .ok (.iload_n 3, 1) := by decide +kernel
theorem dX3_columnsFrom_56 : decode cX3_columnsFrom 56 = .ok (.iload 6, 2) := by decide +kernel
theorem dX3_columnsFrom_58 : decode cX3_columnsFrom 58 = .ok (.ishr, 1) := by decide +kernel
theorem dX3_columnsFrom_59 : decode cX3_columnsFrom 59 = .ok (.iconst 1, 1) := by decide +kernel
theorem dX3_columnsFrom_60 : decode cX3_columnsFrom 60 = .ok (.iand, 1) := by decide +kernel
theorem dX3_columnsFrom_61 : decode cX3_columnsFrom 61 = .ok (.ifCond .ne 32, 3) := by decide +kernel
theorem dX3_columnsFrom_64 : decode cX3_columnsFrom 64 = .ok (.aload_n 0, 1) := by decide +kernel
theorem dX3_columnsFrom_65 : decode cX3_columnsFrom 65 = .ok (.getfield 21, 3) := by decide +kernel
theorem dX3_columnsFrom_68 : decode cX3_columnsFrom 68 = .ok (.iload 6, 2) := by decide +kernel
theorem dX3_columnsFrom_70 : decode cX3_columnsFrom 70 = .ok (.iaload, 1) := by decide +kernel
theorem dX3_columnsFrom_71 : decode cX3_columnsFrom 71 = .ok (.iload_n 2, 1) := by decide +kernel
theorem dX3_columnsFrom_72 : decode cX3_columnsFrom 72 = .ok (.iand, 1) := by decide +kernel
theorem dX3_columnsFrom_73 : decode cX3_columnsFrom 73 = .ok (.ifCond .eq 20, 3) := by decide +kernel
theorem dX3_columnsFrom_76 : decode cX3_columnsFrom 76 = .ok (.iload_n 3, 1) := by decide +kernel
theorem dX3_columnsFrom_77 : decode cX3_columnsFrom 77 = .ok (.iconst 1, 1) := by decide +kernel
theorem dX3_columnsFrom_78 : decode cX3_columnsFrom 78 = .ok (.iload 6, 2) := by decide +kernel
theorem dX3_columnsFrom_80 : decode cX3_columnsFrom 80 = .ok (.ishl, 1) := by decide +kernel
theorem dX3_columnsFrom_81 : decode cX3_columnsFrom 81 = .ok (.ior, 1) := by decide +kernel
theorem dX3_columnsFrom_82 : decode cX3_columnsFrom 82 = .ok (.istore_n 3, 1) := by decide +kernel
theorem dX3_columnsFrom_83 : decode cX3_columnsFrom 83 = .ok (.iload_n 2, 1) := by decide +kernel
theorem dX3_columnsFrom_84 : decode cX3_columnsFrom 84 = .ok (.aload_n 0, 1) := by decide +kernel
theorem dX3_columnsFrom_85 : decode cX3_columnsFrom 85 = .ok (.getfield 18, 3) := by decide +kernel
theorem dX3_columnsFrom_88 : decode cX3_columnsFrom 88 = .ok (.iload 6, 2) := by decide +kernel
theorem dX3_columnsFrom_90 : decode cX3_columnsFrom 90 = .ok (.iaload, 1) := by decide +kernel
theorem dX3_columnsFrom_91 : decode cX3_columnsFrom 91 = .ok (.ior, 1) := by decide +kernel
theorem dX3_columnsFrom_92 : decode cX3_columnsFrom 92 = .ok (.istore_n 2, 1) := by decide +kernel
theorem dX3_columnsFrom_93 : decode cX3_columnsFrom 93 = .ok (.iinc 6 1, 3) := by decide +kernel
theorem dX3_columnsFrom_96 : decode cX3_columnsFrom 96 = .ok (.goto (-47), 3) := by decide +kernel
theorem dX3_columnsFrom_99 : decode cX3_columnsFrom 99 = .ok (.iinc 5 1, 3) := by decide +kernel
theorem dX3_columnsFrom_102 : decode cX3_columnsFrom 102 = .ok (.goto (-75), 3) := by decide +kernel
theorem dX3_columnsFrom_105 : decode cX3_columnsFrom 105 = .ok (.iload_n 2, 1) := by decide +kernel
theorem dX3_columnsFrom_106 : decode cX3_columnsFrom 106 = .ok (.ireturn, 1) := by decide +kernel
theorem dX3_columnsReadBy_0 : decode cX3_columnsReadBy 0 = .ok (.aload_n 0, 1) := by decide +kernel
theorem dX3_columnsReadBy_1 : decode cX3_columnsReadBy 1 = .ok (.iload_n 2, 1) := by decide +kernel
theorem dX3_columnsReadBy_2 : decode cX3_columnsReadBy 2 = .ok (.invokevirtual 69, 3) := by decide +kernel
theorem dX3_columnsReadBy_5 : decode cX3_columnsReadBy 5 = .ok (.aload_n 0, 1) := by decide +kernel
theorem dX3_columnsReadBy_6 : decode cX3_columnsReadBy 6 = .ok (.iload_n 1, 1) := by decide +kernel
theorem dX3_columnsReadBy_7 : decode cX3_columnsReadBy 7 = .ok (.invokevirtual 73, 3) := by decide +kernel
theorem dX3_columnsReadBy_10 : decode cX3_columnsReadBy 10 = .ok (.ireturn, 1) := by decide +kernel
theorem dX3_toldOf_0 : decode cX3_toldOf 0 = .ok (.aload_n 0, 1) := by decide +kernel
theorem dX3_toldOf_1 : decode cX3_toldOf 1 = .ok (.iload_n 1, 1) := by decide +kernel
theorem dX3_toldOf_2 : decode cX3_toldOf 2 = .ok (.invokevirtual 69, 3) := by decide +kernel
theorem dX3_toldOf_5 : decode cX3_toldOf 5 = .ok (.iconst 0, 1) := by decide +kernel
theorem dX3_toldOf_6 : decode cX3_toldOf 6 = .ok (.istore_n 2, 1) := by decide +kernel
theorem dX3_toldOf_7 : decode cX3_toldOf 7 = .ok (.iload_n 2, 1) := by decide +kernel
theorem dX3_toldOf_8 : decode cX3_toldOf 8 = .ok (.iconst 4, 1) := by decide +kernel
theorem dX3_toldOf_9 : decode cX3_toldOf 9 = .ok (.if_icmp .ge 20, 3) := by decide +kernel
theorem dX3_toldOf_12 : decode cX3_toldOf 12 = .ok (.aload_n 0, 1) := by decide +kernel
theorem dX3_toldOf_13 : decode cX3_toldOf 13 = .ok (.getfield 24, 3) := by decide +kernel
theorem dX3_toldOf_16 : decode cX3_toldOf 16 = .ok (.iload_n 2, 1) := by decide +kernel
theorem dX3_toldOf_17 : decode cX3_toldOf 17 = .ok (.aload_n 0, 1) := by decide +kernel
theorem dX3_toldOf_18 : decode cX3_toldOf 18 = .ok (.iload_n 2, 1) := by decide +kernel
theorem dX3_toldOf_19 : decode cX3_toldOf 19 = .ok (.invokevirtual 73, 3) := by decide +kernel
theorem dX3_toldOf_22 : decode cX3_toldOf 22 = .ok (.iastore, 1) := by decide +kernel
theorem dX3_toldOf_23 : decode cX3_toldOf 23 = .ok (.iinc 2 1, 3) := by decide +kernel
theorem dX3_toldOf_26 : decode cX3_toldOf 26 = .ok (.goto (-19), 3) := by decide +kernel
theorem dX3_toldOf_29 : decode cX3_toldOf 29 = .ok (.iconst 0, 1) := by decide +kernel
theorem dX3_toldOf_30 : decode cX3_toldOf 30 = .ok (.istore_n 2, 1) := by decide +kernel
theorem dX3_toldOf_31 : decode cX3_toldOf 31 = .ok (.iconst 0, 1) := by decide +kernel
theorem dX3_toldOf_32 : decode cX3_toldOf 32 = .ok (.istore_n 3, 1) := by decide +kernel
theorem dX3_toldOf_33 : decode cX3_toldOf 33 = .ok (.iload_n 3, 1) := by decide +kernel
theorem dX3_toldOf_34 : decode cX3_toldOf 34 = .ok (.aload_n 0, 1) := by decide +kernel
theorem dX3_toldOf_35 : decode cX3_toldOf 35 = .ok (.getfield 27, 3) := by decide +kernel
theorem dX3_toldOf_38 : decode cX3_toldOf 38 = .ok (.if_icmp .ge 57, 3) := by decide +kernel
theorem dX3_toldOf_41 : decode cX3_toldOf 41 = .ok (.iload_n 3, 1) := by decide +kernel
theorem dX3_toldOf_42 : decode cX3_toldOf 42 = .ok (.bipush 7, 2) := by decide +kernel
theorem dX3_toldOf_44 : decode cX3_toldOf 44 = .ok (.if_icmp .ge 51, 3) := by decide +kernel
theorem dX3_toldOf_47 : decode cX3_toldOf 47 = .ok (.aload_n 0, 1) := by decide +kernel
theorem dX3_toldOf_48 : decode cX3_toldOf 48 = .ok (.getfield 9, 3) := by decide +kernel
theorem dX3_toldOf_51 : decode cX3_toldOf 51 = .ok (.iload_n 3, 1) := by decide +kernel
theorem dX3_toldOf_52 : decode cX3_toldOf 52 = .ok (.iaload, 1) := by decide +kernel
theorem dX3_toldOf_53 : decode cX3_toldOf 53 = .ok (.istore 4, 2) := by decide +kernel
theorem dX3_toldOf_55 : decode cX3_toldOf 55 = .ok (.iload 4, 2) := by decide +kernel
theorem dX3_toldOf_57 : decode cX3_toldOf 57 = .ok (.ifCond .lt 32, 3) := by decide +kernel
theorem dX3_toldOf_60 : decode cX3_toldOf 60 = .ok (.iload 4, 2) := by decide +kernel
theorem dX3_toldOf_62 : decode cX3_toldOf 62 = .ok (.iconst 4, 1) := by decide +kernel
theorem dX3_toldOf_63 : decode cX3_toldOf 63 = .ok (.if_icmp .ge 26, 3) := by decide +kernel
theorem dX3_toldOf_66 : decode cX3_toldOf 66 = .ok (.aload_n 0, 1) := by decide +kernel
theorem dX3_toldOf_67 : decode cX3_toldOf 67 = .ok (.getfield 24, 3) := by decide +kernel
theorem dX3_toldOf_70 : decode cX3_toldOf 70 = .ok (.iload 4, 2) := by decide +kernel
theorem dX3_toldOf_72 : decode cX3_toldOf 72 = .ok (.iaload, 1) := by decide +kernel
theorem dX3_toldOf_73 : decode cX3_toldOf 73 = .ok (.aload_n 0, 1) := by decide +kernel
theorem dX3_toldOf_74 : decode cX3_toldOf 74 = .ok (.getfield 15, 3) := by decide +kernel
theorem dX3_toldOf_77 : decode cX3_toldOf 77 = .ok (.iload_n 3, 1) := by decide +kernel
theorem dX3_toldOf_78 : decode cX3_toldOf 78 = .ok (.iaload, 1) := by decide +kernel
theorem dX3_toldOf_79 : decode cX3_toldOf 79 = .ok (.iand, 1) := by decide +kernel
theorem dX3_toldOf_80 : decode cX3_toldOf 80 = .ok (.ifCond .eq 9, 3) := by decide +kernel
theorem dX3_toldOf_83 : decode cX3_toldOf 83 = .ok (.iload_n 2, 1) := by decide +kernel
theorem dX3_toldOf_84 : decode cX3_toldOf 84 = .ok (.iconst 1, 1) := by decide +kernel
theorem dX3_toldOf_85 : decode cX3_toldOf 85 = .ok (.iload_n 3, 1) := by decide +kernel
theorem dX3_toldOf_86 : decode cX3_toldOf 86 = .ok (.ishl, 1) := by decide +kernel
theorem dX3_toldOf_87 : decode cX3_toldOf 87 = .ok (.ior, 1) := by decide +kernel
theorem dX3_toldOf_88 : decode cX3_toldOf 88 = .ok (.istore_n 2, 1) := by decide +kernel
theorem dX3_toldOf_89 : decode cX3_toldOf 89 = .ok (.iinc 3 1, 3) := by decide +kernel
theorem dX3_toldOf_92 : decode cX3_toldOf 92 = .ok (.goto (-59), 3) := by decide +kernel
theorem dX3_toldOf_95 : decode cX3_toldOf 95 = .ok (.iload_n 2, 1) := by decide +kernel
theorem dX3_toldOf_96 : decode cX3_toldOf 96 = .ok (.ireturn, 1) := by decide +kernel
theorem dX4_init_0 : decode cX4_init 0 = .ok (.aload_n 0, 1) := by decide +kernel
theorem dX4_init_1 : decode cX4_init 1 = .ok (.invokespecial 1, 3) := by decide +kernel
theorem dX4_init_4 : decode cX4_init 4 = .ok (.aload_n 0, 1) := by decide +kernel
theorem dX4_init_5 : decode cX4_init 5 = .ok (.new 7, 3) := by decide +kernel
theorem dX4_init_8 : decode cX4_init 8 = .ok (.dup, 1) := by decide +kernel
theorem dX4_init_9 : decode cX4_init 9 = .ok (.bipush 6, 2) := by decide +kernel
theorem dX4_init_11 : decode cX4_init 11 = .ok (.bipush 40, 2) := by decide +kernel
theorem dX4_init_13 : decode cX4_init 13 = .ok (.invokespecial 11, 3) := by decide +kernel
theorem dX4_init_16 : decode cX4_init 16 = .ok (.putfield 14, 3) := by decide +kernel
theorem dX4_init_19 : decode cX4_init 19 = .ok (.aload_n 0, 1) := by decide +kernel
theorem dX4_init_20 : decode cX4_init 20 = .ok (.new 7, 3) := by decide +kernel
theorem dX4_init_23 : decode cX4_init 23 = .ok (.dup, 1) := by decide +kernel
theorem dX4_init_24 : decode cX4_init 24 = .ok (.iconst 4, 1) := by decide +kernel
theorem dX4_init_25 : decode cX4_init 25 = .ok (.bipush 60, 2) := by decide +kernel
theorem dX4_init_27 : decode cX4_init 27 = .ok (.invokespecial 11, 3) := by decide +kernel
theorem dX4_init_30 : decode cX4_init 30 = .ok (.putfield 18, 3) := by decide +kernel
theorem dX4_init_33 : decode cX4_init 33 = .ok (.aload_n 0, 1) := by decide +kernel
theorem dX4_init_34 : decode cX4_init 34 = .ok (.new 7, 3) := by decide +kernel
theorem dX4_init_37 : decode cX4_init 37 = .ok (.dup, 1) := by decide +kernel
theorem dX4_init_38 : decode cX4_init 38 = .ok (.iconst 4, 1) := by decide +kernel
theorem dX4_init_39 : decode cX4_init 39 = .ok (.bipush 40, 2) := by decide +kernel
theorem dX4_init_41 : decode cX4_init 41 = .ok (.invokespecial 11, 3) := by decide +kernel
theorem dX4_init_44 : decode cX4_init 44 = .ok (.putfield 21, 3) := by decide +kernel
theorem dX4_init_47 : decode cX4_init 47 = .ok (.aload_n 0, 1) := by decide +kernel
theorem dX4_init_48 : decode cX4_init 48 = .ok (.new 24, 3) := by decide +kernel
theorem dX4_init_51 : decode cX4_init 51 = .ok (.dup, 1) := by decide +kernel
theorem dX4_init_52 : decode cX4_init 52 = .ok (.invokespecial 26, 3) := by decide +kernel
theorem dX4_init_55 : decode cX4_init 55 = .ok (.putfield 27, 3) := by decide +kernel
theorem dX4_init_58 : decode cX4_init 58 = .ok (.aload_n 0, 1) := by decide +kernel
theorem dX4_init_59 : decode cX4_init 59 = .ok (.new 24, 3) := by decide +kernel
theorem dX4_init_62 : decode cX4_init 62 = .ok (.dup, 1) := by decide +kernel
theorem dX4_init_63 : decode cX4_init 63 = .ok (.invokespecial 26, 3) := by decide +kernel
theorem dX4_init_66 : decode cX4_init 66 = .ok (.putfield 31, 3) := by decide +kernel
theorem dX4_init_69 : decode cX4_init 69 = .ok (.aload_n 0, 1) := by decide +kernel
theorem dX4_init_70 : decode cX4_init 70 = .ok (.new 34, 3) := by decide +kernel
theorem dX4_init_73 : decode cX4_init 73 = .ok (.dup, 1) := by decide +kernel
theorem dX4_init_74 : decode cX4_init 74 = .ok (.invokespecial 36, 3) := by decide +kernel
theorem dX4_init_77 : decode cX4_init 77 = .ok (.putfield 37, 3) := by decide +kernel
theorem dX4_init_80 : decode cX4_init 80 = .ok (.aload_n 0, 1) := by decide +kernel
theorem dX4_init_81 : decode cX4_init 81 = .ok (.new 34, 3) := by decide +kernel
theorem dX4_init_84 : decode cX4_init 84 = .ok (.dup, 1) := by decide +kernel
theorem dX4_init_85 : decode cX4_init 85 = .ok (.invokespecial 36, 3) := by decide +kernel
theorem dX4_init_88 : decode cX4_init 88 = .ok (.putfield 41, 3) := by decide +kernel
theorem dX4_init_91 : decode cX4_init 91 = .ok (.aload_n 0, 1) := by decide +kernel
theorem dX4_init_92 : decode cX4_init 92 = .ok (.new 44, 3) := by decide +kernel
theorem dX4_init_95 : decode cX4_init 95 = .ok (.dup, 1) := by decide +kernel
theorem dX4_init_96 : decode cX4_init 96 = .ok (.invokespecial 46, 3) := by decide +kernel
theorem dX4_init_99 : decode cX4_init 99 = .ok (.putfield 47, 3) := by decide +kernel
theorem dX4_init_102 : decode cX4_init 102 = .ok (.aload_n 0, 1) := by decide +kernel
theorem dX4_init_103 : decode cX4_init 103 = .ok (.sipush 128, 3) := by decide +kernel
theorem dX4_init_106 : decode cX4_init 106 = .ok (.newarray .int, 2) := by decide +kernel
theorem dX4_init_108 : decode cX4_init 108 = .ok (.putfield 51, 3) := by decide +kernel
theorem dX4_init_111 : decode cX4_init 111 = .ok (.aload_n 0, 1) := by decide +kernel
theorem dX4_init_112 : decode cX4_init 112 = .ok (.bipush 6, 2) := by decide +kernel
theorem dX4_init_114 : decode cX4_init 114 = .ok (.sipush 128, 3) := by decide +kernel
theorem dX4_init_117 : decode cX4_init 117 = .ok (.multianewarray 55 2, 4) := by decide +kernel
theorem dX4_init_121 : decode cX4_init 121 = .ok (.putfield 57, 3) := by decide +kernel
theorem dX4_init_124 : decode cX4_init 124 = .ok (.aload_n 0, 1) := by decide +kernel
theorem dX4_init_125 : decode cX4_init 125 = .ok (.bipush 6, 2) := by decide +kernel
theorem dX4_init_127 : decode cX4_init 127 = .ok (.newarray .int, 2) := by decide +kernel
theorem dX4_init_129 : decode cX4_init 129 = .ok (.putfield 60, 3) := by decide +kernel
theorem dX4_init_132 : decode cX4_init 132 = .ok (.aload_n 0, 1) := by decide +kernel
theorem dX4_init_133 : decode cX4_init 133 = .ok (.iconst 0, 1) := by decide +kernel
theorem dX4_init_134 : decode cX4_init 134 = .ok (.putfield 63, 3) := by decide +kernel
theorem dX4_init_137 : decode cX4_init 137 = .ok (.aload_n 0, 1) := by decide +kernel
theorem dX4_init_138 : decode cX4_init 138 = .ok (.iconst 0, 1) := by decide +kernel
theorem dX4_init_139 : decode cX4_init 139 = .ok (.putfield 67, 3) := by decide +kernel
theorem dX4_init_142 : decode cX4_init 142 = .ok (.aload_n 0, 1) := by decide +kernel
theorem dX4_init_143 : decode cX4_init 143 = .ok (.lconst 0, 1) := by decide +kernel
theorem dX4_init_144 : decode cX4_init 144 = .ok (.putfield 70, 3) := by decide +kernel
theorem dX4_init_147 : decode cX4_init 147 = .ok (.aload_n 0, 1) := by decide +kernel
theorem dX4_init_148 : decode cX4_init 148 = .ok (.lconst 1, 1) := by decide +kernel
theorem dX4_init_149 : decode cX4_init 149 = .ok (.putfield 74, 3) := by decide +kernel
theorem dX4_init_152 : decode cX4_init 152 = .ok (.aload_n 0, 1) := by decide +kernel
theorem dX4_init_153 : decode cX4_init 153 = .ok (.getfield 21, 3) := by decide +kernel
theorem dX4_init_156 : decode cX4_init 156 = .ok (.iconst 3, 1) := by decide +kernel
theorem dX4_init_157 : decode cX4_init 157 = .ok (.iconst 0, 1) := by decide +kernel
theorem dX4_init_158 : decode cX4_init 158 = .ok (.iconst 0, 1) := by decide +kernel
theorem dX4_init_159 : decode cX4_init 159 = .ok (.invokevirtual 77, 3) := by decide +kernel
theorem dX4_init_162 : decode cX4_init 162 = .ok (.return_, 1) := by decide +kernel
theorem dX4_row_0 : decode cX4_row 0 = .ok (.iload_n 1, 1) := by decide +kernel
theorem dX4_row_1 : decode cX4_row 1 = .ok (.bipush 6, 2) := by decide +kernel
theorem dX4_row_3 : decode cX4_row 3 = .ok (.invokestatic 81, 3) := by decide +kernel
theorem dX4_row_6 : decode cX4_row 6 = .ok (.ifCond .eq 9, 3) := by decide +kernel
theorem dX4_row_9 : decode cX4_row 9 = .ok (.iload_n 2, 1) := by decide +kernel
theorem dX4_row_10 : decode cX4_row 10 = .ok (.bipush 40, 2) := by decide +kernel
theorem dX4_row_12 : decode cX4_row 12 = .ok (.if_icmp .le 5, 3) := by decide +kernel
theorem dX4_row_15 : decode cX4_row 15 = .ok (.iconst (-1), 1) := by decide +kernel
theorem dX4_row_16 : decode cX4_row 16 = .ok (.ireturn, 1) := by decide +kernel
theorem dX4_row_17 : decode cX4_row 17 = .ok (.iload_n 2, 1) := by decide +kernel
theorem dX4_row_18 : decode cX4_row 18 = .ok (.ifCond .ge 9, 3) := by decide +kernel
theorem dX4_row_21 : decode cX4_row 21 = .ok (.aload_n 0, 1) := by decide +kernel
theorem dX4_row_22 : decode cX4_row 22 = .ok (.iconst 5, 1) := by decide +kernel
theorem dX4_row_23 : decode cX4_row 23 = .ok (.invokevirtual 85, 3) := by decide +kernel
theorem dX4_row_26 : decode cX4_row 26 = .ok (.ireturn, 1) := by decide +kernel
theorem dX4_row_27 : decode cX4_row 27 = .ok (.aload_n 0, 1) := by decide +kernel
theorem dX4_row_28 : decode cX4_row 28 = .ok (.getfield 14, 3) := by decide +kernel
theorem dX4_row_31 : decode cX4_row 31 = .ok (.iload_n 1, 1) := by decide +kernel
theorem dX4_row_32 : decode cX4_row 32 = .ok (.iload_n 2, 1) := by decide +kernel
theorem dX4_row_33 : decode cX4_row 33 = .ok (.iconst 0, 1) := by decide +kernel
theorem dX4_row_34 : decode cX4_row 34 = .ok (.invokevirtual 77, 3) := by decide +kernel
theorem dX4_row_37 : decode cX4_row 37 = .ok (.iload_n 2, 1) := by decide +kernel
theorem dX4_row_38 : decode cX4_row 38 = .ok (.ireturn, 1) := by decide +kernel
theorem dX4_lay_0 : decode cX4_lay 0 = .ok (.aload_n 0, 1) := by decide +kernel
theorem dX4_lay_1 : decode cX4_lay 1 = .ok (.aload_n 0, 1) := by decide +kernel
theorem dX4_lay_2 : decode cX4_lay 2 = .ok (.getfield 14, 3) := by decide +kernel
theorem dX4_lay_5 : decode cX4_lay 5 = .ok (.iload_n 1, 1) := by decide +kernel
theorem dX4_lay_6 : decode cX4_lay 6 = .ok (.iload_n 2, 1) := by decide +kernel
theorem dX4_lay_7 : decode cX4_lay 7 = .ok (.invokevirtual 89, 3) := by decide +kernel
theorem dX4_lay_10 : decode cX4_lay 10 = .ok (.istore 4, 2) := by decide +kernel
theorem dX4_lay_12 : decode cX4_lay 12 = .ok (.iload 4, 2) := by decide +kernel
theorem dX4_lay_14 : decode cX4_lay 14 = .ok (.ifCond .eq 6, 3) := by decide +kernel
theorem dX4_lay_17 : decode cX4_lay 17 = .ok (.iload 4, 2) := by decide +kernel
theorem dX4_lay_19 : decode cX4_lay 19 = .ok (.ireturn, 1) := by decide +kernel
theorem dX4_lay_20 : decode cX4_lay 20 = .ok (.aload_n 0, 1) := by decide +kernel
theorem dX4_lay_21 : decode cX4_lay 21 = .ok (.aload_n 0, 1) := by decide +kernel
theorem dX4_lay_22 : decode cX4_lay 22 = .ok (.getfield 14, 3) := by decide +kernel
theorem dX4_lay_25 : decode cX4_lay 25 = .ok (.iload_n 1, 1) := by decide +kernel
theorem dX4_lay_26 : decode cX4_lay 26 = .ok (.iload_n 2, 1) := by decide +kernel
theorem dX4_lay_27 : decode cX4_lay 27 = .ok (.invokevirtual 93, 3) := by decide +kernel
theorem dX4_lay_30 : decode cX4_lay 30 = .ok (.putfield 67, 3) := by decide +kernel
theorem dX4_lay_33 : decode cX4_lay 33 = .ok (.aload_n 0, 1) := by decide +kernel
theorem dX4_lay_34 : decode cX4_lay 34 = .ok (.getfield 14, 3) := by decide +kernel
theorem dX4_lay_37 : decode cX4_lay 37 = .ok (.iload_n 1, 1) := by decide +kernel
theorem dX4_lay_38 : decode cX4_lay 38 = .ok (.iload_n 2, 1) := by decide +kernel
theorem dX4_lay_39 : decode cX4_lay 39 = .ok (.iload_n 3, 1) := by decide +kernel
theorem dX4_lay_40 : decode cX4_lay 40 = .ok (.invokevirtual 97, 3) := by decide +kernel
theorem dX4_lay_43 : decode cX4_lay 43 = .ok (.iconst 1, 1) := by decide +kernel
theorem dX4_lay_44 : decode cX4_lay 44 = .ok (.ireturn, 1) := by decide +kernel
theorem dX4_at_0 : decode cX4_at 0 = .ok (.aload_n 0, 1) := by decide +kernel
theorem dX4_at_1 : decode cX4_at 1 = .ok (.aload_n 0, 1) := by decide +kernel
theorem dX4_at_2 : decode cX4_at 2 = .ok (.getfield 14, 3) := by decide +kernel
theorem dX4_at_5 : decode cX4_at 5 = .ok (.iload_n 1, 1) := by decide +kernel
theorem dX4_at_6 : decode cX4_at 6 = .ok (.iload_n 2, 1) := by decide +kernel
theorem dX4_at_7 : decode cX4_at 7 = .ok (.invokevirtual 89, 3) := by decide +kernel
theorem dX4_at_10 : decode cX4_at 10 = .ok (.istore_n 3, 1) := by decide +kernel
theorem dX4_at_11 : decode cX4_at 11 = .ok (.iload_n 3, 1) := by decide +kernel
theorem dX4_at_12 : decode cX4_at 12 = .ok (.ifCond .eq 5, 3) := by decide +kernel
theorem dX4_at_15 : decode cX4_at 15 = .ok (.iload_n 3, 1) := by decide +kernel
theorem dX4_at_16 : decode cX4_at 16 = .ok (.ireturn, 1) := by decide +kernel
theorem dX4_at_17 : decode cX4_at 17 = .ok (.aload_n 0, 1) := by decide +kernel
theorem dX4_at_18 : decode cX4_at 18 = .ok (.aload_n 0, 1) := by decide +kernel
theorem dX4_at_19 : decode cX4_at 19 = .ok (.getfield 14, 3) := by decide +kernel
theorem dX4_at_22 : decode cX4_at 22 = .ok (.iload_n 1, 1) := by decide +kernel
theorem dX4_at_23 : decode cX4_at 23 = .ok (.iload_n 2, 1) := by decide +kernel
theorem dX4_at_24 : decode cX4_at 24 = .ok (.invokevirtual 93, 3) := by decide +kernel
theorem dX4_at_27 : decode cX4_at 27 = .ok (.putfield 67, 3) := by decide +kernel
theorem dX4_at_30 : decode cX4_at 30 = .ok (.iconst 1, 1) := by decide +kernel
theorem dX4_at_31 : decode cX4_at 31 = .ok (.ireturn, 1) := by decide +kernel
theorem dX4_tear_0 : decode cX4_tear 0 = .ok (.aload_n 0, 1) := by decide +kernel
theorem dX4_tear_1 : decode cX4_tear 1 = .ok (.aload_n 0, 1) := by decide +kernel
theorem dX4_tear_2 : decode cX4_tear 2 = .ok (.getfield 14, 3) := by decide +kernel
theorem dX4_tear_5 : decode cX4_tear 5 = .ok (.iload_n 1, 1) := by decide +kernel
theorem dX4_tear_6 : decode cX4_tear 6 = .ok (.invokevirtual 100, 3) := by decide +kernel
theorem dX4_tear_9 : decode cX4_tear 9 = .ok (.istore_n 2, 1) := by decide +kernel
theorem dX4_tear_10 : decode cX4_tear 10 = .ok (.iload_n 2, 1) := by decide +kernel
theorem dX4_tear_11 : decode cX4_tear 11 = .ok (.ifCond .eq 5, 3) := by decide +kernel
theorem dX4_tear_14 : decode cX4_tear 14 = .ok (.iload_n 2, 1) := by decide +kernel
theorem dX4_tear_15 : decode cX4_tear 15 = .ok (.ireturn, 1) := by decide +kernel
theorem dX4_tear_16 : decode cX4_tear 16 = .ok (.aload_n 0, 1) := by decide +kernel
theorem dX4_tear_17 : decode cX4_tear 17 = .ok (.getfield 14, 3) := by decide +kernel
theorem dX4_tear_20 : decode cX4_tear 20 = .ok (.iload_n 1, 1) := by decide +kernel
theorem dX4_tear_21 : decode cX4_tear 21 = .ok (.invokevirtual 104, 3) := by decide +kernel
theorem dX4_tear_24 : decode cX4_tear 24 = .ok (.iconst 1, 1) := by decide +kernel
theorem dX4_tear_25 : decode cX4_tear 25 = .ok (.ireturn, 1) := by decide +kernel
theorem dX4_copy_0 : decode cX4_copy 0 = .ok (.iload_n 1, 1) := by decide +kernel
theorem dX4_copy_1 : decode cX4_copy 1 = .ok (.bipush 6, 2) := by decide +kernel
theorem dX4_copy_3 : decode cX4_copy 3 = .ok (.invokestatic 81, 3) := by decide +kernel
theorem dX4_copy_6 : decode cX4_copy 6 = .ok (.ifCond .eq 12, 3) := by decide +kernel
theorem dX4_copy_9 : decode cX4_copy 9 = .ok (.iload_n 3, 1) := by decide +kernel
theorem dX4_copy_10 : decode cX4_copy 10 = .ok (.bipush 6, 2) := by decide +kernel
theorem dX4_copy_12 : decode cX4_copy 12 = .ok (.invokestatic 81, 3) := by decide +kernel
theorem dX4_copy_15 : decode cX4_copy 15 = .ok (.ifCond .ne 5, 3) := by decide +kernel
theorem dX4_copy_18 : decode cX4_copy 18 = .ok (.iconst (-1), 1) := by decide +kernel
theorem dX4_copy_19 : decode cX4_copy 19 = .ok (.ireturn, 1) := by decide +kernel
theorem dX4_copy_20 : decode cX4_copy 20 = .ok (.iload 5, 2) := by decide +kernel
theorem dX4_copy_22 : decode cX4_copy 22 = .ok (.ifCond .ge 9, 3) := by decide +kernel
theorem dX4_copy_25 : decode cX4_copy 25 = .ok (.aload_n 0, 1) := by decide +kernel
theorem dX4_copy_26 : decode cX4_copy 26 = .ok (.iconst 5, 1) := by decide +kernel
theorem dX4_copy_27 : decode cX4_copy 27 = .ok (.invokevirtual 85, 3) := by decide +kernel
theorem dX4_copy_30 : decode cX4_copy 30 = .ok (.ireturn, 1) := by decide +kernel
theorem dX4_copy_31 : decode cX4_copy 31 = .ok (.aload_n 0, 1) := by decide +kernel
theorem dX4_copy_32 : decode cX4_copy 32 = .ok (.getfield 14, 3) := by decide +kernel
theorem dX4_copy_35 : decode cX4_copy 35 = .ok (.iload_n 1, 1) := by decide +kernel
theorem dX4_copy_36 : decode cX4_copy 36 = .ok (.invokevirtual 108, 3) := by decide +kernel
theorem dX4_copy_39 : decode cX4_copy 39 = .ok (.ifCond .eq 14, 3) := by decide +kernel
theorem dX4_copy_42 : decode cX4_copy 42 = .ok (.aload_n 0, 1) := by decide +kernel
theorem dX4_copy_43 : decode cX4_copy 43 = .ok (.getfield 14, 3) := by decide +kernel
theorem dX4_copy_46 : decode cX4_copy 46 = .ok (.iload_n 3, 1) := by decide +kernel
theorem dX4_copy_47 : decode cX4_copy 47 = .ok (.invokevirtual 108, 3) := by decide +kernel
theorem dX4_copy_50 : decode cX4_copy 50 = .ok (.ifCond .ne 9, 3) := by decide +kernel
theorem dX4_copy_53 : decode cX4_copy 53 = .ok (.aload_n 0, 1) := by decide +kernel
theorem dX4_copy_54 : decode cX4_copy 54 = .ok (.iconst 1, 1) := by decide +kernel
theorem dX4_copy_55 : decode cX4_copy 55 = .ok (.invokevirtual 85, 3) := by decide +kernel
theorem dX4_copy_58 : decode cX4_copy 58 = .ok (.ireturn, 1) := by decide +kernel
theorem dX4_copy_59 : decode cX4_copy 59 = .ok (.aload_n 0, 1) := by decide +kernel
theorem dX4_copy_60 : decode cX4_copy 60 = .ok (.getfield 14, 3) := by decide +kernel
theorem dX4_copy_63 : decode cX4_copy 63 = .ok (.iload_n 1, 1) := by decide +kernel
theorem dX4_copy_64 : decode cX4_copy 64 = .ok (.iload_n 2, 1) := by decide +kernel
theorem dX4_copy_65 : decode cX4_copy 65 = .ok (.iload 5, 2) := by decide +kernel
theorem dX4_copy_67 : decode cX4_copy 67 = .ok (.invokevirtual 112, 3) := by decide +kernel
theorem dX4_copy_70 : decode cX4_copy 70 = .ok (.ifCond .eq 18, 3) := by decide +kernel
theorem dX4_copy_73 : decode cX4_copy 73 = .ok (.aload_n 0, 1) := by decide +kernel
theorem dX4_copy_74 : decode cX4_copy 74 = .ok (.getfield 14, 3) := by decide +kernel
theorem dX4_copy_77 : decode cX4_copy 77 = .ok (.iload_n 3, 1) := by decide +kernel
theorem dX4_copy_78 : decode cX4_copy 78 = .ok (.iload 4, 2) := by decide +kernel
theorem dX4_copy_80 : decode cX4_copy 80 = .ok (.iload 5, 2) := by decide +kernel
theorem dX4_copy_82 : decode cX4_copy 82 = .ok (.invokevirtual 112, 3) := by decide +kernel
theorem dX4_copy_85 : decode cX4_copy 85 = .ok (.ifCond .ne 9, 3) := by decide +kernel
theorem dX4_copy_88 : decode cX4_copy 88 = .ok (.aload_n 0, 1) := by decide +kernel
theorem dX4_copy_89 : decode cX4_copy 89 = .ok (.iconst 2, 1) := by decide +kernel
theorem dX4_copy_90 : decode cX4_copy 90 = .ok (.invokevirtual 85, 3) := by decide +kernel
theorem dX4_copy_93 : decode cX4_copy 93 = .ok (.ireturn, 1) := by decide +kernel
theorem dX4_copy_94 : decode cX4_copy 94 = .ok (.aload_n 0, 1) := by decide +kernel
theorem dX4_copy_95 : decode cX4_copy 95 = .ok (.getfield 14, 3) := by decide +kernel
theorem dX4_copy_98 : decode cX4_copy 98 = .ok (.iload_n 1, 1) := by decide +kernel
theorem dX4_copy_99 : decode cX4_copy 99 = .ok (.iload_n 2, 1) := by decide +kernel
theorem dX4_copy_100 : decode cX4_copy 100 = .ok (.iload_n 3, 1) := by decide +kernel
theorem dX4_copy_101 : decode cX4_copy 101 = .ok (.iload 4, 2) := by decide +kernel
theorem dX4_copy_103 : decode cX4_copy 103 = .ok (.iload 5, 2) := by decide +kernel
theorem dX4_copy_105 : decode cX4_copy 105 = .ok (.invokevirtual 116, 3) := by decide +kernel
theorem dX4_copy_108 : decode cX4_copy 108 = .ok (.iconst 1, 1) := by decide +kernel
theorem dX4_copy_109 : decode cX4_copy 109 = .ok (.ireturn, 1) := by decide +kernel
theorem dX4_mean_0 : decode cX4_mean 0 = .ok (.aload_n 0, 1) := by decide +kernel
theorem dX4_mean_1 : decode cX4_mean 1 = .ok (.aload_n 0, 1) := by decide +kernel
theorem dX4_mean_2 : decode cX4_mean 2 = .ok (.getfield 14, 3) := by decide +kernel
theorem dX4_mean_5 : decode cX4_mean 5 = .ok (.iload_n 1, 1) := by decide +kernel
theorem dX4_mean_6 : decode cX4_mean 6 = .ok (.invokevirtual 100, 3) := by decide +kernel
theorem dX4_mean_9 : decode cX4_mean 9 = .ok (.istore_n 2, 1) := by decide +kernel
theorem dX4_mean_10 : decode cX4_mean 10 = .ok (.iload_n 2, 1) := by decide +kernel
theorem dX4_mean_11 : decode cX4_mean 11 = .ok (.ifCond .eq 5, 3) := by decide +kernel
theorem dX4_mean_14 : decode cX4_mean 14 = .ok (.iload_n 2, 1) := by decide +kernel
theorem dX4_mean_15 : decode cX4_mean 15 = .ok (.ireturn, 1) := by decide +kernel
theorem dX4_mean_16 : decode cX4_mean 16 = .ok (.aload_n 0, 1) := by decide +kernel
theorem dX4_mean_17 : decode cX4_mean 17 = .ok (.getfield 14, 3) := by decide +kernel
theorem dX4_mean_20 : decode cX4_mean 20 = .ok (.iload_n 1, 1) := by decide +kernel
theorem dX4_mean_21 : decode cX4_mean 21 = .ok (.invokevirtual 120, 3) := by decide +kernel
theorem dX4_mean_24 : decode cX4_mean 24 = .ok (.istore_n 3, 1) := by decide +kernel
theorem dX4_mean_25 : decode cX4_mean 25 = .ok (.iload_n 3, 1) := by decide +kernel
theorem dX4_mean_26 : decode cX4_mean 26 = .ok (.ifCond .gt 9, 3) := by decide +kernel
theorem dX4_mean_29 : decode cX4_mean 29 = .ok (.aload_n 0, 1) := by decide +kernel
theorem dX4_mean_30 : decode cX4_mean 30 = .ok (.iconst 4, 1) := by decide +kernel
theorem dX4_mean_31 : decode cX4_mean 31 = .ok (.invokevirtual 85, 3) := by decide +kernel
theorem dX4_mean_34 : decode cX4_mean 34 = .ok (.ireturn, 1) := by decide +kernel
theorem dX4_mean_35 : decode cX4_mean 35 = .ok (.aload_n 0, 1) := by decide +kernel
theorem dX4_mean_36 : decode cX4_mean 36 = .ok (.aload_n 0, 1) := by decide +kernel
theorem dX4_mean_37 : decode cX4_mean 37 = .ok (.getfield 14, 3) := by decide +kernel
theorem dX4_mean_40 : decode cX4_mean 40 = .ok (.iload_n 1, 1) := by decide +kernel
theorem dX4_mean_41 : decode cX4_mean 41 = .ok (.invokevirtual 123, 3) := by decide +kernel
theorem dX4_mean_44 : decode cX4_mean 44 = .ok (.iload_n 3, 1) := by decide +kernel
theorem dX4_mean_45 : decode cX4_mean 45 = .ok (.i2l, 1) := by decide +kernel
theorem dX4_mean_46 : decode cX4_mean 46 = .ok (.ldiv, 1) := by decide +kernel
theorem dX4_mean_47 : decode cX4_mean 47 = .ok (.l2i, 1) := by decide +kernel
theorem dX4_mean_48 : decode cX4_mean 48 = .ok (.putfield 67, 3) := by decide +kernel
theorem dX4_mean_51 : decode cX4_mean 51 = .ok (.iconst 1, 1) := by decide +kernel
theorem dX4_mean_52 : decode cX4_mean 52 = .ok (.ireturn, 1) := by decide +kernel
theorem dX4_text_0 : decode cX4_text 0 = .ok (.iload_n 1, 1) := by decide +kernel
theorem dX4_text_1 : decode cX4_text 1 = .ok (.iconst 4, 1) := by decide +kernel
theorem dX4_text_2 : decode cX4_text 2 = .ok (.invokestatic 81, 3) := by decide +kernel
theorem dX4_text_5 : decode cX4_text 5 = .ok (.ifCond .eq 9, 3) := by decide +kernel
theorem dX4_text_8 : decode cX4_text 8 = .ok (.iload_n 2, 1) := by decide +kernel
theorem dX4_text_9 : decode cX4_text 9 = .ok (.bipush 60, 2) := by decide +kernel
theorem dX4_text_11 : decode cX4_text 11 = .ok (.if_icmp .le 5, 3) := by decide +kernel
theorem dX4_text_14 : decode cX4_text 14 = .ok (.iconst (-1), 1) := by decide +kernel
theorem dX4_text_15 : decode cX4_text 15 = .ok (.ireturn, 1) := by decide +kernel
theorem dX4_text_16 : decode cX4_text 16 = .ok (.iload_n 2, 1) := by decide +kernel
theorem dX4_text_17 : decode cX4_text 17 = .ok (.ifCond .ge 9, 3) := by decide +kernel
theorem dX4_text_20 : decode cX4_text 20 = .ok (.aload_n 0, 1) := by decide +kernel
theorem dX4_text_21 : decode cX4_text 21 = .ok (.iconst 5, 1) := by decide +kernel
theorem dX4_text_22 : decode cX4_text 22 = .ok (.invokevirtual 85, 3) := by decide +kernel
theorem dX4_text_25 : decode cX4_text 25 = .ok (.ireturn, 1) := by decide +kernel
theorem dX4_text_26 : decode cX4_text 26 = .ok (.aload_n 0, 1) := by decide +kernel
theorem dX4_text_27 : decode cX4_text 27 = .ok (.getfield 18, 3) := by decide +kernel
theorem dX4_text_30 : decode cX4_text 30 = .ok (.iload_n 1, 1) := by decide +kernel
theorem dX4_text_31 : decode cX4_text 31 = .ok (.iload_n 2, 1) := by decide +kernel
theorem dX4_text_32 : decode cX4_text 32 = .ok (.bipush 32, 2) := by decide +kernel
theorem dX4_text_34 : decode cX4_text 34 = .ok (.invokevirtual 77, 3) := by decide +kernel
theorem dX4_text_37 : decode cX4_text 37 = .ok (.iload_n 2, 1) := by decide +kernel
theorem dX4_text_38 : decode cX4_text 38 = .ok (.ireturn, 1) := by decide +kernel
theorem dX4_put_0 : decode cX4_put 0 = .ok (.aload_n 0, 1) := by decide +kernel
theorem dX4_put_1 : decode cX4_put 1 = .ok (.aload_n 0, 1) := by decide +kernel
theorem dX4_put_2 : decode cX4_put 2 = .ok (.getfield 18, 3) := by decide +kernel
theorem dX4_put_5 : decode cX4_put 5 = .ok (.iload_n 1, 1) := by decide +kernel
theorem dX4_put_6 : decode cX4_put 6 = .ok (.iload_n 2, 1) := by decide +kernel
theorem dX4_put_7 : decode cX4_put 7 = .ok (.invokevirtual 89, 3) := by decide +kernel
theorem dX4_put_10 : decode cX4_put 10 = .ok (.istore 4, 2) := by decide +kernel
theorem dX4_put_12 : decode cX4_put 12 = .ok (.iload 4, 2) := by decide +kernel
theorem dX4_put_14 : decode cX4_put 14 = .ok (.ifCond .eq 6, 3) := by decide +kernel
theorem dX4_put_17 : decode cX4_put 17 = .ok (.iload 4, 2) := by decide +kernel
theorem dX4_put_19 : decode cX4_put 19 = .ok (.ireturn, 1) := by decide +kernel
theorem dX4_put_20 : decode cX4_put 20 = .ok (.aload_n 0, 1) := by decide +kernel
theorem dX4_put_21 : decode cX4_put 21 = .ok (.getfield 18, 3) := by decide +kernel
theorem dX4_put_24 : decode cX4_put 24 = .ok (.iload_n 1, 1) := by decide +kernel
theorem dX4_put_25 : decode cX4_put 25 = .ok (.iload_n 2, 1) := by decide +kernel
theorem dX4_put_26 : decode cX4_put 26 = .ok (.invokevirtual 93, 3) := by decide +kernel
theorem dX4_put_29 : decode cX4_put 29 = .ok (.istore 5, 2) := by decide +kernel
theorem dX4_put_31 : decode cX4_put 31 = .ok (.aload_n 0, 1) := by decide +kernel
theorem dX4_put_32 : decode cX4_put 32 = .ok (.getfield 18, 3) := by decide +kernel
theorem dX4_put_35 : decode cX4_put 35 = .ok (.iload_n 1, 1) := by decide +kernel
theorem dX4_put_36 : decode cX4_put 36 = .ok (.iload_n 2, 1) := by decide +kernel
theorem dX4_put_37 : decode cX4_put 37 = .ok (.iload_n 3, 1) := by decide +kernel
theorem dX4_put_38 : decode cX4_put 38 = .ok (.i2b, 1) := by decide +kernel
theorem dX4_put_39 : decode cX4_put 39 = .ok (.invokevirtual 97, 3) := by decide +kernel
theorem dX4_put_42 : decode cX4_put 42 = .ok (.iload 5, 2) := by decide +kernel
theorem dX4_put_44 : decode cX4_put 44 = .ok (.sipush 1000, 3) := by decide +kernel
theorem dX4_put_47 : decode cX4_put 47 = .ok (.iadd, 1) := by decide +kernel
theorem dX4_put_48 : decode cX4_put 48 = .ok (.ireturn, 1) := by decide +kernel
theorem dX4_fault_0 : decode cX4_fault 0 = .ok (.aload_n 0, 1) := by decide +kernel
theorem dX4_fault_1 : decode cX4_fault 1 = .ok (.aload_n 0, 1) := by decide +kernel
theorem dX4_fault_2 : decode cX4_fault 2 = .ok (.getfield 18, 3) := by decide +kernel
theorem dX4_fault_5 : decode cX4_fault 5 = .ok (.iload_n 1, 1) := by decide +kernel
theorem dX4_fault_6 : decode cX4_fault 6 = .ok (.invokevirtual 100, 3) := by decide +kernel
theorem dX4_fault_9 : decode cX4_fault 9 = .ok (.istore_n 2, 1) := by decide +kernel
theorem dX4_fault_10 : decode cX4_fault 10 = .ok (.iload_n 2, 1) := by decide +kernel
theorem dX4_fault_11 : decode cX4_fault 11 = .ok (.ifCond .eq 5, 3) := by decide +kernel
theorem dX4_fault_14 : decode cX4_fault 14 = .ok (.iload_n 2, 1) := by decide +kernel
theorem dX4_fault_15 : decode cX4_fault 15 = .ok (.ireturn, 1) := by decide +kernel
theorem dX4_fault_16 : decode cX4_fault 16 = .ok (.aload_n 0, 1) := by decide +kernel
theorem dX4_fault_17 : decode cX4_fault 17 = .ok (.getfield 31, 3) := by decide +kernel
theorem dX4_fault_20 : decode cX4_fault 20 = .ok (.aload_n 0, 1) := by decide +kernel
theorem dX4_fault_21 : decode cX4_fault 21 = .ok (.getfield 18, 3) := by decide +kernel
theorem dX4_fault_24 : decode cX4_fault 24 = .ok (.iload_n 1, 1) := by decide +kernel
theorem dX4_fault_25 : decode cX4_fault 25 = .ok (.invokevirtual 127, 3) := by decide +kernel
theorem dX4_fault_28 : decode cX4_fault 28 = .ok (.ireturn, 1) := by decide +kernel
theorem dX4_board_0 : decode cX4_board 0 = .ok (.aload_n 0, 1) := by decide +kernel
theorem dX4_board_1 : decode cX4_board 1 = .ok (.aload_n 0, 1) := by decide +kernel
theorem dX4_board_2 : decode cX4_board 2 = .ok (.getfield 18, 3) := by decide +kernel
theorem dX4_board_5 : decode cX4_board 5 = .ok (.iload_n 1, 1) := by decide +kernel
theorem dX4_board_6 : decode cX4_board 6 = .ok (.invokevirtual 100, 3) := by decide +kernel
theorem dX4_board_9 : decode cX4_board 9 = .ok (.istore_n 2, 1) := by decide +kernel
theorem dX4_board_10 : decode cX4_board 10 = .ok (.iload_n 2, 1) := by decide +kernel
theorem dX4_board_11 : decode cX4_board 11 = .ok (.ifCond .eq 5, 3) := by decide +kernel
theorem dX4_board_14 : decode cX4_board 14 = .ok (.iload_n 2, 1) := by decide +kernel
theorem dX4_board_15 : decode cX4_board 15 = .ok (.ireturn, 1) := by decide +kernel
theorem dX4_board_16 : decode cX4_board 16 = .ok (.aload_n 0, 1) := by decide +kernel
theorem dX4_board_17 : decode cX4_board 17 = .ok (.getfield 31, 3) := by decide +kernel
theorem dX4_board_20 : decode cX4_board 20 = .ok (.aload_n 0, 1) := by decide +kernel
theorem dX4_board_21 : decode cX4_board 21 = .ok (.getfield 18, 3) := by decide +kernel
theorem dX4_board_24 : decode cX4_board 24 = .ok (.iload_n 1, 1) := by decide +kernel
theorem dX4_board_25 : decode cX4_board 25 = .ok (.invokevirtual 127, 3) := by decide +kernel
theorem dX4_board_28 : decode cX4_board 28 = .ok (.bipush (-9), 2) := by decide +kernel
theorem dX4_board_30 : decode cX4_board 30 = .ok (.if_icmp .eq 6, 3) := by decide +kernel
theorem dX4_board_33 : decode cX4_board 33 = .ok (.bipush (-4), 2) := by decide +kernel
theorem dX4_board_35 : decode cX4_board 35 = .ok (.ireturn, 1) := by decide +kernel
theorem dX4_board_36 : decode cX4_board 36 = .ok (.aload_n 0, 1) := by decide +kernel
theorem dX4_board_37 : decode cX4_board 37 = .ok (.getfield 27, 3) := by decide +kernel
theorem dX4_board_40 : decode cX4_board 40 = .ok (.aload_n 0, 1) := by decide +kernel
theorem dX4_board_41 : decode cX4_board 41 = .ok (.getfield 31, 3) := by decide +kernel
theorem dX4_board_44 : decode cX4_board 44 = .ok (.invokevirtual 130, 3) := by decide +kernel
theorem dX4_board_47 : decode cX4_board 47 = .ok (.aload_n 0, 1) := by decide +kernel
theorem dX4_board_48 : decode cX4_board 48 = .ok (.getfield 37, 3) := by decide +kernel
theorem dX4_board_51 : decode cX4_board 51 = .ok (.invokevirtual 134, 3) := by decide +kernel
theorem dX4_board_54 : decode cX4_board 54 = .ok (.iconst 0, 1) := by decide +kernel
theorem dX4_board_55 : decode cX4_board 55 = .ok (.istore_n 3, 1) := by decide +kernel
theorem dX4_board_56 : decode cX4_board 56 = .ok (.iload_n 3, 1) := by decide +kernel
theorem dX4_board_57 : decode cX4_board 57 = .ok (.iconst 3, 1) := by decide +kernel
theorem dX4_board_58 : decode cX4_board 58 = .ok (.if_icmp .ge 17, 3) := by decide +kernel
theorem dX4_board_61 : decode cX4_board 61 = .ok (.aload_n 0, 1) := by decide +kernel
theorem dX4_board_62 : decode cX4_board 62 = .ok (.getfield 21, 3) := by decide +kernel
theorem dX4_board_65 : decode cX4_board 65 = .ok (.iload_n 3, 1) := by decide +kernel
theorem dX4_board_66 : decode cX4_board 66 = .ok (.invokevirtual 104, 3) := by decide +kernel
theorem dX4_board_69 : decode cX4_board 69 = .ok (.iinc 3 1, 3) := by decide +kernel
theorem dX4_board_72 : decode cX4_board 72 = .ok (.goto (-16), 3) := by decide +kernel
theorem dX4_board_75 : decode cX4_board 75 = .ok (.aload_n 0, 1) := by decide +kernel
theorem dX4_board_76 : decode cX4_board 76 = .ok (.getfield 21, 3) := by decide +kernel
theorem dX4_board_79 : decode cX4_board 79 = .ok (.iconst 3, 1) := by decide +kernel
theorem dX4_board_80 : decode cX4_board 80 = .ok (.iconst 0, 1) := by decide +kernel
theorem dX4_board_81 : decode cX4_board 81 = .ok (.iconst 0, 1) := by decide +kernel
theorem dX4_board_82 : decode cX4_board 82 = .ok (.invokevirtual 77, 3) := by decide +kernel
theorem dX4_board_85 : decode cX4_board 85 = .ok (.aload_n 0, 1) := by decide +kernel
theorem dX4_board_86 : decode cX4_board 86 = .ok (.getfield 27, 3) := by decide +kernel
theorem dX4_board_89 : decode cX4_board 89 = .ok (.getfield 137, 3) := by decide +kernel
theorem dX4_board_92 : decode cX4_board 92 = .ok (.ireturn, 1) := by decide +kernel
theorem dX4_key_0 : decode cX4_key 0 = .ok (.aload_n 0, 1) := by decide +kernel
theorem dX4_key_1 : decode cX4_key 1 = .ok (.getfield 27, 3) := by decide +kernel
theorem dX4_key_4 : decode cX4_key 4 = .ok (.iload_n 1, 1) := by decide +kernel
theorem dX4_key_5 : decode cX4_key 5 = .ok (.invokevirtual 139, 3) := by decide +kernel
theorem dX4_key_8 : decode cX4_key 8 = .ok (.ifCond .eq 12, 3) := by decide +kernel
theorem dX4_key_11 : decode cX4_key 11 = .ok (.iload_n 2, 1) := by decide +kernel
theorem dX4_key_12 : decode cX4_key 12 = .ok (.bipush 8, 2) := by decide +kernel
theorem dX4_key_14 : decode cX4_key 14 = .ok (.invokestatic 81, 3) := by decide +kernel
theorem dX4_key_17 : decode cX4_key 17 = .ok (.ifCond .ne 5, 3) := by decide +kernel
theorem dX4_key_20 : decode cX4_key 20 = .ok (.iconst (-1), 1) := by decide +kernel
theorem dX4_key_21 : decode cX4_key 21 = .ok (.ireturn, 1) := by decide +kernel
theorem dX4_key_22 : decode cX4_key 22 = .ok (.aload_n 0, 1) := by decide +kernel
theorem dX4_key_23 : decode cX4_key 23 = .ok (.aload_n 0, 1) := by decide +kernel
theorem dX4_key_24 : decode cX4_key 24 = .ok (.iload_n 1, 1) := by decide +kernel
theorem dX4_key_25 : decode cX4_key 25 = .ok (.iload_n 2, 1) := by decide +kernel
theorem dX4_key_26 : decode cX4_key 26 = .ok (.invokevirtual 140, 3) := by decide +kernel
theorem dX4_key_29 : decode cX4_key 29 = .ok (.putfield 67, 3) := by decide +kernel
theorem dX4_key_32 : decode cX4_key 32 = .ok (.iconst 1, 1) := by decide +kernel
theorem dX4_key_33 : decode cX4_key 33 = .ok (.ireturn, 1) := by decide +kernel
theorem dX4_mark_0 : decode cX4_mark 0 = .ok (.aload_n 0, 1) := by decide +kernel
theorem dX4_mark_1 : decode cX4_mark 1 = .ok (.getfield 27, 3) := by decide +kernel
theorem dX4_mark_4 : decode cX4_mark 4 = .ok (.iload_n 1, 1) := by decide +kernel
theorem dX4_mark_5 : decode cX4_mark 5 = .ok (.invokevirtual 139, 3) := by decide +kernel
theorem dX4_mark_8 : decode cX4_mark 8 = .ok (.ifCond .eq 13, 3) := by decide +kernel
theorem dX4_mark_11 : decode cX4_mark 11 = .ok (.iload_n 2, 1) := by decide +kernel
theorem dX4_mark_12 : decode cX4_mark 12 = .ok (.ifCond .le 9, 3) := by decide +kernel
theorem dX4_mark_15 : decode cX4_mark 15 = .ok (.iload_n 2, 1) := by decide +kernel
theorem dX4_mark_16 : decode cX4_mark 16 = .ok (.bipush 6, 2) := by decide +kernel
theorem dX4_mark_18 : decode cX4_mark 18 = .ok (.if_icmp .lt 5, 3) := by decide +kernel
theorem dX4_mark_21 : decode cX4_mark 21 = .ok (.iconst (-1), 1) := by decide +kernel
theorem dX4_mark_22 : decode cX4_mark 22 = .ok (.ireturn, 1) := by decide +kernel
theorem dX4_mark_23 : decode cX4_mark 23 = .ok (.aload_n 0, 1) := by decide +kernel
theorem dX4_mark_24 : decode cX4_mark 24 = .ok (.getfield 27, 3) := by decide +kernel
theorem dX4_mark_27 : decode cX4_mark 27 = .ok (.iload_n 1, 1) := by decide +kernel
theorem dX4_mark_28 : decode cX4_mark 28 = .ok (.invokevirtual 143, 3) := by decide +kernel
theorem dX4_mark_31 : decode cX4_mark 31 = .ok (.iload_n 2, 1) := by decide +kernel
theorem dX4_mark_32 : decode cX4_mark 32 = .ok (.invokestatic 146, 3) := by decide +kernel
theorem dX4_mark_35 : decode cX4_mark 35 = .ok (.ifCond .ne 9, 3) := by decide +kernel
theorem dX4_mark_38 : decode cX4_mark 38 = .ok (.aload_n 0, 1) := by decide +kernel
theorem dX4_mark_39 : decode cX4_mark 39 = .ok (.iconst 3, 1) := by decide +kernel
theorem dX4_mark_40 : decode cX4_mark 40 = .ok (.invokevirtual 85, 3) := by decide +kernel
theorem dX4_mark_43 : decode cX4_mark 43 = .ok (.ireturn, 1) := by decide +kernel
theorem dX4_mark_44 : decode cX4_mark 44 = .ok (.iload_n 2, 1) := by decide +kernel
theorem dX4_mark_45 : decode cX4_mark 45 = .ok (.tableswitch 101 1 4 #[31, 48, 62, 79], 31) := by decide +kernel
theorem dX4_mark_76 : decode cX4_mark 76 = .ok (.bipush 10, 2) := by decide +kernel
theorem dX4_mark_78 : decode cX4_mark 78 = .ok (.aload_n 0, 1) := by decide +kernel
theorem dX4_mark_79 : decode cX4_mark 79 = .ok (.iload_n 1, 1) := by decide +kernel
theorem dX4_mark_80 : decode cX4_mark 80 = .ok (.invokevirtual 149, 3) := by decide +kernel
theorem dX4_mark_83 : decode cX4_mark 83 = .ok (.iadd, 1) := by decide +kernel
theorem dX4_mark_84 : decode cX4_mark 84 = .ok (.aload_n 0, 1) := by decide +kernel
theorem dX4_mark_85 : decode cX4_mark 85 = .ok (.invokevirtual 152, 3) := by decide +kernel
theorem dX4_mark_88 : decode cX4_mark 88 = .ok (.invokestatic 156, 3) := by decide +kernel
theorem dX4_mark_91 : decode cX4_mark 91 = .ok (.isub, 1) := by decide +kernel
theorem dX4_mark_92 : decode cX4_mark 92 = .ok (.ireturn, 1) := by decide +kernel
theorem dX4_mark_93 : decode cX4_mark 93 = .ok (.aload_n 0, 1) := by decide +kernel
theorem dX4_mark_94 : decode cX4_mark 94 = .ok (.iload_n 1, 1) := by decide +kernel
theorem dX4_mark_95 : decode cX4_mark 95 = .ok (.aload_n 0, 1) := by decide +kernel
theorem dX4_mark_96 : decode cX4_mark 96 = .ok (.getfield 27, 3) := by decide +kernel
theorem dX4_mark_99 : decode cX4_mark 99 = .ok (.iload_n 1, 1) := by decide +kernel
theorem dX4_mark_100 : decode cX4_mark 100 = .ok (.invokevirtual 143, 3) := by decide +kernel
theorem dX4_mark_103 : decode cX4_mark 103 = .ok (.invokevirtual 161, 3) := by decide +kernel
theorem dX4_mark_106 : decode cX4_mark 106 = .ok (.ireturn, 1) := by decide +kernel
theorem dX4_mark_107 : decode cX4_mark 107 = .ok (.bipush 10, 2) := by decide +kernel
theorem dX4_mark_109 : decode cX4_mark 109 = .ok (.aload_n 0, 1) := by decide +kernel
theorem dX4_mark_110 : decode cX4_mark 110 = .ok (.invokevirtual 152, 3) := by decide +kernel
theorem dX4_mark_113 : decode cX4_mark 113 = .ok (.invokestatic 156, 3) := by decide +kernel
theorem dX4_mark_116 : decode cX4_mark 116 = .ok (.iadd, 1) := by decide +kernel
theorem dX4_mark_117 : decode cX4_mark 117 = .ok (.aload_n 0, 1) := by decide +kernel
theorem dX4_mark_118 : decode cX4_mark 118 = .ok (.iload_n 1, 1) := by decide +kernel
theorem dX4_mark_119 : decode cX4_mark 119 = .ok (.invokevirtual 149, 3) := by decide +kernel
theorem dX4_mark_122 : decode cX4_mark 122 = .ok (.isub, 1) := by decide +kernel
theorem dX4_mark_123 : decode cX4_mark 123 = .ok (.ireturn, 1) := by decide +kernel
theorem dX4_mark_124 : decode cX4_mark 124 = .ok (.iconst 0, 1) := by decide +kernel
theorem dX4_mark_125 : decode cX4_mark 125 = .ok (.aload_n 0, 1) := by decide +kernel
theorem dX4_mark_126 : decode cX4_mark 126 = .ok (.getfield 27, 3) := by decide +kernel
theorem dX4_mark_129 : decode cX4_mark 129 = .ok (.iload_n 1, 1) := by decide +kernel
theorem dX4_mark_130 : decode cX4_mark 130 = .ok (.invokevirtual 164, 3) := by decide +kernel
theorem dX4_mark_133 : decode cX4_mark 133 = .ok (.aload_n 0, 1) := by decide +kernel
theorem dX4_mark_134 : decode cX4_mark 134 = .ok (.getfield 37, 3) := by decide +kernel
theorem dX4_mark_137 : decode cX4_mark 137 = .ok (.iload_n 1, 1) := by decide +kernel
theorem dX4_mark_138 : decode cX4_mark 138 = .ok (.invokevirtual 167, 3) := by decide +kernel
theorem dX4_mark_141 : decode cX4_mark 141 = .ok (.isub, 1) := by decide +kernel
theorem dX4_mark_142 : decode cX4_mark 142 = .ok (.invokestatic 170, 3) := by decide +kernel
theorem dX4_mark_145 : decode cX4_mark 145 = .ok (.ireturn, 1) := by decide +kernel
theorem dX4_mark_146 : decode cX4_mark 146 = .ok (.aload_n 0, 1) := by decide +kernel
theorem dX4_mark_147 : decode cX4_mark 147 = .ok (.iload_n 1, 1) := by decide +kernel
theorem dX4_mark_148 : decode cX4_mark 148 = .ok (.iconst 2, 1) := by decide +kernel
theorem dX4_mark_149 : decode cX4_mark 149 = .ok (.invokevirtual 161, 3) := by decide +kernel
theorem dX4_mark_152 : decode cX4_mark 152 = .ok (.aload_n 0, 1) := by decide +kernel
theorem dX4_mark_153 : decode cX4_mark 153 = .ok (.iload_n 1, 1) := by decide +kernel
theorem dX4_mark_154 : decode cX4_mark 154 = .ok (.iconst 5, 1) := by decide +kernel
theorem dX4_mark_155 : decode cX4_mark 155 = .ok (.invokevirtual 161, 3) := by decide +kernel
theorem dX4_mark_158 : decode cX4_mark 158 = .ok (.isub, 1) := by decide +kernel
theorem dX4_mark_159 : decode cX4_mark 159 = .ok (.ireturn, 1) := by decide +kernel
theorem dX4_reads_0 : decode cX4_reads 0 = .ok (.iload_n 1, 1) := by decide +kernel
theorem dX4_reads_1 : decode cX4_reads 1 = .ok (.iconst 4, 1) := by decide +kernel
theorem dX4_reads_2 : decode cX4_reads 2 = .ok (.invokestatic 81, 3) := by decide +kernel
theorem dX4_reads_5 : decode cX4_reads 5 = .ok (.ifCond .ne 5, 3) := by decide +kernel
theorem dX4_reads_8 : decode cX4_reads 8 = .ok (.iconst (-1), 1) := by decide +kernel
theorem dX4_reads_9 : decode cX4_reads 9 = .ok (.ireturn, 1) := by decide +kernel
theorem dX4_reads_10 : decode cX4_reads 10 = .ok (.aload_n 0, 1) := by decide +kernel
theorem dX4_reads_11 : decode cX4_reads 11 = .ok (.getfield 47, 3) := by decide +kernel
theorem dX4_reads_14 : decode cX4_reads 14 = .ok (.aload_n 0, 1) := by decide +kernel
theorem dX4_reads_15 : decode cX4_reads 15 = .ok (.getfield 27, 3) := by decide +kernel
theorem dX4_reads_18 : decode cX4_reads 18 = .ok (.aload_n 0, 1) := by decide +kernel
theorem dX4_reads_19 : decode cX4_reads 19 = .ok (.getfield 37, 3) := by decide +kernel
theorem dX4_reads_22 : decode cX4_reads 22 = .ok (.invokevirtual 175, 3) := by decide +kernel
theorem dX4_reads_25 : decode cX4_reads 25 = .ok (.aload_n 0, 1) := by decide +kernel
theorem dX4_reads_26 : decode cX4_reads 26 = .ok (.getfield 47, 3) := by decide +kernel
theorem dX4_reads_29 : decode cX4_reads 29 = .ok (.iload_n 1, 1) := by decide +kernel
theorem dX4_reads_30 : decode cX4_reads 30 = .ok (.aload_n 0, 1) := by decide +kernel
theorem dX4_reads_31 : decode cX4_reads 31 = .ok (.getfield 37, 3) := by decide +kernel
theorem dX4_reads_34 : decode cX4_reads 34 = .ok (.getfield 179, 3) := by decide +kernel
theorem dX4_reads_37 : decode cX4_reads 37 = .ok (.invokevirtual 182, 3) := by decide +kernel
theorem dX4_reads_40 : decode cX4_reads 40 = .ok (.ireturn, 1) := by decide +kernel
theorem dX4_press_0 : decode cX4_press 0 = .ok (.aload_n 0, 1) := by decide +kernel
theorem dX4_press_1 : decode cX4_press 1 = .ok (.getfield 27, 3) := by decide +kernel
theorem dX4_press_4 : decode cX4_press 4 = .ok (.iload_n 1, 1) := by decide +kernel
theorem dX4_press_5 : decode cX4_press 5 = .ok (.invokevirtual 139, 3) := by decide +kernel
theorem dX4_press_8 : decode cX4_press 8 = .ok (.ifCond .ne 5, 3) := by decide +kernel
theorem dX4_press_11 : decode cX4_press 11 = .ok (.iconst (-1), 1) := by decide +kernel
theorem dX4_press_12 : decode cX4_press 12 = .ok (.ireturn, 1) := by decide +kernel
theorem dX4_press_13 : decode cX4_press 13 = .ok (.aload_n 0, 1) := by decide +kernel
theorem dX4_press_14 : decode cX4_press 14 = .ok (.iconst 1, 1) := by decide +kernel
theorem dX4_press_15 : decode cX4_press 15 = .ok (.invokevirtual 185, 3) := by decide +kernel
theorem dX4_press_18 : decode cX4_press 18 = .ok (.ifCond .eq 6, 3) := by decide +kernel
theorem dX4_press_21 : decode cX4_press 21 = .ok (.bipush (-2), 2) := by decide +kernel
theorem dX4_press_23 : decode cX4_press 23 = .ok (.ireturn, 1) := by decide +kernel
theorem dX4_press_24 : decode cX4_press 24 = .ok (.aload_n 0, 1) := by decide +kernel
theorem dX4_press_25 : decode cX4_press 25 = .ok (.iload_n 1, 1) := by decide +kernel
theorem dX4_press_26 : decode cX4_press 26 = .ok (.invokevirtual 188, 3) := by decide +kernel
theorem dX4_press_29 : decode cX4_press 29 = .ok (.aload_n 0, 1) := by decide +kernel
theorem dX4_press_30 : decode cX4_press 30 = .ok (.getfield 37, 3) := by decide +kernel
theorem dX4_press_33 : decode cX4_press 33 = .ok (.getfield 179, 3) := by decide +kernel
theorem dX4_press_36 : decode cX4_press 36 = .ok (.invokestatic 156, 3) := by decide +kernel
theorem dX4_press_39 : decode cX4_press 39 = .ok (.ireturn, 1) := by decide +kernel
theorem dX4_scan_0 : decode cX4_scan 0 = .ok (.aload_n 0, 1) := by decide +kernel
theorem dX4_scan_1 : decode cX4_scan 1 = .ok (.getfield 27, 3) := by decide +kernel
theorem dX4_scan_4 : decode cX4_scan 4 = .ok (.getfield 137, 3) := by decide +kernel
theorem dX4_scan_7 : decode cX4_scan 7 = .ok (.ifCond .ne 6, 3) := by decide +kernel
theorem dX4_scan_10 : decode cX4_scan 10 = .ok (.bipush (-4), 2) := by decide +kernel
theorem dX4_scan_12 : decode cX4_scan 12 = .ok (.ireturn, 1) := by decide +kernel
theorem dX4_scan_13 : decode cX4_scan 13 = .ok (.aload_n 0, 1) := by decide +kernel
theorem dX4_scan_14 : decode cX4_scan 14 = .ok (.iconst 1, 1) := by decide +kernel
theorem dX4_scan_15 : decode cX4_scan 15 = .ok (.invokevirtual 185, 3) := by decide +kernel
theorem dX4_scan_18 : decode cX4_scan 18 = .ok (.ifCond .eq 6, 3) := by decide +kernel
theorem dX4_scan_21 : decode cX4_scan 21 = .ok (.bipush (-2), 2) := by decide +kernel
theorem dX4_scan_23 : decode cX4_scan 23 = .ok (.ireturn, 1) := by decide +kernel
theorem dX4_scan_24 : decode cX4_scan 24 = .ok (.aload_n 0, 1) := by decide +kernel
theorem dX4_scan_25 : decode cX4_scan 25 = .ok (.invokevirtual 152, 3) := by decide +kernel
theorem dX4_scan_28 : decode cX4_scan 28 = .ok (.invokestatic 156, 3) := by decide +kernel
theorem dX4_scan_31 : decode cX4_scan 31 = .ok (.istore_n 1, 1) := by decide +kernel
theorem dX4_scan_32 : decode cX4_scan 32 = .ok (.aload_n 0, 1) := by decide +kernel
theorem dX4_scan_33 : decode cX4_scan 33 = .ok (.bipush 7, 2) := by decide +kernel
theorem dX4_scan_35 : decode cX4_scan 35 = .ok (.invokevirtual 188, 3) := by decide +kernel
theorem dX4_scan_38 : decode cX4_scan 38 = .ok (.iload_n 1, 1) := by decide +kernel
theorem dX4_scan_39 : decode cX4_scan 39 = .ok (.ireturn, 1) := by decide +kernel
theorem dX4_cut_0 : decode cX4_cut 0 = .ok (.iload_n 1, 1) := by decide +kernel
theorem dX4_cut_1 : decode cX4_cut 1 = .ok (.iconst 4, 1) := by decide +kernel
theorem dX4_cut_2 : decode cX4_cut 2 = .ok (.invokestatic 81, 3) := by decide +kernel
theorem dX4_cut_5 : decode cX4_cut 5 = .ok (.ifCond .ne 5, 3) := by decide +kernel
theorem dX4_cut_8 : decode cX4_cut 8 = .ok (.iconst (-1), 1) := by decide +kernel
theorem dX4_cut_9 : decode cX4_cut 9 = .ok (.ireturn, 1) := by decide +kernel
theorem dX4_cut_10 : decode cX4_cut 10 = .ok (.aload_n 0, 1) := by decide +kernel
theorem dX4_cut_11 : decode cX4_cut 11 = .ok (.getfield 27, 3) := by decide +kernel
theorem dX4_cut_14 : decode cX4_cut 14 = .ok (.getfield 137, 3) := by decide +kernel
theorem dX4_cut_17 : decode cX4_cut 17 = .ok (.ifCond .ne 6, 3) := by decide +kernel
theorem dX4_cut_20 : decode cX4_cut 20 = .ok (.bipush (-4), 2) := by decide +kernel
theorem dX4_cut_22 : decode cX4_cut 22 = .ok (.ireturn, 1) := by decide +kernel
theorem dX4_cut_23 : decode cX4_cut 23 = .ok (.aload_n 0, 1) := by decide +kernel
theorem dX4_cut_24 : decode cX4_cut 24 = .ok (.iconst 1, 1) := by decide +kernel
theorem dX4_cut_25 : decode cX4_cut 25 = .ok (.invokevirtual 185, 3) := by decide +kernel
theorem dX4_cut_28 : decode cX4_cut 28 = .ok (.ifCond .eq 6, 3) := by decide +kernel
theorem dX4_cut_31 : decode cX4_cut 31 = .ok (.bipush (-2), 2) := by decide +kernel
theorem dX4_cut_33 : decode cX4_cut 33 = .ok (.ireturn, 1) := by decide +kernel
theorem dX4_cut_34 : decode cX4_cut 34 = .ok (.aload_n 0, 1) := by decide +kernel
theorem dX4_cut_35 : decode cX4_cut 35 = .ok (.bipush 8, 2) := by decide +kernel
theorem dX4_cut_37 : decode cX4_cut 37 = .ok (.iload_n 1, 1) := by decide +kernel
theorem dX4_cut_38 : decode cX4_cut 38 = .ok (.iadd, 1) := by decide +kernel
theorem dX4_cut_39 : decode cX4_cut 39 = .ok (.invokevirtual 188, 3) := by decide +kernel
theorem dX4_cut_42 : decode cX4_cut 42 = .ok (.aload_n 0, 1) := by decide +kernel
theorem dX4_cut_43 : decode cX4_cut 43 = .ok (.getfield 37, 3) := by decide +kernel
theorem dX4_cut_46 : decode cX4_cut 46 = .ok (.getfield 191, 3) := by decide +kernel
theorem dX4_cut_49 : decode cX4_cut 49 = .ok (.invokestatic 156, 3) := by decide +kernel
theorem dX4_cut_52 : decode cX4_cut 52 = .ok (.ireturn, 1) := by decide +kernel
theorem dX4_undo_0 : decode cX4_undo 0 = .ok (.aload_n 0, 1) := by decide +kernel
theorem dX4_undo_1 : decode cX4_undo 1 = .ok (.getfield 21, 3) := by decide +kernel
theorem dX4_undo_4 : decode cX4_undo 4 = .ok (.iconst 3, 1) := by decide +kernel
theorem dX4_undo_5 : decode cX4_undo 5 = .ok (.invokevirtual 120, 3) := by decide +kernel
theorem dX4_undo_8 : decode cX4_undo 8 = .ok (.istore_n 2, 1) := by decide +kernel
theorem dX4_undo_9 : decode cX4_undo 9 = .ok (.iload_n 1, 1) := by decide +kernel
theorem dX4_undo_10 : decode cX4_undo 10 = .ok (.ifCond .lt 8, 3) := by decide +kernel
theorem dX4_undo_13 : decode cX4_undo 13 = .ok (.iload_n 1, 1) := by decide +kernel
theorem dX4_undo_14 : decode cX4_undo 14 = .ok (.iload_n 2, 1) := by decide +kernel
theorem dX4_undo_15 : decode cX4_undo 15 = .ok (.if_icmp .le 5, 3) := by decide +kernel
theorem dX4_undo_18 : decode cX4_undo 18 = .ok (.iconst (-1), 1) := by decide +kernel
theorem dX4_undo_19 : decode cX4_undo 19 = .ok (.ireturn, 1) := by decide +kernel
theorem dX4_undo_20 : decode cX4_undo 20 = .ok (.aload_n 0, 1) := by decide +kernel
theorem dX4_undo_21 : decode cX4_undo 21 = .ok (.getfield 21, 3) := by decide +kernel
theorem dX4_undo_24 : decode cX4_undo 24 = .ok (.iconst 3, 1) := by decide +kernel
theorem dX4_undo_25 : decode cX4_undo 25 = .ok (.iload_n 1, 1) := by decide +kernel
theorem dX4_undo_26 : decode cX4_undo 26 = .ok (.invokevirtual 194, 3) := by decide +kernel
theorem dX4_undo_29 : decode cX4_undo 29 = .ok (.aload_n 0, 1) := by decide +kernel
theorem dX4_undo_30 : decode cX4_undo 30 = .ok (.invokevirtual 197, 3) := by decide +kernel
theorem dX4_undo_33 : decode cX4_undo 33 = .ok (.iload_n 2, 1) := by decide +kernel
theorem dX4_undo_34 : decode cX4_undo 34 = .ok (.iload_n 1, 1) := by decide +kernel
theorem dX4_undo_35 : decode cX4_undo 35 = .ok (.isub, 1) := by decide +kernel
theorem dX4_undo_36 : decode cX4_undo 36 = .ok (.ireturn, 1) := by decide +kernel
theorem dX4_keep_0 : decode cX4_keep 0 = .ok (.iload_n 1, 1) := by decide +kernel
theorem dX4_keep_1 : decode cX4_keep 1 = .ok (.iconst 3, 1) := by decide +kernel
theorem dX4_keep_2 : decode cX4_keep 2 = .ok (.invokestatic 81, 3) := by decide +kernel
theorem dX4_keep_5 : decode cX4_keep 5 = .ok (.ifCond .ne 5, 3) := by decide +kernel
theorem dX4_keep_8 : decode cX4_keep 8 = .ok (.iconst (-1), 1) := by decide +kernel
theorem dX4_keep_9 : decode cX4_keep 9 = .ok (.ireturn, 1) := by decide +kernel
theorem dX4_keep_10 : decode cX4_keep 10 = .ok (.aload_n 0, 1) := by decide +kernel
theorem dX4_keep_11 : decode cX4_keep 11 = .ok (.getfield 27, 3) := by decide +kernel
theorem dX4_keep_14 : decode cX4_keep 14 = .ok (.getfield 137, 3) := by decide +kernel
theorem dX4_keep_17 : decode cX4_keep 17 = .ok (.ifCond .ne 6, 3) := by decide +kernel
theorem dX4_keep_20 : decode cX4_keep 20 = .ok (.bipush (-4), 2) := by decide +kernel
theorem dX4_keep_22 : decode cX4_keep 22 = .ok (.ireturn, 1) := by decide +kernel
theorem dX4_keep_23 : decode cX4_keep 23 = .ok (.aload_n 0, 1) := by decide +kernel
theorem dX4_keep_24 : decode cX4_keep 24 = .ok (.getfield 21, 3) := by decide +kernel
theorem dX4_keep_27 : decode cX4_keep 27 = .ok (.iconst 3, 1) := by decide +kernel
theorem dX4_keep_28 : decode cX4_keep 28 = .ok (.iload_n 1, 1) := by decide +kernel
theorem dX4_keep_29 : decode cX4_keep 29 = .ok (.invokevirtual 200, 3) := by decide +kernel
theorem dX4_keep_32 : decode cX4_keep 32 = .ok (.aload_n 0, 1) := by decide +kernel
theorem dX4_keep_33 : decode cX4_keep 33 = .ok (.getfield 21, 3) := by decide +kernel
theorem dX4_keep_36 : decode cX4_keep 36 = .ok (.iload_n 1, 1) := by decide +kernel
theorem dX4_keep_37 : decode cX4_keep 37 = .ok (.invokevirtual 120, 3) := by decide +kernel
theorem dX4_keep_40 : decode cX4_keep 40 = .ok (.ireturn, 1) := by decide +kernel
theorem dX4_on_0 : decode cX4_on 0 = .ok (.iload_n 1, 1) := by decide +kernel
theorem dX4_on_1 : decode cX4_on 1 = .ok (.iconst 3, 1) := by decide +kernel
theorem dX4_on_2 : decode cX4_on 2 = .ok (.invokestatic 81, 3) := by decide +kernel
theorem dX4_on_5 : decode cX4_on 5 = .ok (.ifCond .ne 5, 3) := by decide +kernel
theorem dX4_on_8 : decode cX4_on 8 = .ok (.iconst (-1), 1) := by decide +kernel
theorem dX4_on_9 : decode cX4_on 9 = .ok (.ireturn, 1) := by decide +kernel
theorem dX4_on_10 : decode cX4_on 10 = .ok (.aload_n 0, 1) := by decide +kernel
theorem dX4_on_11 : decode cX4_on 11 = .ok (.getfield 21, 3) := by decide +kernel
theorem dX4_on_14 : decode cX4_on 14 = .ok (.iload_n 1, 1) := by decide +kernel
theorem dX4_on_15 : decode cX4_on 15 = .ok (.invokevirtual 108, 3) := by decide +kernel
theorem dX4_on_18 : decode cX4_on 18 = .ok (.ifCond .ne 9, 3) := by decide +kernel
theorem dX4_on_21 : decode cX4_on 21 = .ok (.aload_n 0, 1) := by decide +kernel
theorem dX4_on_22 : decode cX4_on 22 = .ok (.iconst 1, 1) := by decide +kernel
theorem dX4_on_23 : decode cX4_on 23 = .ok (.invokevirtual 85, 3) := by decide +kernel
theorem dX4_on_26 : decode cX4_on 26 = .ok (.ireturn, 1) := by decide +kernel
theorem dX4_on_27 : decode cX4_on 27 = .ok (.aload_n 0, 1) := by decide +kernel
theorem dX4_on_28 : decode cX4_on 28 = .ok (.getfield 21, 3) := by decide +kernel
theorem dX4_on_31 : decode cX4_on 31 = .ok (.iload_n 1, 1) := by decide +kernel
theorem dX4_on_32 : decode cX4_on 32 = .ok (.iconst 3, 1) := by decide +kernel
theorem dX4_on_33 : decode cX4_on 33 = .ok (.invokevirtual 200, 3) := by decide +kernel
theorem dX4_on_36 : decode cX4_on 36 = .ok (.aload_n 0, 1) := by decide +kernel
theorem dX4_on_37 : decode cX4_on 37 = .ok (.invokevirtual 197, 3) := by decide +kernel
theorem dX4_on_40 : decode cX4_on 40 = .ok (.aload_n 0, 1) := by decide +kernel
theorem dX4_on_41 : decode cX4_on 41 = .ok (.getfield 21, 3) := by decide +kernel
theorem dX4_on_44 : decode cX4_on 44 = .ok (.iconst 3, 1) := by decide +kernel
theorem dX4_on_45 : decode cX4_on 45 = .ok (.invokevirtual 120, 3) := by decide +kernel
theorem dX4_on_48 : decode cX4_on 48 = .ok (.ireturn, 1) := by decide +kernel
theorem dX4_told_0 : decode cX4_told 0 = .ok (.aload_n 0, 1) := by decide +kernel
theorem dX4_told_1 : decode cX4_told 1 = .ok (.invokevirtual 152, 3) := by decide +kernel
theorem dX4_told_4 : decode cX4_told 4 = .ok (.istore_n 1, 1) := by decide +kernel
theorem dX4_told_5 : decode cX4_told 5 = .ok (.aload_n 0, 1) := by decide +kernel
theorem dX4_told_6 : decode cX4_told 6 = .ok (.iload_n 1, 1) := by decide +kernel
theorem dX4_told_7 : decode cX4_told 7 = .ok (.aload_n 0, 1) := by decide +kernel
theorem dX4_told_8 : decode cX4_told 8 = .ok (.getfield 37, 3) := by decide +kernel
theorem dX4_told_11 : decode cX4_told 11 = .ok (.getfield 179, 3) := by decide +kernel
theorem dX4_told_14 : decode cX4_told 14 = .ok (.iconst (-1), 1) := by decide +kernel
theorem dX4_told_15 : decode cX4_told 15 = .ok (.ixor, 1) := by decide +kernel
theorem dX4_told_16 : decode cX4_told 16 = .ok (.iand, 1) := by decide +kernel
theorem dX4_told_17 : decode cX4_told 17 = .ok (.invokestatic 156, 3) := by decide +kernel
theorem dX4_told_20 : decode cX4_told 20 = .ok (.putfield 67, 3) := by decide +kernel
theorem dX4_told_23 : decode cX4_told 23 = .ok (.iload_n 1, 1) := by decide +kernel
theorem dX4_told_24 : decode cX4_told 24 = .ok (.ireturn, 1) := by decide +kernel
theorem dX4_ghosts_0 : decode cX4_ghosts 0 = .ok (.aload_n 0, 1) := by decide +kernel
theorem dX4_ghosts_1 : decode cX4_ghosts 1 = .ok (.invokevirtual 152, 3) := by decide +kernel
theorem dX4_ghosts_4 : decode cX4_ghosts 4 = .ok (.istore_n 1, 1) := by decide +kernel
theorem dX4_ghosts_5 : decode cX4_ghosts 5 = .ok (.aload_n 0, 1) := by decide +kernel
theorem dX4_ghosts_6 : decode cX4_ghosts 6 = .ok (.aload_n 0, 1) := by decide +kernel
theorem dX4_ghosts_7 : decode cX4_ghosts 7 = .ok (.getfield 37, 3) := by decide +kernel
theorem dX4_ghosts_10 : decode cX4_ghosts 10 = .ok (.getfield 179, 3) := by decide +kernel
theorem dX4_ghosts_13 : decode cX4_ghosts 13 = .ok (.iload_n 1, 1) := by decide +kernel
theorem dX4_ghosts_14 : decode cX4_ghosts 14 = .ok (.iconst (-1), 1) := by decide +kernel
theorem dX4_ghosts_15 : decode cX4_ghosts 15 = .ok (.ixor, 1) := by decide +kernel
theorem dX4_ghosts_16 : decode cX4_ghosts 16 = .ok (.iand, 1) := by decide +kernel
theorem dX4_ghosts_17 : decode cX4_ghosts 17 = .ok (.putfield 67, 3) := by decide +kernel
theorem dX4_ghosts_20 : decode cX4_ghosts 20 = .ok (.iload_n 1, 1) := by decide +kernel
theorem dX4_ghosts_21 : decode cX4_ghosts 21 = .ok (.aload_n 0, 1) := by decide +kernel
theorem dX4_ghosts_22 : decode cX4_ghosts 22 = .ok (.getfield 37, 3) := by decide +kernel
theorem dX4_ghosts_25 : decode cX4_ghosts 25 = .ok (.getfield 179, 3) := by decide +kernel
theorem dX4_ghosts_28 : decode cX4_ghosts 28 = .ok (.iconst (-1), 1) := by decide +kernel
theorem dX4_ghosts_29 : decode cX4_ghosts 29 = .ok (.ixor, 1) := by decide +kernel
theorem dX4_ghosts_30 : decode cX4_ghosts 30 = .ok (.iand, 1) := by decide +kernel
theorem dX4_ghosts_31 : decode cX4_ghosts 31 = .ok (.ireturn, 1) := by decide +kernel
theorem dX4_later_0 : decode cX4_later 0 = .ok (.iload_n 1, 1) := by decide +kernel
theorem dX4_later_1 : decode cX4_later 1 = .ok (.ifCond .lt 9, 3) := by decide +kernel
theorem dX4_later_4 : decode cX4_later 4 = .ok (.iload_n 1, 1) := by decide +kernel
theorem dX4_later_5 : decode cX4_later 5 = .ok (.bipush 20, 2) := by decide +kernel
theorem dX4_later_7 : decode cX4_later 7 = .ok (.if_icmp .le 5, 3) := by decide +kernel
theorem dX4_later_10 : decode cX4_later 10 = .ok (.iconst (-1), 1) := by decide +kernel
theorem dX4_later_11 : decode cX4_later 11 = .ok (.ireturn, 1) := by decide +kernel
theorem dX4_later_12 : decode cX4_later 12 = .ok (.aload_n 0, 1) := by decide +kernel
theorem dX4_later_13 : decode cX4_later 13 = .ok (.getfield 27, 3) := by decide +kernel
theorem dX4_later_16 : decode cX4_later 16 = .ok (.getfield 137, 3) := by decide +kernel
theorem dX4_later_19 : decode cX4_later 19 = .ok (.ifCond .ne 6, 3) := by decide +kernel
theorem dX4_later_22 : decode cX4_later 22 = .ok (.bipush (-4), 2) := by decide +kernel
theorem dX4_later_24 : decode cX4_later 24 = .ok (.ireturn, 1) := by decide +kernel
theorem dX4_later_25 : decode cX4_later 25 = .ok (.aload_n 0, 1) := by decide +kernel
theorem dX4_later_26 : decode cX4_later 26 = .ok (.getfield 41, 3) := by decide +kernel
theorem dX4_later_29 : decode cX4_later 29 = .ok (.aload_n 0, 1) := by decide +kernel
theorem dX4_later_30 : decode cX4_later 30 = .ok (.getfield 37, 3) := by decide +kernel
theorem dX4_later_33 : decode cX4_later 33 = .ok (.invokevirtual 203, 3) := by decide +kernel
theorem dX4_later_36 : decode cX4_later 36 = .ok (.aload_n 0, 1) := by decide +kernel
theorem dX4_later_37 : decode cX4_later 37 = .ok (.aload_n 0, 1) := by decide +kernel
theorem dX4_later_38 : decode cX4_later 38 = .ok (.getfield 41, 3) := by decide +kernel
theorem dX4_later_41 : decode cX4_later 41 = .ok (.invokevirtual 206, 3) := by decide +kernel
theorem dX4_later_44 : decode cX4_later 44 = .ok (.istore_n 2, 1) := by decide +kernel
theorem dX4_later_45 : decode cX4_later 45 = .ok (.aload_n 0, 1) := by decide +kernel
theorem dX4_later_46 : decode cX4_later 46 = .ok (.getfield 51, 3) := by decide +kernel
theorem dX4_later_49 : decode cX4_later 49 = .ok (.iconst 0, 1) := by decide +kernel
theorem dX4_later_50 : decode cX4_later 50 = .ok (.iload_n 2, 1) := by decide +kernel
theorem dX4_later_51 : decode cX4_later 51 = .ok (.iastore, 1) := by decide +kernel
theorem dX4_later_52 : decode cX4_later 52 = .ok (.iconst 1, 1) := by decide +kernel
theorem dX4_later_53 : decode cX4_later 53 = .ok (.istore_n 3, 1) := by decide +kernel
theorem dX4_later_54 : decode cX4_later 54 = .ok (.iconst 0, 1) := by decide +kernel
theorem dX4_later_55 : decode cX4_later 55 = .ok (.istore 4, 2) := by decide +kernel
theorem dX4_later_57 : decode cX4_later 57 = .ok (.iload 4, 2) := by decide +kernel
theorem dX4_later_59 : decode cX4_later 59 = .ok (.iload_n 1, 1) := by decide +kernel
theorem dX4_later_60 : decode cX4_later 60 = .ok (.if_icmp .ge 51, 3) := by decide +kernel
theorem dX4_later_63 : decode cX4_later 63 = .ok (.aload_n 0, 1) := by decide +kernel
theorem dX4_later_64 : decode cX4_later 64 = .ok (.getfield 41, 3) := by decide +kernel
theorem dX4_later_67 : decode cX4_later 67 = .ok (.invokevirtual 210, 3) := by decide +kernel
theorem dX4_later_70 : decode cX4_later 70 = .ok (.aload_n 0, 1) := by decide +kernel
theorem dX4_later_71 : decode cX4_later 71 = .ok (.aload_n 0, 1) := by decide +kernel
theorem dX4_later_72 : decode cX4_later 72 = .ok (.getfield 41, 3) := by decide +kernel
theorem dX4_later_75 : decode cX4_later 75 = .ok (.invokevirtual 206, 3) := by decide +kernel
theorem dX4_later_78 : decode cX4_later 78 = .ok (.istore_n 2, 1) := by decide +kernel
theorem dX4_later_79 : decode cX4_later 79 = .ok (.iload_n 3, 1) := by decide +kernel
theorem dX4_later_80 : decode cX4_later 80 = .ok (.sipush 128, 3) := by decide +kernel
theorem dX4_later_83 : decode cX4_later 83 = .ok (.if_icmp .ge 22, 3) := by decide +kernel
theorem dX4_later_86 : decode cX4_later 86 = .ok (.aload_n 0, 1) := by decide +kernel
theorem dX4_later_87 : decode cX4_later 87 = .ok (.iload_n 3, 1) := by decide +kernel
theorem dX4_later_88 : decode cX4_later 88 = .ok (.iload_n 2, 1) := by decide +kernel
theorem dX4_later_89 : decode cX4_later 89 = .ok (.invokevirtual 213, 3) := by decide +kernel
theorem dX4_later_92 : decode cX4_later 92 = .ok (.ifCond .ne 13, 3) := by decide +kernel
theorem dX4_later_95 : decode cX4_later 95 = .ok (.aload_n 0, 1) := by decide +kernel
theorem dX4_later_96 : decode cX4_later 96 = .ok (.getfield 51, 3) := by decide +kernel
theorem dX4_later_99 : decode cX4_later 99 = .ok (.iload_n 3, 1) := by decide +kernel
theorem dX4_later_100 : decode cX4_later 100 = .ok (.iload_n 2, 1) := by decide +kernel
theorem dX4_later_101 : decode cX4_later 101 = .ok (.iastore, 1) := by decide +kernel
theorem dX4_later_102 : decode cX4_later 102 = .ok (.iinc 3 1, 3) := by decide +kernel
theorem dX4_later_105 : decode cX4_later 105 = .ok (.iinc 4 1, 3) := by decide +kernel
theorem dX4_later_108 : decode cX4_later 108 = .ok (.goto (-51), 3) := by decide +kernel
theorem dX4_later_111 : decode cX4_later 111 = .ok (.aload_n 0, 1) := by decide +kernel
theorem dX4_later_112 : decode cX4_later 112 = .ok (.iload_n 3, 1) := by decide +kernel
theorem dX4_later_113 : decode cX4_later 113 = .ok (.putfield 67, 3) := by decide +kernel
theorem dX4_later_116 : decode cX4_later 116 = .ok (.iload_n 2, 1) := by decide +kernel
theorem dX4_later_117 : decode cX4_later 117 = .ok (.ireturn, 1) := by decide +kernel
theorem dX4_would_0 : decode cX4_would 0 = .ok (.iload_n 1, 1) := by decide +kernel
theorem dX4_would_1 : decode cX4_would 1 = .ok (.aload_n 0, 1) := by decide +kernel
theorem dX4_would_2 : decode cX4_would 2 = .ok (.getfield 27, 3) := by decide +kernel
theorem dX4_would_5 : decode cX4_would 5 = .ok (.invokevirtual 216, 3) := by decide +kernel
theorem dX4_would_8 : decode cX4_would 8 = .ok (.invokestatic 81, 3) := by decide +kernel
theorem dX4_would_11 : decode cX4_would 11 = .ok (.ifCond .ne 5, 3) := by decide +kernel
theorem dX4_would_14 : decode cX4_would 14 = .ok (.iconst (-1), 1) := by decide +kernel
theorem dX4_would_15 : decode cX4_would 15 = .ok (.ireturn, 1) := by decide +kernel
theorem dX4_would_16 : decode cX4_would 16 = .ok (.aload_n 0, 1) := by decide +kernel
theorem dX4_would_17 : decode cX4_would 17 = .ok (.getfield 27, 3) := by decide +kernel
theorem dX4_would_20 : decode cX4_would 20 = .ok (.getfield 137, 3) := by decide +kernel
theorem dX4_would_23 : decode cX4_would 23 = .ok (.ifCond .ne 6, 3) := by decide +kernel
theorem dX4_would_26 : decode cX4_would 26 = .ok (.bipush (-4), 2) := by decide +kernel
theorem dX4_would_28 : decode cX4_would 28 = .ok (.ireturn, 1) := by decide +kernel
theorem dX4_would_29 : decode cX4_would 29 = .ok (.aload_n 0, 1) := by decide +kernel
theorem dX4_would_30 : decode cX4_would 30 = .ok (.getfield 47, 3) := by decide +kernel
theorem dX4_would_33 : decode cX4_would 33 = .ok (.aload_n 0, 1) := by decide +kernel
theorem dX4_would_34 : decode cX4_would 34 = .ok (.getfield 27, 3) := by decide +kernel
theorem dX4_would_37 : decode cX4_would 37 = .ok (.aload_n 0, 1) := by decide +kernel
theorem dX4_would_38 : decode cX4_would 38 = .ok (.getfield 37, 3) := by decide +kernel
theorem dX4_would_41 : decode cX4_would 41 = .ok (.invokevirtual 175, 3) := by decide +kernel
theorem dX4_would_44 : decode cX4_would 44 = .ok (.aload_n 0, 1) := by decide +kernel
theorem dX4_would_45 : decode cX4_would 45 = .ok (.getfield 47, 3) := by decide +kernel
theorem dX4_would_48 : decode cX4_would 48 = .ok (.iload_n 1, 1) := by decide +kernel
theorem dX4_would_49 : decode cX4_would 49 = .ok (.invokevirtual 219, 3) := by decide +kernel
theorem dX4_would_52 : decode cX4_would 52 = .ok (.ireturn, 1) := by decide +kernel
theorem dX4_haunts_0 : decode cX4_haunts 0 = .ok (.aload_n 0, 1) := by decide +kernel
theorem dX4_haunts_1 : decode cX4_haunts 1 = .ok (.getfield 27, 3) := by decide +kernel
theorem dX4_haunts_4 : decode cX4_haunts 4 = .ok (.iload_n 1, 1) := by decide +kernel
theorem dX4_haunts_5 : decode cX4_haunts 5 = .ok (.invokevirtual 139, 3) := by decide +kernel
theorem dX4_haunts_8 : decode cX4_haunts 8 = .ok (.ifCond .ne 5, 3) := by decide +kernel
theorem dX4_haunts_11 : decode cX4_haunts 11 = .ok (.iconst (-1), 1) := by decide +kernel
theorem dX4_haunts_12 : decode cX4_haunts 12 = .ok (.ireturn, 1) := by decide +kernel
theorem dX4_haunts_13 : decode cX4_haunts 13 = .ok (.aload_n 0, 1) := by decide +kernel
theorem dX4_haunts_14 : decode cX4_haunts 14 = .ok (.getfield 27, 3) := by decide +kernel
theorem dX4_haunts_17 : decode cX4_haunts 17 = .ok (.invokevirtual 216, 3) := by decide +kernel
theorem dX4_haunts_20 : decode cX4_haunts 20 = .ok (.istore_n 2, 1) := by decide +kernel
theorem dX4_haunts_21 : decode cX4_haunts 21 = .ok (.bipush 8, 2) := by decide +kernel
theorem dX4_haunts_23 : decode cX4_haunts 23 = .ok (.istore_n 3, 1) := by decide +kernel
theorem dX4_haunts_24 : decode cX4_haunts 24 = .ok (.bipush (-9), 2) := by decide +kernel
theorem dX4_haunts_26 : decode cX4_haunts 26 = .ok (.istore 4, 2) := by decide +kernel
theorem dX4_haunts_28 : decode cX4_haunts 28 = .ok (.aload_n 0, 1) := by decide +kernel
theorem dX4_haunts_29 : decode cX4_haunts 29 = .ok (.getfield 47, 3) := by decide +kernel
theorem dX4_haunts_32 : decode cX4_haunts 32 = .ok (.aload_n 0, 1) := by decide +kernel
theorem dX4_haunts_33 : decode cX4_haunts 33 = .ok (.getfield 27, 3) := by decide +kernel
theorem dX4_haunts_36 : decode cX4_haunts 36 = .ok (.aload_n 0, 1) := by decide +kernel
theorem dX4_haunts_37 : decode cX4_haunts 37 = .ok (.getfield 37, 3) := by decide +kernel
theorem dX4_haunts_40 : decode cX4_haunts 40 = .ok (.invokevirtual 175, 3) := by decide +kernel
theorem dX4_haunts_43 : decode cX4_haunts 43 = .ok (.iconst 0, 1) := by decide +kernel
theorem dX4_haunts_44 : decode cX4_haunts 44 = .ok (.istore 5, 2) := by decide +kernel
theorem dX4_haunts_46 : decode cX4_haunts 46 = .ok (.iload 5, 2) := by decide +kernel
theorem dX4_haunts_48 : decode cX4_haunts 48 = .ok (.iload_n 2, 1) := by decide +kernel
theorem dX4_haunts_49 : decode cX4_haunts 49 = .ok (.if_icmp .ge 54, 3) := by decide +kernel
theorem dX4_haunts_52 : decode cX4_haunts 52 = .ok (.iload 5, 2) := by decide +kernel
theorem dX4_haunts_54 : decode cX4_haunts 54 = .ok (.invokestatic 156, 3) := by decide +kernel
theorem dX4_haunts_57 : decode cX4_haunts 57 = .ok (.istore 6, 2) := by decide +kernel
theorem dX4_haunts_59 : decode cX4_haunts 59 = .ok (.iload 5, 2) := by decide +kernel
theorem dX4_haunts_61 : decode cX4_haunts 61 = .ok (.iload_n 1, 1) := by decide +kernel
theorem dX4_haunts_62 : decode cX4_haunts 62 = .ok (.invokestatic 222, 3) := by decide +kernel
theorem dX4_haunts_65 : decode cX4_haunts 65 = .ok (.ifCond .ne 32, 3) := by decide +kernel
theorem dX4_haunts_68 : decode cX4_haunts 68 = .ok (.iload 6, 2) := by decide +kernel
theorem dX4_haunts_70 : decode cX4_haunts 70 = .ok (.iload_n 3, 1) := by decide +kernel
theorem dX4_haunts_71 : decode cX4_haunts 71 = .ok (.if_icmp .ge 26, 3) := by decide +kernel
theorem dX4_haunts_74 : decode cX4_haunts 74 = .ok (.aload_n 0, 1) := by decide +kernel
theorem dX4_haunts_75 : decode cX4_haunts 75 = .ok (.getfield 47, 3) := by decide +kernel
theorem dX4_haunts_78 : decode cX4_haunts 78 = .ok (.iload 5, 2) := by decide +kernel
theorem dX4_haunts_80 : decode cX4_haunts 80 = .ok (.invokevirtual 219, 3) := by decide +kernel
theorem dX4_haunts_83 : decode cX4_haunts 83 = .ok (.iload_n 1, 1) := by decide +kernel
theorem dX4_haunts_84 : decode cX4_haunts 84 = .ok (.invokestatic 222, 3) := by decide +kernel
theorem dX4_haunts_87 : decode cX4_haunts 87 = .ok (.ifCond .eq 10, 3) := by decide +kernel
theorem dX4_haunts_90 : decode cX4_haunts 90 = .ok (.iload 6, 2) := by decide +kernel
theorem dX4_haunts_92 : decode cX4_haunts 92 = .ok (.istore_n 3, 1) := by decide +kernel
theorem dX4_haunts_93 : decode cX4_haunts 93 = .ok (.iload 5, 2) := by decide +kernel
theorem dX4_haunts_95 : decode cX4_haunts 95 = .ok (.istore 4, 2) := by decide +kernel
theorem dX4_haunts_97 : decode cX4_haunts 97 = .ok (.iinc 5 1, 3) := by decide +kernel
theorem dX4_haunts_100 : decode cX4_haunts 100 = .ok (.goto (-54), 3) := by decide +kernel
theorem dX4_haunts_103 : decode cX4_haunts 103 = .ok (.iload 4, 2) := by decide +kernel
theorem dX4_haunts_105 : decode cX4_haunts 105 = .ok (.bipush (-9), 2) := by decide +kernel
theorem dX4_haunts_107 : decode cX4_haunts 107 = .ok (.if_icmp .eq 8, 3) := by decide +kernel
theorem dX4_haunts_110 : decode cX4_haunts 110 = .ok (.aload_n 0, 1) := by decide +kernel
theorem dX4_haunts_111 : decode cX4_haunts 111 = .ok (.iload_n 3, 1) := by decide +kernel
theorem dX4_haunts_112 : decode cX4_haunts 112 = .ok (.putfield 67, 3) := by decide +kernel
theorem dX4_haunts_115 : decode cX4_haunts 115 = .ok (.iload 4, 2) := by decide +kernel
theorem dX4_haunts_117 : decode cX4_haunts 117 = .ok (.ireturn, 1) := by decide +kernel
theorem dX4_right_0 : decode cX4_right 0 = .ok (.aload_n 0, 1) := by decide +kernel
theorem dX4_right_1 : decode cX4_right 1 = .ok (.getfield 27, 3) := by decide +kernel
theorem dX4_right_4 : decode cX4_right 4 = .ok (.getfield 137, 3) := by decide +kernel
theorem dX4_right_7 : decode cX4_right 7 = .ok (.ifCond .ne 6, 3) := by decide +kernel
theorem dX4_right_10 : decode cX4_right 10 = .ok (.bipush (-4), 2) := by decide +kernel
theorem dX4_right_12 : decode cX4_right 12 = .ok (.ireturn, 1) := by decide +kernel
theorem dX4_right_13 : decode cX4_right 13 = .ok (.aload_n 0, 1) := by decide +kernel
theorem dX4_right_14 : decode cX4_right 14 = .ok (.invokevirtual 225, 3) := by decide +kernel
theorem dX4_right_17 : decode cX4_right 17 = .ok (.aload_n 0, 1) := by decide +kernel
theorem dX4_right_18 : decode cX4_right 18 = .ok (.getfield 27, 3) := by decide +kernel
theorem dX4_right_21 : decode cX4_right 21 = .ok (.invokevirtual 216, 3) := by decide +kernel
theorem dX4_right_24 : decode cX4_right 24 = .ok (.istore_n 1, 1) := by decide +kernel
theorem dX4_right_25 : decode cX4_right 25 = .ok (.iconst 0, 1) := by decide +kernel
theorem dX4_right_26 : decode cX4_right 26 = .ok (.istore_n 2, 1) := by decide +kernel
theorem dX4_right_27 : decode cX4_right 27 = .ok (.aload_n 0, 1) := by decide +kernel
theorem dX4_right_28 : decode cX4_right 28 = .ok (.getfield 27, 3) := by decide +kernel
theorem dX4_right_31 : decode cX4_right 31 = .ok (.getfield 137, 3) := by decide +kernel
theorem dX4_right_34 : decode cX4_right 34 = .ok (.iconst 1, 1) := by decide +kernel
theorem dX4_right_35 : decode cX4_right 35 = .ok (.iadd, 1) := by decide +kernel
theorem dX4_right_36 : decode cX4_right 36 = .ok (.istore_n 3, 1) := by decide +kernel
theorem dX4_right_37 : decode cX4_right 37 = .ok (.iconst 0, 1) := by decide +kernel
theorem dX4_right_38 : decode cX4_right 38 = .ok (.istore 4, 2) := by decide +kernel
theorem dX4_right_40 : decode cX4_right 40 = .ok (.iload 4, 2) := by decide +kernel
theorem dX4_right_42 : decode cX4_right 42 = .ok (.iload_n 1, 1) := by decide +kernel
theorem dX4_right_43 : decode cX4_right 43 = .ok (.if_icmp .ge 37, 3) := by decide +kernel
theorem dX4_right_46 : decode cX4_right 46 = .ok (.aload_n 0, 1) := by decide +kernel
theorem dX4_right_47 : decode cX4_right 47 = .ok (.getfield 51, 3) := by decide +kernel
theorem dX4_right_50 : decode cX4_right 50 = .ok (.iload 4, 2) := by decide +kernel
theorem dX4_right_52 : decode cX4_right 52 = .ok (.iaload, 1) := by decide +kernel
theorem dX4_right_53 : decode cX4_right 53 = .ok (.iload 4, 2) := by decide +kernel
theorem dX4_right_55 : decode cX4_right 55 = .ok (.if_icmp .ne 9, 3) := by decide +kernel
theorem dX4_right_58 : decode cX4_right 58 = .ok (.iinc 2 1, 3) := by decide +kernel
theorem dX4_right_61 : decode cX4_right 61 = .ok (.goto 13, 3) := by decide +kernel
theorem dX4_right_64 : decode cX4_right 64 = .ok (.iload_n 3, 1) := by decide +kernel
theorem dX4_right_65 : decode cX4_right 65 = .ok (.iload 4, 2) := by decide +kernel
theorem dX4_right_67 : decode cX4_right 67 = .ok (.invokestatic 156, 3) := by decide +kernel
theorem dX4_right_70 : decode cX4_right 70 = .ok (.invokestatic 228, 3) := by decide +kernel
theorem dX4_right_73 : decode cX4_right 73 = .ok (.istore_n 3, 1) := by decide +kernel
theorem dX4_right_74 : decode cX4_right 74 = .ok (.iinc 4 1, 3) := by decide +kernel
theorem dX4_right_77 : decode cX4_right 77 = .ok (.goto (-37), 3) := by decide +kernel
theorem dX4_right_80 : decode cX4_right 80 = .ok (.aload_n 0, 1) := by decide +kernel
theorem dX4_right_81 : decode cX4_right 81 = .ok (.iload_n 3, 1) := by decide +kernel
theorem dX4_right_82 : decode cX4_right 82 = .ok (.iconst 1, 1) := by decide +kernel
theorem dX4_right_83 : decode cX4_right 83 = .ok (.isub, 1) := by decide +kernel
theorem dX4_right_84 : decode cX4_right 84 = .ok (.putfield 67, 3) := by decide +kernel
theorem dX4_right_87 : decode cX4_right 87 = .ok (.iload_n 2, 1) := by decide +kernel
theorem dX4_right_88 : decode cX4_right 88 = .ok (.ireturn, 1) := by decide +kernel
theorem dX4_alike_0 : decode cX4_alike 0 = .ok (.aload_n 0, 1) := by decide +kernel
theorem dX4_alike_1 : decode cX4_alike 1 = .ok (.getfield 27, 3) := by decide +kernel
theorem dX4_alike_4 : decode cX4_alike 4 = .ok (.getfield 137, 3) := by decide +kernel
theorem dX4_alike_7 : decode cX4_alike 7 = .ok (.ifCond .ne 6, 3) := by decide +kernel
theorem dX4_alike_10 : decode cX4_alike 10 = .ok (.bipush (-4), 2) := by decide +kernel
theorem dX4_alike_12 : decode cX4_alike 12 = .ok (.ireturn, 1) := by decide +kernel
theorem dX4_alike_13 : decode cX4_alike 13 = .ok (.aload_n 0, 1) := by decide +kernel
theorem dX4_alike_14 : decode cX4_alike 14 = .ok (.invokevirtual 225, 3) := by decide +kernel
theorem dX4_alike_17 : decode cX4_alike 17 = .ok (.aload_n 0, 1) := by decide +kernel
theorem dX4_alike_18 : decode cX4_alike 18 = .ok (.getfield 27, 3) := by decide +kernel
theorem dX4_alike_21 : decode cX4_alike 21 = .ok (.invokevirtual 216, 3) := by decide +kernel
theorem dX4_alike_24 : decode cX4_alike 24 = .ok (.istore_n 1, 1) := by decide +kernel
theorem dX4_alike_25 : decode cX4_alike 25 = .ok (.aload_n 0, 1) := by decide +kernel
theorem dX4_alike_26 : decode cX4_alike 26 = .ok (.invokevirtual 152, 3) := by decide +kernel
theorem dX4_alike_29 : decode cX4_alike 29 = .ok (.istore_n 2, 1) := by decide +kernel
theorem dX4_alike_30 : decode cX4_alike 30 = .ok (.bipush (-9), 2) := by decide +kernel
theorem dX4_alike_32 : decode cX4_alike 32 = .ok (.istore_n 3, 1) := by decide +kernel
theorem dX4_alike_33 : decode cX4_alike 33 = .ok (.iconst 0, 1) := by decide +kernel
theorem dX4_alike_34 : decode cX4_alike 34 = .ok (.istore 4, 2) := by decide +kernel
theorem dX4_alike_36 : decode cX4_alike 36 = .ok (.iconst 0, 1) := by decide +kernel
theorem dX4_alike_37 : decode cX4_alike 37 = .ok (.istore 5, 2) := by decide +kernel
theorem dX4_alike_39 : decode cX4_alike 39 = .ok (.iload 5, 2) := by decide +kernel
theorem dX4_alike_41 : decode cX4_alike 41 = .ok (.iload_n 1, 1) := by decide +kernel
theorem dX4_alike_42 : decode cX4_alike 42 = .ok (.if_icmp .ge 36, 3) := by decide +kernel
theorem dX4_alike_45 : decode cX4_alike 45 = .ok (.aload_n 0, 1) := by decide +kernel
theorem dX4_alike_46 : decode cX4_alike 46 = .ok (.getfield 51, 3) := by decide +kernel
theorem dX4_alike_49 : decode cX4_alike 49 = .ok (.iload 5, 2) := by decide +kernel
theorem dX4_alike_51 : decode cX4_alike 51 = .ok (.iaload, 1) := by decide +kernel
theorem dX4_alike_52 : decode cX4_alike 52 = .ok (.iload_n 2, 1) := by decide +kernel
theorem dX4_alike_53 : decode cX4_alike 53 = .ok (.if_icmp .ne 19, 3) := by decide +kernel
theorem dX4_alike_56 : decode cX4_alike 56 = .ok (.iload_n 3, 1) := by decide +kernel
theorem dX4_alike_57 : decode cX4_alike 57 = .ok (.bipush (-9), 2) := by decide +kernel
theorem dX4_alike_59 : decode cX4_alike 59 = .ok (.if_icmp .ne 8, 3) := by decide +kernel
theorem dX4_alike_62 : decode cX4_alike 62 = .ok (.iload 5, 2) := by decide +kernel
theorem dX4_alike_64 : decode cX4_alike 64 = .ok (.goto 4, 3) := by decide +kernel
theorem dX4_alike_67 : decode cX4_alike 67 = .ok (.iload_n 3, 1) := by decide +kernel
theorem dX4_alike_68 : decode cX4_alike 68 = .ok (.istore_n 3, 1) := by decide +kernel
theorem dX4_alike_69 : decode cX4_alike 69 = .ok (.iinc 4 1, 3) := by decide +kernel
theorem dX4_alike_72 : decode cX4_alike 72 = .ok (.iinc 5 1, 3) := by decide +kernel
theorem dX4_alike_75 : decode cX4_alike 75 = .ok (.goto (-36), 3) := by decide +kernel
theorem dX4_alike_78 : decode cX4_alike 78 = .ok (.aload_n 0, 1) := by decide +kernel
theorem dX4_alike_79 : decode cX4_alike 79 = .ok (.iload_n 3, 1) := by decide +kernel
theorem dX4_alike_80 : decode cX4_alike 80 = .ok (.putfield 67, 3) := by decide +kernel
theorem dX4_alike_83 : decode cX4_alike 83 = .ok (.iload 4, 2) := by decide +kernel
theorem dX4_alike_85 : decode cX4_alike 85 = .ok (.ireturn, 1) := by decide +kernel
theorem dX4_best_0 : decode cX4_best 0 = .ok (.aload_n 0, 1) := by decide +kernel
theorem dX4_best_1 : decode cX4_best 1 = .ok (.getfield 27, 3) := by decide +kernel
theorem dX4_best_4 : decode cX4_best 4 = .ok (.getfield 137, 3) := by decide +kernel
theorem dX4_best_7 : decode cX4_best 7 = .ok (.ifCond .ne 6, 3) := by decide +kernel
theorem dX4_best_10 : decode cX4_best 10 = .ok (.bipush (-4), 2) := by decide +kernel
theorem dX4_best_12 : decode cX4_best 12 = .ok (.ireturn, 1) := by decide +kernel
theorem dX4_best_13 : decode cX4_best 13 = .ok (.aload_n 0, 1) := by decide +kernel
theorem dX4_best_14 : decode cX4_best 14 = .ok (.aload_n 0, 1) := by decide +kernel
theorem dX4_best_15 : decode cX4_best 15 = .ok (.getfield 27, 3) := by decide +kernel
theorem dX4_best_18 : decode cX4_best 18 = .ok (.invokevirtual 231, 3) := by decide +kernel
theorem dX4_best_21 : decode cX4_best 21 = .ok (.istore_n 1, 1) := by decide +kernel
theorem dX4_best_22 : decode cX4_best 22 = .ok (.bipush (-9), 2) := by decide +kernel
theorem dX4_best_24 : decode cX4_best 24 = .ok (.istore_n 2, 1) := by decide +kernel
theorem dX4_best_25 : decode cX4_best 25 = .ok (.iconst 0, 1) := by decide +kernel
theorem dX4_best_26 : decode cX4_best 26 = .ok (.istore_n 3, 1) := by decide +kernel
theorem dX4_best_27 : decode cX4_best 27 = .ok (.iload_n 3, 1) := by decide +kernel
theorem dX4_best_28 : decode cX4_best 28 = .ok (.aload_n 0, 1) := by decide +kernel
theorem dX4_best_29 : decode cX4_best 29 = .ok (.getfield 27, 3) := by decide +kernel
theorem dX4_best_32 : decode cX4_best 32 = .ok (.getfield 137, 3) := by decide +kernel
theorem dX4_best_35 : decode cX4_best 35 = .ok (.if_icmp .ge 50, 3) := by decide +kernel
theorem dX4_best_38 : decode cX4_best 38 = .ok (.aload_n 0, 1) := by decide +kernel
theorem dX4_best_39 : decode cX4_best 39 = .ok (.getfield 31, 3) := by decide +kernel
theorem dX4_best_42 : decode cX4_best 42 = .ok (.aload_n 0, 1) := by decide +kernel
theorem dX4_best_43 : decode cX4_best 43 = .ok (.getfield 27, 3) := by decide +kernel
theorem dX4_best_46 : decode cX4_best 46 = .ok (.invokevirtual 130, 3) := by decide +kernel
theorem dX4_best_49 : decode cX4_best 49 = .ok (.aload_n 0, 1) := by decide +kernel
theorem dX4_best_50 : decode cX4_best 50 = .ok (.getfield 31, 3) := by decide +kernel
theorem dX4_best_53 : decode cX4_best 53 = .ok (.iload_n 3, 1) := by decide +kernel
theorem dX4_best_54 : decode cX4_best 54 = .ok (.iconst 1, 1) := by decide +kernel
theorem dX4_best_55 : decode cX4_best 55 = .ok (.invokevirtual 235, 3) := by decide +kernel
theorem dX4_best_58 : decode cX4_best 58 = .ok (.aload_n 0, 1) := by decide +kernel
theorem dX4_best_59 : decode cX4_best 59 = .ok (.aload_n 0, 1) := by decide +kernel
theorem dX4_best_60 : decode cX4_best 60 = .ok (.getfield 31, 3) := by decide +kernel
theorem dX4_best_63 : decode cX4_best 63 = .ok (.invokevirtual 231, 3) := by decide +kernel
theorem dX4_best_66 : decode cX4_best 66 = .ok (.istore 4, 2) := by decide +kernel
theorem dX4_best_68 : decode cX4_best 68 = .ok (.iload 4, 2) := by decide +kernel
theorem dX4_best_70 : decode cX4_best 70 = .ok (.iload_n 1, 1) := by decide +kernel
theorem dX4_best_71 : decode cX4_best 71 = .ok (.if_icmp .le 8, 3) := by decide +kernel
theorem dX4_best_74 : decode cX4_best 74 = .ok (.iload 4, 2) := by decide +kernel
theorem dX4_best_76 : decode cX4_best 76 = .ok (.istore_n 1, 1) := by decide +kernel
theorem dX4_best_77 : decode cX4_best 77 = .ok (.iload_n 3, 1) := by decide +kernel
theorem dX4_best_78 : decode cX4_best 78 = .ok (.istore_n 2, 1) := by decide +kernel
theorem dX4_best_79 : decode cX4_best 79 = .ok (.iinc 3 1, 3) := by decide +kernel
theorem dX4_best_82 : decode cX4_best 82 = .ok (.goto (-55), 3) := by decide +kernel
theorem dX4_best_85 : decode cX4_best 85 = .ok (.iload_n 2, 1) := by decide +kernel
theorem dX4_best_86 : decode cX4_best 86 = .ok (.bipush (-9), 2) := by decide +kernel
theorem dX4_best_88 : decode cX4_best 88 = .ok (.if_icmp .eq 8, 3) := by decide +kernel
theorem dX4_best_91 : decode cX4_best 91 = .ok (.aload_n 0, 1) := by decide +kernel
theorem dX4_best_92 : decode cX4_best 92 = .ok (.iload_n 1, 1) := by decide +kernel
theorem dX4_best_93 : decode cX4_best 93 = .ok (.putfield 67, 3) := by decide +kernel
theorem dX4_best_96 : decode cX4_best 96 = .ok (.iload_n 2, 1) := by decide +kernel
theorem dX4_best_97 : decode cX4_best 97 = .ok (.ireturn, 1) := by decide +kernel
theorem dX4_kinds_0 : decode cX4_kinds 0 = .ok (.aload_n 0, 1) := by decide +kernel
theorem dX4_kinds_1 : decode cX4_kinds 1 = .ok (.iload_n 1, 1) := by decide +kernel
theorem dX4_kinds_2 : decode cX4_kinds 2 = .ok (.iload_n 2, 1) := by decide +kernel
theorem dX4_kinds_3 : decode cX4_kinds 3 = .ok (.invokevirtual 238, 3) := by decide +kernel
theorem dX4_kinds_6 : decode cX4_kinds 6 = .ok (.istore_n 3, 1) := by decide +kernel
theorem dX4_kinds_7 : decode cX4_kinds 7 = .ok (.iload_n 3, 1) := by decide +kernel
theorem dX4_kinds_8 : decode cX4_kinds 8 = .ok (.ifCond .eq 7, 3) := by decide +kernel
theorem dX4_kinds_11 : decode cX4_kinds 11 = .ok (.iload_n 3, 1) := by decide +kernel
theorem dX4_kinds_12 : decode cX4_kinds 12 = .ok (.goto 9, 3) := by decide +kernel
theorem dX4_kinds_15 : decode cX4_kinds 15 = .ok (.aload_n 0, 1) := by decide +kernel
theorem dX4_kinds_16 : decode cX4_kinds 16 = .ok (.iload_n 1, 1) := by decide +kernel
theorem dX4_kinds_17 : decode cX4_kinds 17 = .ok (.iload_n 2, 1) := by decide +kernel
theorem dX4_kinds_18 : decode cX4_kinds 18 = .ok (.invokevirtual 241, 3) := by decide +kernel
theorem dX4_kinds_21 : decode cX4_kinds 21 = .ok (.ireturn, 1) := by decide +kernel
theorem dX4_places_0 : decode cX4_places 0 = .ok (.aload_n 0, 1) := by decide +kernel
theorem dX4_places_1 : decode cX4_places 1 = .ok (.iload_n 1, 1) := by decide +kernel
theorem dX4_places_2 : decode cX4_places 2 = .ok (.iload_n 2, 1) := by decide +kernel
theorem dX4_places_3 : decode cX4_places 3 = .ok (.invokevirtual 238, 3) := by decide +kernel
theorem dX4_places_6 : decode cX4_places 6 = .ok (.istore_n 3, 1) := by decide +kernel
theorem dX4_places_7 : decode cX4_places 7 = .ok (.iload_n 3, 1) := by decide +kernel
theorem dX4_places_8 : decode cX4_places 8 = .ok (.ifCond .eq 5, 3) := by decide +kernel
theorem dX4_places_11 : decode cX4_places 11 = .ok (.iload_n 3, 1) := by decide +kernel
theorem dX4_places_12 : decode cX4_places 12 = .ok (.ireturn, 1) := by decide +kernel
theorem dX4_places_13 : decode cX4_places 13 = .ok (.iconst 0, 1) := by decide +kernel
theorem dX4_places_14 : decode cX4_places 14 = .ok (.istore 4, 2) := by decide +kernel
theorem dX4_places_16 : decode cX4_places 16 = .ok (.bipush (-9), 2) := by decide +kernel
theorem dX4_places_18 : decode cX4_places 18 = .ok (.istore 5, 2) := by decide +kernel
theorem dX4_places_20 : decode cX4_places 20 = .ok (.aload_n 0, 1) := by decide +kernel
theorem dX4_places_21 : decode cX4_places 21 = .ok (.getfield 31, 3) := by decide +kernel
theorem dX4_places_24 : decode cX4_places 24 = .ok (.aload_n 0, 1) := by decide +kernel
theorem dX4_places_25 : decode cX4_places 25 = .ok (.getfield 27, 3) := by decide +kernel
theorem dX4_places_28 : decode cX4_places 28 = .ok (.invokevirtual 130, 3) := by decide +kernel
theorem dX4_places_31 : decode cX4_places 31 = .ok (.iconst 0, 1) := by decide +kernel
theorem dX4_places_32 : decode cX4_places 32 = .ok (.istore 6, 2) := by decide +kernel
theorem dX4_places_34 : decode cX4_places 34 = .ok (.iload 6, 2) := by decide +kernel
theorem dX4_places_36 : decode cX4_places 36 = .ok (.iconst 4, 1) := by decide +kernel
theorem dX4_places_37 : decode cX4_places 37 = .ok (.if_icmp .ge 100, 3) := by decide +kernel
theorem dX4_places_40 : decode cX4_places 40 = .ok (.iconst 0, 1) := by decide +kernel
theorem dX4_places_41 : decode cX4_places 41 = .ok (.istore 7, 2) := by decide +kernel
theorem dX4_places_43 : decode cX4_places 43 = .ok (.iload 7, 2) := by decide +kernel
theorem dX4_places_45 : decode cX4_places 45 = .ok (.bipush 6, 2) := by decide +kernel
theorem dX4_places_47 : decode cX4_places 47 = .ok (.if_icmp .ge 84, 3) := by decide +kernel
theorem dX4_places_50 : decode cX4_places 50 = .ok (.aload_n 0, 1) := by decide +kernel
theorem dX4_places_51 : decode cX4_places 51 = .ok (.getfield 27, 3) := by decide +kernel
theorem dX4_places_54 : decode cX4_places 54 = .ok (.iload 6, 2) := by decide +kernel
theorem dX4_places_56 : decode cX4_places 56 = .ok (.iload 7, 2) := by decide +kernel
theorem dX4_places_58 : decode cX4_places 58 = .ok (.invokevirtual 244, 3) := by decide +kernel
theorem dX4_places_61 : decode cX4_places 61 = .ok (.istore 8, 2) := by decide +kernel
theorem dX4_places_63 : decode cX4_places 63 = .ok (.aload_n 0, 1) := by decide +kernel
theorem dX4_places_64 : decode cX4_places 64 = .ok (.getfield 31, 3) := by decide +kernel
theorem dX4_places_67 : decode cX4_places 67 = .ok (.iload_n 1, 1) := by decide +kernel
theorem dX4_places_68 : decode cX4_places 68 = .ok (.iload 6, 2) := by decide +kernel
theorem dX4_places_70 : decode cX4_places 70 = .ok (.iload 7, 2) := by decide +kernel
theorem dX4_places_72 : decode cX4_places 72 = .ok (.invokevirtual 247, 3) := by decide +kernel
theorem dX4_places_75 : decode cX4_places 75 = .ok (.iload 8, 2) := by decide +kernel
theorem dX4_places_77 : decode cX4_places 77 = .ok (.bipush (-9), 2) := by decide +kernel
theorem dX4_places_79 : decode cX4_places 79 = .ok (.if_icmp .eq 9, 3) := by decide +kernel
theorem dX4_places_82 : decode cX4_places 82 = .ok (.iload 8, 2) := by decide +kernel
theorem dX4_places_84 : decode cX4_places 84 = .ok (.iload_n 1, 1) := by decide +kernel
theorem dX4_places_85 : decode cX4_places 85 = .ok (.if_icmp .ne 40, 3) := by decide +kernel
theorem dX4_places_88 : decode cX4_places 88 = .ok (.aload_n 0, 1) := by decide +kernel
theorem dX4_places_89 : decode cX4_places 89 = .ok (.aload_n 0, 1) := by decide +kernel
theorem dX4_places_90 : decode cX4_places 90 = .ok (.getfield 31, 3) := by decide +kernel
theorem dX4_places_93 : decode cX4_places 93 = .ok (.iload_n 2, 1) := by decide +kernel
theorem dX4_places_94 : decode cX4_places 94 = .ok (.invokevirtual 250, 3) := by decide +kernel
theorem dX4_places_97 : decode cX4_places 97 = .ok (.ifCond .eq 28, 3) := by decide +kernel
theorem dX4_places_100 : decode cX4_places 100 = .ok (.iload 5, 2) := by decide +kernel
theorem dX4_places_102 : decode cX4_places 102 = .ok (.bipush (-9), 2) := by decide +kernel
theorem dX4_places_104 : decode cX4_places 104 = .ok (.if_icmp .ne 14, 3) := by decide +kernel
theorem dX4_places_107 : decode cX4_places 107 = .ok (.bipush 10, 2) := by decide +kernel
theorem dX4_places_109 : decode cX4_places 109 = .ok (.iload 6, 2) := by decide +kernel
theorem dX4_places_111 : decode cX4_places 111 = .ok (.imul, 1) := by decide +kernel
theorem dX4_places_112 : decode cX4_places 112 = .ok (.iload 7, 2) := by decide +kernel
theorem dX4_places_114 : decode cX4_places 114 = .ok (.iadd, 1) := by decide +kernel
theorem dX4_places_115 : decode cX4_places 115 = .ok (.goto 5, 3) := by decide +kernel
theorem dX4_places_118 : decode cX4_places 118 = .ok (.iload 5, 2) := by decide +kernel
theorem dX4_places_120 : decode cX4_places 120 = .ok (.istore 5, 2) := by decide +kernel
theorem dX4_places_122 : decode cX4_places 122 = .ok (.iinc 4 1, 3) := by decide +kernel
theorem dX4_places_125 : decode cX4_places 125 = .ok (.iinc 7 1, 3) := by decide +kernel
theorem dX4_places_128 : decode cX4_places 128 = .ok (.goto (-85), 3) := by decide +kernel
theorem dX4_places_131 : decode cX4_places 131 = .ok (.iinc 6 1, 3) := by decide +kernel
theorem dX4_places_134 : decode cX4_places 134 = .ok (.goto (-100), 3) := by decide +kernel
theorem dX4_places_137 : decode cX4_places 137 = .ok (.iload 4, 2) := by decide +kernel
theorem dX4_places_139 : decode cX4_places 139 = .ok (.ifCond .ne 6, 3) := by decide +kernel
theorem dX4_places_142 : decode cX4_places 142 = .ok (.bipush (-9), 2) := by decide +kernel
theorem dX4_places_144 : decode cX4_places 144 = .ok (.ireturn, 1) := by decide +kernel
theorem dX4_places_145 : decode cX4_places 145 = .ok (.aload_n 0, 1) := by decide +kernel
theorem dX4_places_146 : decode cX4_places 146 = .ok (.iload 5, 2) := by decide +kernel
theorem dX4_places_148 : decode cX4_places 148 = .ok (.putfield 67, 3) := by decide +kernel
theorem dX4_places_151 : decode cX4_places 151 = .ok (.iload 4, 2) := by decide +kernel
theorem dX4_places_153 : decode cX4_places 153 = .ok (.ireturn, 1) := by decide +kernel
theorem dX4_test_0 : decode cX4_test 0 = .ok (.aload_n 0, 1) := by decide +kernel
theorem dX4_test_1 : decode cX4_test 1 = .ok (.iload_n 1, 1) := by decide +kernel
theorem dX4_test_2 : decode cX4_test 2 = .ok (.iload_n 2, 1) := by decide +kernel
theorem dX4_test_3 : decode cX4_test 3 = .ok (.invokevirtual 238, 3) := by decide +kernel
theorem dX4_test_6 : decode cX4_test 6 = .ok (.istore_n 3, 1) := by decide +kernel
theorem dX4_test_7 : decode cX4_test 7 = .ok (.iload_n 3, 1) := by decide +kernel
theorem dX4_test_8 : decode cX4_test 8 = .ok (.ifCond .eq 5, 3) := by decide +kernel
theorem dX4_test_11 : decode cX4_test 11 = .ok (.iload_n 3, 1) := by decide +kernel
theorem dX4_test_12 : decode cX4_test 12 = .ok (.ireturn, 1) := by decide +kernel
theorem dX4_test_13 : decode cX4_test 13 = .ok (.aload_n 0, 1) := by decide +kernel
theorem dX4_test_14 : decode cX4_test 14 = .ok (.iload_n 1, 1) := by decide +kernel
theorem dX4_test_15 : decode cX4_test 15 = .ok (.iload_n 2, 1) := by decide +kernel
theorem dX4_test_16 : decode cX4_test 16 = .ok (.invokevirtual 241, 3) := by decide +kernel
theorem dX4_test_19 : decode cX4_test 19 = .ok (.istore 4, 2) := by decide +kernel
theorem dX4_test_21 : decode cX4_test 21 = .ok (.iload 4, 2) := by decide +kernel
theorem dX4_test_23 : decode cX4_test 23 = .ok (.ifCond .ne 6, 3) := by decide +kernel
theorem dX4_test_26 : decode cX4_test 26 = .ok (.bipush (-9), 2) := by decide +kernel
theorem dX4_test_28 : decode cX4_test 28 = .ok (.ireturn, 1) := by decide +kernel
theorem dX4_test_29 : decode cX4_test 29 = .ok (.aload_n 0, 1) := by decide +kernel
theorem dX4_test_30 : decode cX4_test 30 = .ok (.iload_n 1, 1) := by decide +kernel
theorem dX4_test_31 : decode cX4_test 31 = .ok (.iload 4, 2) := by decide +kernel
theorem dX4_test_33 : decode cX4_test 33 = .ok (.invokevirtual 254, 3) := by decide +kernel
theorem dX4_test_36 : decode cX4_test 36 = .ok (.aload_n 0, 1) := by decide +kernel
theorem dX4_test_37 : decode cX4_test 37 = .ok (.getfield 27, 3) := by decide +kernel
theorem dX4_test_40 : decode cX4_test 40 = .ok (.invokevirtual 216, 3) := by decide +kernel
theorem dX4_test_43 : decode cX4_test 43 = .ok (.istore 5, 2) := by decide +kernel
theorem dX4_test_45 : decode cX4_test 45 = .ok (.bipush 7, 2) := by decide +kernel
theorem dX4_test_47 : decode cX4_test 47 = .ok (.istore 6, 2) := by decide +kernel
theorem dX4_test_49 : decode cX4_test 49 = .ok (.iconst 0, 1) := by decide +kernel
theorem dX4_test_50 : decode cX4_test 50 = .ok (.istore 7, 2) := by decide +kernel
theorem dX4_test_52 : decode cX4_test 52 = .ok (.iconst 0, 1) := by decide +kernel
theorem dX4_test_53 : decode cX4_test 53 = .ok (.istore 8, 2) := by decide +kernel
theorem dX4_test_55 : decode cX4_test 55 = .ok (.iload 8, 2) := by decide +kernel
theorem dX4_test_57 : decode cX4_test 57 = .ok (.iload 5, 2) := by decide +kernel
theorem dX4_test_59 : decode cX4_test 59 = .ok (.if_icmp .ge 34, 3) := by decide +kernel
theorem dX4_test_62 : decode cX4_test 62 = .ok (.aload_n 0, 1) := by decide +kernel
theorem dX4_test_63 : decode cX4_test 63 = .ok (.iload 4, 2) := by decide +kernel
theorem dX4_test_65 : decode cX4_test 65 = .ok (.iload 8, 2) := by decide +kernel
theorem dX4_test_67 : decode cX4_test 67 = .ok (.invokevirtual 257, 3) := by decide +kernel
theorem dX4_test_70 : decode cX4_test 70 = .ok (.istore 9, 2) := by decide +kernel
theorem dX4_test_72 : decode cX4_test 72 = .ok (.iload 9, 2) := by decide +kernel
theorem dX4_test_74 : decode cX4_test 74 = .ok (.iload 6, 2) := by decide +kernel
theorem dX4_test_76 : decode cX4_test 76 = .ok (.if_icmp .ge 11, 3) := by decide +kernel
theorem dX4_test_79 : decode cX4_test 79 = .ok (.iload 9, 2) := by decide +kernel
theorem dX4_test_81 : decode cX4_test 81 = .ok (.istore 6, 2) := by decide +kernel
theorem dX4_test_83 : decode cX4_test 83 = .ok (.iload 8, 2) := by decide +kernel
theorem dX4_test_85 : decode cX4_test 85 = .ok (.istore 7, 2) := by decide +kernel
theorem dX4_test_87 : decode cX4_test 87 = .ok (.iinc 8 1, 3) := by decide +kernel
theorem dX4_test_90 : decode cX4_test 90 = .ok (.goto (-35), 3) := by decide +kernel
theorem dX4_test_93 : decode cX4_test 93 = .ok (.aload_n 0, 1) := by decide +kernel
theorem dX4_test_94 : decode cX4_test 94 = .ok (.iload 6, 2) := by decide +kernel
theorem dX4_test_96 : decode cX4_test 96 = .ok (.putfield 67, 3) := by decide +kernel
theorem dX4_test_99 : decode cX4_test 99 = .ok (.iload 7, 2) := by decide +kernel
theorem dX4_test_101 : decode cX4_test 101 = .ok (.ireturn, 1) := by decide +kernel
theorem dX4_duel_0 : decode cX4_duel 0 = .ok (.iload_n 1, 1) := by decide +kernel
theorem dX4_duel_1 : decode cX4_duel 1 = .ok (.ifCond .lt 8, 3) := by decide +kernel
theorem dX4_duel_4 : decode cX4_duel 4 = .ok (.iload_n 1, 1) := by decide +kernel
theorem dX4_duel_5 : decode cX4_duel 5 = .ok (.iconst 4, 1) := by decide +kernel
theorem dX4_duel_6 : decode cX4_duel 6 = .ok (.if_icmp .le 5, 3) := by decide +kernel
theorem dX4_duel_9 : decode cX4_duel 9 = .ok (.iconst (-1), 1) := by decide +kernel
theorem dX4_duel_10 : decode cX4_duel 10 = .ok (.ireturn, 1) := by decide +kernel
theorem dX4_duel_11 : decode cX4_duel 11 = .ok (.aload_n 0, 1) := by decide +kernel
theorem dX4_duel_12 : decode cX4_duel 12 = .ok (.getfield 27, 3) := by decide +kernel
theorem dX4_duel_15 : decode cX4_duel 15 = .ok (.getfield 137, 3) := by decide +kernel
theorem dX4_duel_18 : decode cX4_duel 18 = .ok (.ifCond .ne 6, 3) := by decide +kernel
theorem dX4_duel_21 : decode cX4_duel 21 = .ok (.bipush (-4), 2) := by decide +kernel
theorem dX4_duel_23 : decode cX4_duel 23 = .ok (.ireturn, 1) := by decide +kernel
theorem dX4_duel_24 : decode cX4_duel 24 = .ok (.aload_n 0, 1) := by decide +kernel
theorem dX4_duel_25 : decode cX4_duel 25 = .ok (.invokevirtual 225, 3) := by decide +kernel
theorem dX4_duel_28 : decode cX4_duel 28 = .ok (.aload_n 0, 1) := by decide +kernel
theorem dX4_duel_29 : decode cX4_duel 29 = .ok (.getfield 27, 3) := by decide +kernel
theorem dX4_duel_32 : decode cX4_duel 32 = .ok (.invokevirtual 216, 3) := by decide +kernel
theorem dX4_duel_35 : decode cX4_duel 35 = .ok (.istore_n 2, 1) := by decide +kernel
theorem dX4_duel_36 : decode cX4_duel 36 = .ok (.iconst 0, 1) := by decide +kernel
theorem dX4_duel_37 : decode cX4_duel 37 = .ok (.istore_n 3, 1) := by decide +kernel
theorem dX4_duel_38 : decode cX4_duel 38 = .ok (.iload_n 3, 1) := by decide +kernel
theorem dX4_duel_39 : decode cX4_duel 39 = .ok (.iload_n 2, 1) := by decide +kernel
theorem dX4_duel_40 : decode cX4_duel 40 = .ok (.if_icmp .ge 20, 3) := by decide +kernel
theorem dX4_duel_43 : decode cX4_duel 43 = .ok (.aload_n 0, 1) := by decide +kernel
theorem dX4_duel_44 : decode cX4_duel 44 = .ok (.getfield 51, 3) := by decide +kernel
theorem dX4_duel_47 : decode cX4_duel 47 = .ok (.iload_n 3, 1) := by decide +kernel
theorem dX4_duel_48 : decode cX4_duel 48 = .ok (.aload_n 0, 1) := by decide +kernel
theorem dX4_duel_49 : decode cX4_duel 49 = .ok (.iload_n 3, 1) := by decide +kernel
theorem dX4_duel_50 : decode cX4_duel 50 = .ok (.invokevirtual 260, 3) := by decide +kernel
theorem dX4_duel_53 : decode cX4_duel 53 = .ok (.iastore, 1) := by decide +kernel
theorem dX4_duel_54 : decode cX4_duel 54 = .ok (.iinc 3 1, 3) := by decide +kernel
theorem dX4_duel_57 : decode cX4_duel 57 = .ok (.goto (-19), 3) := by decide +kernel
theorem dX4_duel_60 : decode cX4_duel 60 = .ok (.iload_n 1, 1) := by decide +kernel
theorem dX4_duel_61 : decode cX4_duel 61 = .ok (.iconst 1, 1) := by decide +kernel
theorem dX4_duel_62 : decode cX4_duel 62 = .ok (.isub, 1) := by decide +kernel
theorem dX4_duel_63 : decode cX4_duel 63 = .ok (.istore_n 3, 1) := by decide +kernel
theorem dX4_duel_64 : decode cX4_duel 64 = .ok (.iload_n 3, 1) := by decide +kernel
theorem dX4_duel_65 : decode cX4_duel 65 = .ok (.ifCond .lt 24, 3) := by decide +kernel
theorem dX4_duel_68 : decode cX4_duel 68 = .ok (.aload_n 0, 1) := by decide +kernel
theorem dX4_duel_69 : decode cX4_duel 69 = .ok (.iload_n 3, 1) := by decide +kernel
theorem dX4_duel_70 : decode cX4_duel 70 = .ok (.iconst 2, 1) := by decide +kernel
theorem dX4_duel_71 : decode cX4_duel 71 = .ok (.irem, 1) := by decide +kernel
theorem dX4_duel_72 : decode cX4_duel 72 = .ok (.ifCond .ne 7, 3) := by decide +kernel
theorem dX4_duel_75 : decode cX4_duel 75 = .ok (.iconst 1, 1) := by decide +kernel
theorem dX4_duel_76 : decode cX4_duel 76 = .ok (.goto 4, 3) := by decide +kernel
theorem dX4_duel_79 : decode cX4_duel 79 = .ok (.iconst 0, 1) := by decide +kernel
theorem dX4_duel_80 : decode cX4_duel 80 = .ok (.invokevirtual 263, 3) := by decide +kernel
theorem dX4_duel_83 : decode cX4_duel 83 = .ok (.iinc 3 (-1), 3) := by decide +kernel
theorem dX4_duel_86 : decode cX4_duel 86 = .ok (.goto (-22), 3) := by decide +kernel
theorem dX4_duel_89 : decode cX4_duel 89 = .ok (.aload_n 0, 1) := by decide +kernel
theorem dX4_duel_90 : decode cX4_duel 90 = .ok (.aload_n 0, 1) := by decide +kernel
theorem dX4_duel_91 : decode cX4_duel 91 = .ok (.getfield 37, 3) := by decide +kernel
theorem dX4_duel_94 : decode cX4_duel 94 = .ok (.getfield 179, 3) := by decide +kernel
theorem dX4_duel_97 : decode cX4_duel 97 = .ok (.invokevirtual 267, 3) := by decide +kernel
theorem dX4_duel_100 : decode cX4_duel 100 = .ok (.ireturn, 1) := by decide +kernel
theorem dX4_odds_0 : decode cX4_odds 0 = .ok (.aload_n 0, 1) := by decide +kernel
theorem dX4_odds_1 : decode cX4_odds 1 = .ok (.iload_n 1, 1) := by decide +kernel
theorem dX4_odds_2 : decode cX4_odds 2 = .ok (.invokevirtual 270, 3) := by decide +kernel
theorem dX4_odds_5 : decode cX4_odds 5 = .ok (.istore_n 2, 1) := by decide +kernel
theorem dX4_odds_6 : decode cX4_odds 6 = .ok (.iload_n 2, 1) := by decide +kernel
theorem dX4_odds_7 : decode cX4_odds 7 = .ok (.ifCond .eq 5, 3) := by decide +kernel
theorem dX4_odds_10 : decode cX4_odds 10 = .ok (.iload_n 2, 1) := by decide +kernel
theorem dX4_odds_11 : decode cX4_odds 11 = .ok (.ireturn, 1) := by decide +kernel
theorem dX4_odds_12 : decode cX4_odds 12 = .ok (.aload_n 0, 1) := by decide +kernel
theorem dX4_odds_13 : decode cX4_odds 13 = .ok (.invokevirtual 225, 3) := by decide +kernel
theorem dX4_odds_16 : decode cX4_odds 16 = .ok (.aload_n 0, 1) := by decide +kernel
theorem dX4_odds_17 : decode cX4_odds 17 = .ok (.getfield 27, 3) := by decide +kernel
theorem dX4_odds_20 : decode cX4_odds 20 = .ok (.invokevirtual 216, 3) := by decide +kernel
theorem dX4_odds_23 : decode cX4_odds 23 = .ok (.istore_n 3, 1) := by decide +kernel
theorem dX4_odds_24 : decode cX4_odds 24 = .ok (.lconst 0, 1) := by decide +kernel
theorem dX4_odds_25 : decode cX4_odds 25 = .ok (.lstore 4, 2) := by decide +kernel
theorem dX4_odds_27 : decode cX4_odds 27 = .ok (.iconst 0, 1) := by decide +kernel
theorem dX4_odds_28 : decode cX4_odds 28 = .ok (.istore 6, 2) := by decide +kernel
theorem dX4_odds_30 : decode cX4_odds 30 = .ok (.iload 6, 2) := by decide +kernel
theorem dX4_odds_32 : decode cX4_odds 32 = .ok (.iload_n 3, 1) := by decide +kernel
theorem dX4_odds_33 : decode cX4_odds 33 = .ok (.if_icmp .ge 33, 3) := by decide +kernel
theorem dX4_odds_36 : decode cX4_odds 36 = .ok (.aload_n 0, 1) := by decide +kernel
theorem dX4_odds_37 : decode cX4_odds 37 = .ok (.getfield 51, 3) := by decide +kernel
theorem dX4_odds_40 : decode cX4_odds 40 = .ok (.iload 6, 2) := by decide +kernel
theorem dX4_odds_42 : decode cX4_odds 42 = .ok (.iaload, 1) := by decide +kernel
theorem dX4_odds_43 : decode cX4_odds 43 = .ok (.iload 6, 2) := by decide +kernel
theorem dX4_odds_45 : decode cX4_odds 45 = .ok (.if_icmp .ne 15, 3) := by decide +kernel
theorem dX4_odds_48 : decode cX4_odds 48 = .ok (.lload 4, 2) := by decide +kernel
theorem dX4_odds_50 : decode cX4_odds 50 = .ok (.aload_n 0, 1) := by decide +kernel
theorem dX4_odds_51 : decode cX4_odds 51 = .ok (.iload 6, 2) := by decide +kernel
theorem dX4_odds_53 : decode cX4_odds 53 = .ok (.iload_n 1, 1) := by decide +kernel
theorem dX4_odds_54 : decode cX4_odds 54 = .ok (.invokevirtual 273, 3) := by decide +kernel
theorem dX4_odds_57 : decode cX4_odds 57 = .ok (.ladd, 1) := by decide +kernel
theorem dX4_odds_58 : decode cX4_odds 58 = .ok (.lstore 4, 2) := by decide +kernel
theorem dX4_odds_60 : decode cX4_odds 60 = .ok (.iinc 6 1, 3) := by decide +kernel
theorem dX4_odds_63 : decode cX4_odds 63 = .ok (.goto (-33), 3) := by decide +kernel
theorem dX4_odds_66 : decode cX4_odds 66 = .ok (.aload_n 0, 1) := by decide +kernel
theorem dX4_odds_67 : decode cX4_odds 67 = .ok (.lload 4, 2) := by decide +kernel
theorem dX4_odds_69 : decode cX4_odds 69 = .ok (.ldc2_w 277, 3) := by decide +kernel
theorem dX4_odds_72 : decode cX4_odds 72 = .ok (.aload_n 0, 1) := by decide +kernel
theorem dX4_odds_73 : decode cX4_odds 73 = .ok (.getfield 27, 3) := by decide +kernel
theorem dX4_odds_76 : decode cX4_odds 76 = .ok (.getfield 137, 3) := by decide +kernel
theorem dX4_odds_79 : decode cX4_odds 79 = .ok (.invokestatic 279, 3) := by decide +kernel
theorem dX4_odds_82 : decode cX4_odds 82 = .ok (.invokevirtual 283, 3) := by decide +kernel
theorem dX4_odds_85 : decode cX4_odds 85 = .ok (.iconst 1, 1) := by decide +kernel
theorem dX4_odds_86 : decode cX4_odds 86 = .ok (.ireturn, 1) := by decide +kernel
theorem dX4_mid_0 : decode cX4_mid 0 = .ok (.aload_n 0, 1) := by decide +kernel
theorem dX4_mid_1 : decode cX4_mid 1 = .ok (.iload_n 1, 1) := by decide +kernel
theorem dX4_mid_2 : decode cX4_mid 2 = .ok (.invokevirtual 270, 3) := by decide +kernel
theorem dX4_mid_5 : decode cX4_mid 5 = .ok (.istore_n 2, 1) := by decide +kernel
theorem dX4_mid_6 : decode cX4_mid 6 = .ok (.iload_n 2, 1) := by decide +kernel
theorem dX4_mid_7 : decode cX4_mid 7 = .ok (.ifCond .eq 5, 3) := by decide +kernel
theorem dX4_mid_10 : decode cX4_mid 10 = .ok (.iload_n 2, 1) := by decide +kernel
theorem dX4_mid_11 : decode cX4_mid 11 = .ok (.ireturn, 1) := by decide +kernel
theorem dX4_mid_12 : decode cX4_mid 12 = .ok (.aload_n 0, 1) := by decide +kernel
theorem dX4_mid_13 : decode cX4_mid 13 = .ok (.invokevirtual 225, 3) := by decide +kernel
theorem dX4_mid_16 : decode cX4_mid 16 = .ok (.aload_n 0, 1) := by decide +kernel
theorem dX4_mid_17 : decode cX4_mid 17 = .ok (.getfield 27, 3) := by decide +kernel
theorem dX4_mid_20 : decode cX4_mid 20 = .ok (.invokevirtual 216, 3) := by decide +kernel
theorem dX4_mid_23 : decode cX4_mid 23 = .ok (.istore_n 3, 1) := by decide +kernel
theorem dX4_mid_24 : decode cX4_mid 24 = .ok (.lconst 0, 1) := by decide +kernel
theorem dX4_mid_25 : decode cX4_mid 25 = .ok (.lstore 4, 2) := by decide +kernel
theorem dX4_mid_27 : decode cX4_mid 27 = .ok (.iconst 0, 1) := by decide +kernel
theorem dX4_mid_28 : decode cX4_mid 28 = .ok (.istore 6, 2) := by decide +kernel
theorem dX4_mid_30 : decode cX4_mid 30 = .ok (.iload 6, 2) := by decide +kernel
theorem dX4_mid_32 : decode cX4_mid 32 = .ok (.iload_n 3, 1) := by decide +kernel
theorem dX4_mid_33 : decode cX4_mid 33 = .ok (.if_icmp .ge 29, 3) := by decide +kernel
theorem dX4_mid_36 : decode cX4_mid 36 = .ok (.lload 4, 2) := by decide +kernel
theorem dX4_mid_38 : decode cX4_mid 38 = .ok (.aload_n 0, 1) := by decide +kernel
theorem dX4_mid_39 : decode cX4_mid 39 = .ok (.iload 6, 2) := by decide +kernel
theorem dX4_mid_41 : decode cX4_mid 41 = .ok (.invokevirtual 260, 3) := by decide +kernel
theorem dX4_mid_44 : decode cX4_mid 44 = .ok (.i2l, 1) := by decide +kernel
theorem dX4_mid_45 : decode cX4_mid 45 = .ok (.aload_n 0, 1) := by decide +kernel
theorem dX4_mid_46 : decode cX4_mid 46 = .ok (.iload 6, 2) := by decide +kernel
theorem dX4_mid_48 : decode cX4_mid 48 = .ok (.iload_n 1, 1) := by decide +kernel
theorem dX4_mid_49 : decode cX4_mid 49 = .ok (.invokevirtual 273, 3) := by decide +kernel
theorem dX4_mid_52 : decode cX4_mid 52 = .ok (.lmul, 1) := by decide +kernel
theorem dX4_mid_53 : decode cX4_mid 53 = .ok (.ladd, 1) := by decide +kernel
theorem dX4_mid_54 : decode cX4_mid 54 = .ok (.lstore 4, 2) := by decide +kernel
theorem dX4_mid_56 : decode cX4_mid 56 = .ok (.iinc 6 1, 3) := by decide +kernel
theorem dX4_mid_59 : decode cX4_mid 59 = .ok (.goto (-29), 3) := by decide +kernel
theorem dX4_mid_62 : decode cX4_mid 62 = .ok (.aload_n 0, 1) := by decide +kernel
theorem dX4_mid_63 : decode cX4_mid 63 = .ok (.lload 4, 2) := by decide +kernel
theorem dX4_mid_65 : decode cX4_mid 65 = .ok (.ldc2_w 277, 3) := by decide +kernel
theorem dX4_mid_68 : decode cX4_mid 68 = .ok (.aload_n 0, 1) := by decide +kernel
theorem dX4_mid_69 : decode cX4_mid 69 = .ok (.getfield 27, 3) := by decide +kernel
theorem dX4_mid_72 : decode cX4_mid 72 = .ok (.getfield 137, 3) := by decide +kernel
theorem dX4_mid_75 : decode cX4_mid 75 = .ok (.invokestatic 279, 3) := by decide +kernel
theorem dX4_mid_78 : decode cX4_mid 78 = .ok (.invokevirtual 283, 3) := by decide +kernel
theorem dX4_mid_81 : decode cX4_mid 81 = .ok (.iconst 1, 1) := by decide +kernel
theorem dX4_mid_82 : decode cX4_mid 82 = .ok (.ireturn, 1) := by decide +kernel
theorem dX4_lots_0 : decode cX4_lots 0 = .ok (.iload_n 1, 1) := by decide +kernel
theorem dX4_lots_1 : decode cX4_lots 1 = .ok (.iconst 1, 1) := by decide +kernel
theorem dX4_lots_2 : decode cX4_lots 2 = .ok (.if_icmp .lt 21, 3) := by decide +kernel
theorem dX4_lots_5 : decode cX4_lots 5 = .ok (.iload_n 1, 1) := by decide +kernel
theorem dX4_lots_6 : decode cX4_lots 6 = .ok (.bipush 20, 2) := by decide +kernel
theorem dX4_lots_8 : decode cX4_lots 8 = .ok (.if_icmp .gt 15, 3) := by decide +kernel
theorem dX4_lots_11 : decode cX4_lots 11 = .ok (.iload_n 2, 1) := by decide +kernel
theorem dX4_lots_12 : decode cX4_lots 12 = .ok (.iconst 1, 1) := by decide +kernel
theorem dX4_lots_13 : decode cX4_lots 13 = .ok (.if_icmp .lt 10, 3) := by decide +kernel
theorem dX4_lots_16 : decode cX4_lots 16 = .ok (.iload_n 2, 1) := by decide +kernel
theorem dX4_lots_17 : decode cX4_lots 17 = .ok (.ldc_w 287, 3) := by decide +kernel
theorem dX4_lots_20 : decode cX4_lots 20 = .ok (.if_icmp .lt 5, 3) := by decide +kernel
theorem dX4_lots_23 : decode cX4_lots 23 = .ok (.iconst (-1), 1) := by decide +kernel
theorem dX4_lots_24 : decode cX4_lots 24 = .ok (.ireturn, 1) := by decide +kernel
theorem dX4_lots_25 : decode cX4_lots 25 = .ok (.aload_n 0, 1) := by decide +kernel
theorem dX4_lots_26 : decode cX4_lots 26 = .ok (.getfield 27, 3) := by decide +kernel
theorem dX4_lots_29 : decode cX4_lots 29 = .ok (.getfield 137, 3) := by decide +kernel
theorem dX4_lots_32 : decode cX4_lots 32 = .ok (.ifCond .ne 6, 3) := by decide +kernel
theorem dX4_lots_35 : decode cX4_lots 35 = .ok (.bipush (-4), 2) := by decide +kernel
theorem dX4_lots_37 : decode cX4_lots 37 = .ok (.ireturn, 1) := by decide +kernel
theorem dX4_lots_38 : decode cX4_lots 38 = .ok (.aload_n 0, 1) := by decide +kernel
theorem dX4_lots_39 : decode cX4_lots 39 = .ok (.iload_n 1, 1) := by decide +kernel
theorem dX4_lots_40 : decode cX4_lots 40 = .ok (.invokevirtual 185, 3) := by decide +kernel
theorem dX4_lots_43 : decode cX4_lots 43 = .ok (.ifCond .eq 6, 3) := by decide +kernel
theorem dX4_lots_46 : decode cX4_lots 46 = .ok (.bipush (-2), 2) := by decide +kernel
theorem dX4_lots_48 : decode cX4_lots 48 = .ok (.ireturn, 1) := by decide +kernel
theorem dX4_lots_49 : decode cX4_lots 49 = .ok (.iload_n 2, 1) := by decide +kernel
theorem dX4_lots_50 : decode cX4_lots 50 = .ok (.i2l, 1) := by decide +kernel
theorem dX4_lots_51 : decode cX4_lots 51 = .ok (.lstore_n 3, 1) := by decide +kernel
theorem dX4_lots_52 : decode cX4_lots 52 = .ok (.iconst 0, 1) := by decide +kernel
theorem dX4_lots_53 : decode cX4_lots 53 = .ok (.istore 5, 2) := by decide +kernel
theorem dX4_lots_55 : decode cX4_lots 55 = .ok (.iload 5, 2) := by decide +kernel
theorem dX4_lots_57 : decode cX4_lots 57 = .ok (.iload_n 1, 1) := by decide +kernel
theorem dX4_lots_58 : decode cX4_lots 58 = .ok (.if_icmp .ge 28, 3) := by decide +kernel
theorem dX4_lots_61 : decode cX4_lots 61 = .ok (.lload_n 3, 1) := by decide +kernel
theorem dX4_lots_62 : decode cX4_lots 62 = .ok (.ldc2_w 288, 3) := by decide +kernel
theorem dX4_lots_65 : decode cX4_lots 65 = .ok (.lmul, 1) := by decide +kernel
theorem dX4_lots_66 : decode cX4_lots 66 = .ok (.ldc2_w 290, 3) := by decide +kernel
theorem dX4_lots_69 : decode cX4_lots 69 = .ok (.lrem, 1) := by decide +kernel
theorem dX4_lots_70 : decode cX4_lots 70 = .ok (.lstore_n 3, 1) := by decide +kernel
theorem dX4_lots_71 : decode cX4_lots 71 = .ok (.aload_n 0, 1) := by decide +kernel
theorem dX4_lots_72 : decode cX4_lots 72 = .ok (.aload_n 0, 1) := by decide +kernel
theorem dX4_lots_73 : decode cX4_lots 73 = .ok (.lload_n 3, 1) := by decide +kernel
theorem dX4_lots_74 : decode cX4_lots 74 = .ok (.invokevirtual 292, 3) := by decide +kernel
theorem dX4_lots_77 : decode cX4_lots 77 = .ok (.invokevirtual 188, 3) := by decide +kernel
theorem dX4_lots_80 : decode cX4_lots 80 = .ok (.iinc 5 1, 3) := by decide +kernel
theorem dX4_lots_83 : decode cX4_lots 83 = .ok (.goto (-28), 3) := by decide +kernel
theorem dX4_lots_86 : decode cX4_lots 86 = .ok (.aload_n 0, 1) := by decide +kernel
theorem dX4_lots_87 : decode cX4_lots 87 = .ok (.invokevirtual 152, 3) := by decide +kernel
theorem dX4_lots_90 : decode cX4_lots 90 = .ok (.invokestatic 156, 3) := by decide +kernel
theorem dX4_lots_93 : decode cX4_lots 93 = .ok (.ireturn, 1) := by decide +kernel
theorem dX4_asked_0 : decode cX4_asked 0 = .ok (.aload_n 0, 1) := by decide +kernel
theorem dX4_asked_1 : decode cX4_asked 1 = .ok (.getfield 67, 3) := by decide +kernel
theorem dX4_asked_4 : decode cX4_asked 4 = .ok (.ireturn, 1) := by decide +kernel
theorem dX4_upper_0 : decode cX4_upper 0 = .ok (.aload_n 0, 1) := by decide +kernel
theorem dX4_upper_1 : decode cX4_upper 1 = .ok (.getfield 70, 3) := by decide +kernel
theorem dX4_upper_4 : decode cX4_upper 4 = .ok (.lreturn, 1) := by decide +kernel
theorem dX4_lower_0 : decode cX4_lower 0 = .ok (.aload_n 0, 1) := by decide +kernel
theorem dX4_lower_1 : decode cX4_lower 1 = .ok (.getfield 74, 3) := by decide +kernel
theorem dX4_lower_4 : decode cX4_lower 4 = .ok (.lreturn, 1) := by decide +kernel
theorem dX4_count_0 : decode cX4_count 0 = .ok (.iload_n 1, 1) := by decide +kernel
theorem dX4_count_1 : decode cX4_count 1 = .ok (.bipush 11, 2) := by decide +kernel
theorem dX4_count_3 : decode cX4_count 3 = .ok (.invokestatic 81, 3) := by decide +kernel
theorem dX4_count_6 : decode cX4_count 6 = .ok (.ifCond .ne 5, 3) := by decide +kernel
theorem dX4_count_9 : decode cX4_count 9 = .ok (.iconst (-1), 1) := by decide +kernel
theorem dX4_count_10 : decode cX4_count 10 = .ok (.ireturn, 1) := by decide +kernel
theorem dX4_count_11 : decode cX4_count 11 = .ok (.iload_n 1, 1) := by decide +kernel
theorem dX4_count_12 : decode cX4_count 12 = .ok (.tableswitch 142 0 9 #[56, 64, 72, 81, 89, 97, 105, 115, 124, 133], 56) := by decide +kernel
theorem dX4_count_68 : decode cX4_count 68 = .ok (.aload_n 0, 1) := by decide +kernel
theorem dX4_count_69 : decode cX4_count 69 = .ok (.getfield 27, 3) := by decide +kernel
theorem dX4_count_72 : decode cX4_count 72 = .ok (.getfield 137, 3) := by decide +kernel
theorem dX4_count_75 : decode cX4_count 75 = .ok (.ireturn, 1) := by decide +kernel
theorem dX4_count_76 : decode cX4_count 76 = .ok (.aload_n 0, 1) := by decide +kernel
theorem dX4_count_77 : decode cX4_count 77 = .ok (.getfield 37, 3) := by decide +kernel
theorem dX4_count_80 : decode cX4_count 80 = .ok (.getfield 296, 3) := by decide +kernel
theorem dX4_count_83 : decode cX4_count 83 = .ok (.ireturn, 1) := by decide +kernel
theorem dX4_count_84 : decode cX4_count 84 = .ok (.aload_n 0, 1) := by decide +kernel
theorem dX4_count_85 : decode cX4_count 85 = .ok (.getfield 21, 3) := by decide +kernel
theorem dX4_count_88 : decode cX4_count 88 = .ok (.iconst 3, 1) := by decide +kernel
theorem dX4_count_89 : decode cX4_count 89 = .ok (.invokevirtual 120, 3) := by decide +kernel
theorem dX4_count_92 : decode cX4_count 92 = .ok (.ireturn, 1) := by decide +kernel
theorem dX4_count_93 : decode cX4_count 93 = .ok (.aload_n 0, 1) := by decide +kernel
theorem dX4_count_94 : decode cX4_count 94 = .ok (.getfield 37, 3) := by decide +kernel
theorem dX4_count_97 : decode cX4_count 97 = .ok (.getfield 179, 3) := by decide +kernel
theorem dX4_count_100 : decode cX4_count 100 = .ok (.ireturn, 1) := by decide +kernel
theorem dX4_count_101 : decode cX4_count 101 = .ok (.aload_n 0, 1) := by decide +kernel
theorem dX4_count_102 : decode cX4_count 102 = .ok (.getfield 37, 3) := by decide +kernel
theorem dX4_count_105 : decode cX4_count 105 = .ok (.getfield 191, 3) := by decide +kernel
theorem dX4_count_108 : decode cX4_count 108 = .ok (.ireturn, 1) := by decide +kernel
theorem dX4_count_109 : decode cX4_count 109 = .ok (.aload_n 0, 1) := by decide +kernel
theorem dX4_count_110 : decode cX4_count 110 = .ok (.invokevirtual 152, 3) := by decide +kernel
theorem dX4_count_113 : decode cX4_count 113 = .ok (.invokestatic 156, 3) := by decide +kernel
theorem dX4_count_116 : decode cX4_count 116 = .ok (.ireturn, 1) := by decide +kernel
theorem dX4_count_117 : decode cX4_count 117 = .ok (.aload_n 0, 1) := by decide +kernel
theorem dX4_count_118 : decode cX4_count 118 = .ok (.getfield 14, 3) := by decide +kernel
theorem dX4_count_121 : decode cX4_count 121 = .ok (.bipush 6, 2) := by decide +kernel
theorem dX4_count_123 : decode cX4_count 123 = .ok (.invokevirtual 299, 3) := by decide +kernel
theorem dX4_count_126 : decode cX4_count 126 = .ok (.ireturn, 1) := by decide +kernel
theorem dX4_count_127 : decode cX4_count 127 = .ok (.aload_n 0, 1) := by decide +kernel
theorem dX4_count_128 : decode cX4_count 128 = .ok (.getfield 18, 3) := by decide +kernel
theorem dX4_count_131 : decode cX4_count 131 = .ok (.iconst 4, 1) := by decide +kernel
theorem dX4_count_132 : decode cX4_count 132 = .ok (.invokevirtual 299, 3) := by decide +kernel
theorem dX4_count_135 : decode cX4_count 135 = .ok (.ireturn, 1) := by decide +kernel
theorem dX4_count_136 : decode cX4_count 136 = .ok (.aload_n 0, 1) := by decide +kernel
theorem dX4_count_137 : decode cX4_count 137 = .ok (.getfield 21, 3) := by decide +kernel
theorem dX4_count_140 : decode cX4_count 140 = .ok (.iconst 3, 1) := by decide +kernel
theorem dX4_count_141 : decode cX4_count 141 = .ok (.invokevirtual 299, 3) := by decide +kernel
theorem dX4_count_144 : decode cX4_count 144 = .ok (.ireturn, 1) := by decide +kernel
theorem dX4_count_145 : decode cX4_count 145 = .ok (.aload_n 0, 1) := by decide +kernel
theorem dX4_count_146 : decode cX4_count 146 = .ok (.getfield 27, 3) := by decide +kernel
theorem dX4_count_149 : decode cX4_count 149 = .ok (.iconst 1, 1) := by decide +kernel
theorem dX4_count_150 : decode cX4_count 150 = .ok (.invokevirtual 302, 3) := by decide +kernel
theorem dX4_count_153 : decode cX4_count 153 = .ok (.ireturn, 1) := by decide +kernel
theorem dX4_count_154 : decode cX4_count 154 = .ok (.aload_n 0, 1) := by decide +kernel
theorem dX4_count_155 : decode cX4_count 155 = .ok (.getfield 27, 3) := by decide +kernel
theorem dX4_count_158 : decode cX4_count 158 = .ok (.iconst 2, 1) := by decide +kernel
theorem dX4_count_159 : decode cX4_count 159 = .ok (.invokevirtual 302, 3) := by decide +kernel
theorem dX4_count_162 : decode cX4_count 162 = .ok (.ireturn, 1) := by decide +kernel
theorem dX4_finding_0 : decode cX4_finding 0 = .ok (.aload_n 0, 1) := by decide +kernel
theorem dX4_finding_1 : decode cX4_finding 1 = .ok (.getfield 63, 3) := by decide +kernel
theorem dX4_finding_4 : decode cX4_finding 4 = .ok (.ireturn, 1) := by decide +kernel
theorem dX4_findings_0 : decode cX4_findings 0 = .ok (.iload_n 1, 1) := by decide +kernel
theorem dX4_findings_1 : decode cX4_findings 1 = .ok (.iconst 1, 1) := by decide +kernel
theorem dX4_findings_2 : decode cX4_findings 2 = .ok (.if_icmp .lt 8, 3) := by decide +kernel
theorem dX4_findings_5 : decode cX4_findings 5 = .ok (.iload_n 1, 1) := by decide +kernel
theorem dX4_findings_6 : decode cX4_findings 6 = .ok (.iconst 5, 1) := by decide +kernel
theorem dX4_findings_7 : decode cX4_findings 7 = .ok (.if_icmp .le 5, 3) := by decide +kernel
theorem dX4_findings_10 : decode cX4_findings 10 = .ok (.iconst (-1), 1) := by decide +kernel
theorem dX4_findings_11 : decode cX4_findings 11 = .ok (.ireturn, 1) := by decide +kernel
theorem dX4_findings_12 : decode cX4_findings 12 = .ok (.aload_n 0, 1) := by decide +kernel
theorem dX4_findings_13 : decode cX4_findings 13 = .ok (.getfield 60, 3) := by decide +kernel
theorem dX4_findings_16 : decode cX4_findings 16 = .ok (.iload_n 1, 1) := by decide +kernel
theorem dX4_findings_17 : decode cX4_findings 17 = .ok (.iaload, 1) := by decide +kernel
theorem dX4_findings_18 : decode cX4_findings 18 = .ok (.ireturn, 1) := by decide +kernel
theorem dX4_digest_0 : decode cX4_digest 0 = .ok (.ldc2_w 305, 3) := by decide +kernel
theorem dX4_digest_3 : decode cX4_digest 3 = .ok (.lstore_n 1, 1) := by decide +kernel
theorem dX4_digest_4 : decode cX4_digest 4 = .ok (.iconst 0, 1) := by decide +kernel
theorem dX4_digest_5 : decode cX4_digest 5 = .ok (.istore_n 3, 1) := by decide +kernel
theorem dX4_digest_6 : decode cX4_digest 6 = .ok (.iload_n 3, 1) := by decide +kernel
theorem dX4_digest_7 : decode cX4_digest 7 = .ok (.bipush 11, 2) := by decide +kernel
theorem dX4_digest_9 : decode cX4_digest 9 = .ok (.if_icmp .ge 22, 3) := by decide +kernel
theorem dX4_digest_12 : decode cX4_digest 12 = .ok (.ldc2_w 307, 3) := by decide +kernel
theorem dX4_digest_15 : decode cX4_digest 15 = .ok (.lload_n 1, 1) := by decide +kernel
theorem dX4_digest_16 : decode cX4_digest 16 = .ok (.lmul, 1) := by decide +kernel
theorem dX4_digest_17 : decode cX4_digest 17 = .ok (.aload_n 0, 1) := by decide +kernel
theorem dX4_digest_18 : decode cX4_digest 18 = .ok (.iload_n 3, 1) := by decide +kernel
theorem dX4_digest_19 : decode cX4_digest 19 = .ok (.invokevirtual 309, 3) := by decide +kernel
theorem dX4_digest_22 : decode cX4_digest 22 = .ok (.i2l, 1) := by decide +kernel
theorem dX4_digest_23 : decode cX4_digest 23 = .ok (.ladd, 1) := by decide +kernel
theorem dX4_digest_24 : decode cX4_digest 24 = .ok (.lstore_n 1, 1) := by decide +kernel
theorem dX4_digest_25 : decode cX4_digest 25 = .ok (.iinc 3 1, 3) := by decide +kernel
theorem dX4_digest_28 : decode cX4_digest 28 = .ok (.goto (-22), 3) := by decide +kernel
theorem dX4_digest_31 : decode cX4_digest 31 = .ok (.iconst 0, 1) := by decide +kernel
theorem dX4_digest_32 : decode cX4_digest 32 = .ok (.istore_n 3, 1) := by decide +kernel
theorem dX4_digest_33 : decode cX4_digest 33 = .ok (.iload_n 3, 1) := by decide +kernel
theorem dX4_digest_34 : decode cX4_digest 34 = .ok (.aload_n 0, 1) := by decide +kernel
theorem dX4_digest_35 : decode cX4_digest 35 = .ok (.getfield 27, 3) := by decide +kernel
theorem dX4_digest_38 : decode cX4_digest 38 = .ok (.getfield 137, 3) := by decide +kernel
theorem dX4_digest_41 : decode cX4_digest 41 = .ok (.if_icmp .ge 40, 3) := by decide +kernel
theorem dX4_digest_44 : decode cX4_digest 44 = .ok (.iconst 0, 1) := by decide +kernel
theorem dX4_digest_45 : decode cX4_digest 45 = .ok (.istore 4, 2) := by decide +kernel
theorem dX4_digest_47 : decode cX4_digest 47 = .ok (.iload 4, 2) := by decide +kernel
theorem dX4_digest_49 : decode cX4_digest 49 = .ok (.bipush 8, 2) := by decide +kernel
theorem dX4_digest_51 : decode cX4_digest 51 = .ok (.if_icmp .ge 24, 3) := by decide +kernel
theorem dX4_digest_54 : decode cX4_digest 54 = .ok (.ldc2_w 307, 3) := by decide +kernel
theorem dX4_digest_57 : decode cX4_digest 57 = .ok (.lload_n 1, 1) := by decide +kernel
theorem dX4_digest_58 : decode cX4_digest 58 = .ok (.lmul, 1) := by decide +kernel
theorem dX4_digest_59 : decode cX4_digest 59 = .ok (.aload_n 0, 1) := by decide +kernel
theorem dX4_digest_60 : decode cX4_digest 60 = .ok (.iload_n 3, 1) := by decide +kernel
theorem dX4_digest_61 : decode cX4_digest 61 = .ok (.iload 4, 2) := by decide +kernel
theorem dX4_digest_63 : decode cX4_digest 63 = .ok (.invokevirtual 140, 3) := by decide +kernel
theorem dX4_digest_66 : decode cX4_digest 66 = .ok (.i2l, 1) := by decide +kernel
theorem dX4_digest_67 : decode cX4_digest 67 = .ok (.ladd, 1) := by decide +kernel
theorem dX4_digest_68 : decode cX4_digest 68 = .ok (.lstore_n 1, 1) := by decide +kernel
theorem dX4_digest_69 : decode cX4_digest 69 = .ok (.iinc 4 1, 3) := by decide +kernel
theorem dX4_digest_72 : decode cX4_digest 72 = .ok (.goto (-25), 3) := by decide +kernel
theorem dX4_digest_75 : decode cX4_digest 75 = .ok (.iinc 3 1, 3) := by decide +kernel
theorem dX4_digest_78 : decode cX4_digest 78 = .ok (.goto (-45), 3) := by decide +kernel
theorem dX4_digest_81 : decode cX4_digest 81 = .ok (.iconst 0, 1) := by decide +kernel
theorem dX4_digest_82 : decode cX4_digest 82 = .ok (.istore_n 3, 1) := by decide +kernel
theorem dX4_digest_83 : decode cX4_digest 83 = .ok (.iload_n 3, 1) := by decide +kernel
theorem dX4_digest_84 : decode cX4_digest 84 = .ok (.iconst 3, 1) := by decide +kernel
theorem dX4_digest_85 : decode cX4_digest 85 = .ok (.if_icmp .ge 25, 3) := by decide +kernel
theorem dX4_digest_88 : decode cX4_digest 88 = .ok (.ldc2_w 307, 3) := by decide +kernel
theorem dX4_digest_91 : decode cX4_digest 91 = .ok (.lload_n 1, 1) := by decide +kernel
theorem dX4_digest_92 : decode cX4_digest 92 = .ok (.lmul, 1) := by decide +kernel
theorem dX4_digest_93 : decode cX4_digest 93 = .ok (.aload_n 0, 1) := by decide +kernel
theorem dX4_digest_94 : decode cX4_digest 94 = .ok (.getfield 21, 3) := by decide +kernel
theorem dX4_digest_97 : decode cX4_digest 97 = .ok (.iload_n 3, 1) := by decide +kernel
theorem dX4_digest_98 : decode cX4_digest 98 = .ok (.invokevirtual 120, 3) := by decide +kernel
theorem dX4_digest_101 : decode cX4_digest 101 = .ok (.i2l, 1) := by decide +kernel
theorem dX4_digest_102 : decode cX4_digest 102 = .ok (.ladd, 1) := by decide +kernel
theorem dX4_digest_103 : decode cX4_digest 103 = .ok (.lstore_n 1, 1) := by decide +kernel
theorem dX4_digest_104 : decode cX4_digest 104 = .ok (.iinc 3 1, 3) := by decide +kernel
theorem dX4_digest_107 : decode cX4_digest 107 = .ok (.goto (-24), 3) := by decide +kernel
theorem dX4_digest_110 : decode cX4_digest 110 = .ok (.aload_n 0, 1) := by decide +kernel
theorem dX4_digest_111 : decode cX4_digest 111 = .ok (.getfield 18, 3) := by decide +kernel
theorem dX4_digest_114 : decode cX4_digest 114 = .ok (.aload_n 0, 1) := by decide +kernel
theorem dX4_digest_115 : decode cX4_digest 115 = .ok (.getfield 14, 3) := by decide +kernel
theorem dX4_digest_118 : decode cX4_digest 118 = .ok (.lload_n 1, 1) := by decide +kernel
theorem dX4_digest_119 : decode cX4_digest 119 = .ok (.invokevirtual 312, 3) := by decide +kernel
theorem dX4_digest_122 : decode cX4_digest 122 = .ok (.invokevirtual 312, 3) := by decide +kernel
theorem dX4_digest_125 : decode cX4_digest 125 = .ok (.lreturn, 1) := by decide +kernel
theorem dX4_within_0 : decode cX4_within 0 = .ok (.iload_n 0, 1) := by decide +kernel
theorem dX4_within_1 : decode cX4_within 1 = .ok (.ifCond .lt 12, 3) := by decide +kernel
theorem dX4_within_4 : decode cX4_within 4 = .ok (.iload_n 0, 1) := by decide +kernel
theorem dX4_within_5 : decode cX4_within 5 = .ok (.iload_n 1, 1) := by decide +kernel
theorem dX4_within_6 : decode cX4_within 6 = .ok (.if_icmp .ge 7, 3) := by decide +kernel
theorem dX4_within_9 : decode cX4_within 9 = .ok (.iconst 1, 1) := by decide +kernel
theorem dX4_within_10 : decode cX4_within 10 = .ok (.goto 4, 3) := by decide +kernel
theorem dX4_within_13 : decode cX4_within 13 = .ok (.iconst 0, 1) := by decide +kernel
theorem dX4_within_14 : decode cX4_within 14 = .ok (.ireturn, 1) := by decide +kernel
theorem dX4_found_0 : decode cX4_found 0 = .ok (.aload_n 0, 1) := by decide +kernel
theorem dX4_found_1 : decode cX4_found 1 = .ok (.iload_n 1, 1) := by decide +kernel
theorem dX4_found_2 : decode cX4_found 2 = .ok (.putfield 63, 3) := by decide +kernel
theorem dX4_found_5 : decode cX4_found 5 = .ok (.iload_n 1, 1) := by decide +kernel
theorem dX4_found_6 : decode cX4_found 6 = .ok (.bipush 6, 2) := by decide +kernel
theorem dX4_found_8 : decode cX4_found 8 = .ok (.invokestatic 81, 3) := by decide +kernel
theorem dX4_found_11 : decode cX4_found 11 = .ok (.ifCond .eq 13, 3) := by decide +kernel
theorem dX4_found_14 : decode cX4_found 14 = .ok (.aload_n 0, 1) := by decide +kernel
theorem dX4_found_15 : decode cX4_found 15 = .ok (.getfield 60, 3) := by decide +kernel
theorem dX4_found_18 : decode cX4_found 18 = .ok (.iload_n 1, 1) := by decide +kernel
theorem dX4_found_19 : decode cX4_found 19 = .ok (.dup2, 1) := by decide +kernel
theorem dX4_found_20 : decode cX4_found 20 = .ok (.iaload, 1) := by decide +kernel
theorem dX4_found_21 : decode cX4_found 21 = .ok (.iconst 1, 1) := by decide +kernel
theorem dX4_found_22 : decode cX4_found 22 = .ok (.iadd, 1) := by decide +kernel
theorem dX4_found_23 : decode cX4_found 23 = .ok (.iastore, 1) := by decide +kernel
theorem dX4_found_24 : decode cX4_found 24 = .ok (.bipush (-3), 2) := by decide +kernel
theorem dX4_found_26 : decode cX4_found 26 = .ok (.ireturn, 1) := by decide +kernel
theorem dX4_refuseShelfPlace_0 : decode cX4_refuseShelfPlace 0 = .ok (.iload_n 2, 1) := by decide +kernel
theorem dX4_refuseShelfPlace_1 : decode cX4_refuseShelfPlace 1 = .ok (.aload_n 1, 1) := by decide +kernel
theorem dX4_refuseShelfPlace_2 : decode cX4_refuseShelfPlace 2 = .ok (.getfield 316, 3) := by decide +kernel
theorem dX4_refuseShelfPlace_5 : decode cX4_refuseShelfPlace 5 = .ok (.invokestatic 81, 3) := by decide +kernel
theorem dX4_refuseShelfPlace_8 : decode cX4_refuseShelfPlace 8 = .ok (.ifCond .ne 5, 3) := by decide +kernel
theorem dX4_refuseShelfPlace_11 : decode cX4_refuseShelfPlace 11 = .ok (.iconst (-1), 1) := by decide +kernel
theorem dX4_refuseShelfPlace_12 : decode cX4_refuseShelfPlace 12 = .ok (.ireturn, 1) := by decide +kernel
theorem dX4_refuseShelfPlace_13 : decode cX4_refuseShelfPlace 13 = .ok (.aload_n 1, 1) := by decide +kernel
theorem dX4_refuseShelfPlace_14 : decode cX4_refuseShelfPlace 14 = .ok (.iload_n 2, 1) := by decide +kernel
theorem dX4_refuseShelfPlace_15 : decode cX4_refuseShelfPlace 15 = .ok (.invokevirtual 108, 3) := by decide +kernel
theorem dX4_refuseShelfPlace_18 : decode cX4_refuseShelfPlace 18 = .ok (.ifCond .eq 7, 3) := by decide +kernel
theorem dX4_refuseShelfPlace_21 : decode cX4_refuseShelfPlace 21 = .ok (.iconst 0, 1) := by decide +kernel
theorem dX4_refuseShelfPlace_22 : decode cX4_refuseShelfPlace 22 = .ok (.goto 8, 3) := by decide +kernel
theorem dX4_refuseShelfPlace_25 : decode cX4_refuseShelfPlace 25 = .ok (.aload_n 0, 1) := by decide +kernel
theorem dX4_refuseShelfPlace_26 : decode cX4_refuseShelfPlace 26 = .ok (.iconst 1, 1) := by decide +kernel
theorem dX4_refuseShelfPlace_27 : decode cX4_refuseShelfPlace 27 = .ok (.invokevirtual 85, 3) := by decide +kernel
theorem dX4_refuseShelfPlace_30 : decode cX4_refuseShelfPlace 30 = .ok (.ireturn, 1) := by decide +kernel
theorem dX4_refusePlace_0 : decode cX4_refusePlace 0 = .ok (.aload_n 0, 1) := by decide +kernel
theorem dX4_refusePlace_1 : decode cX4_refusePlace 1 = .ok (.aload_n 1, 1) := by decide +kernel
theorem dX4_refusePlace_2 : decode cX4_refusePlace 2 = .ok (.iload_n 2, 1) := by decide +kernel
theorem dX4_refusePlace_3 : decode cX4_refusePlace 3 = .ok (.invokevirtual 100, 3) := by decide +kernel
theorem dX4_refusePlace_6 : decode cX4_refusePlace 6 = .ok (.istore 4, 2) := by decide +kernel
theorem dX4_refusePlace_8 : decode cX4_refusePlace 8 = .ok (.iload 4, 2) := by decide +kernel
theorem dX4_refusePlace_10 : decode cX4_refusePlace 10 = .ok (.ifCond .eq 6, 3) := by decide +kernel
theorem dX4_refusePlace_13 : decode cX4_refusePlace 13 = .ok (.iload 4, 2) := by decide +kernel
theorem dX4_refusePlace_15 : decode cX4_refusePlace 15 = .ok (.ireturn, 1) := by decide +kernel
theorem dX4_refusePlace_16 : decode cX4_refusePlace 16 = .ok (.iload_n 3, 1) := by decide +kernel
theorem dX4_refusePlace_17 : decode cX4_refusePlace 17 = .ok (.aload_n 1, 1) := by decide +kernel
theorem dX4_refusePlace_18 : decode cX4_refusePlace 18 = .ok (.iload_n 2, 1) := by decide +kernel
theorem dX4_refusePlace_19 : decode cX4_refusePlace 19 = .ok (.invokevirtual 120, 3) := by decide +kernel
theorem dX4_refusePlace_22 : decode cX4_refusePlace 22 = .ok (.invokestatic 81, 3) := by decide +kernel
theorem dX4_refusePlace_25 : decode cX4_refusePlace 25 = .ok (.ifCond .eq 7, 3) := by decide +kernel
theorem dX4_refusePlace_28 : decode cX4_refusePlace 28 = .ok (.iconst 0, 1) := by decide +kernel
theorem dX4_refusePlace_29 : decode cX4_refusePlace 29 = .ok (.goto 8, 3) := by decide +kernel
theorem dX4_refusePlace_32 : decode cX4_refusePlace 32 = .ok (.aload_n 0, 1) := by decide +kernel
theorem dX4_refusePlace_33 : decode cX4_refusePlace 33 = .ok (.iconst 2, 1) := by decide +kernel
theorem dX4_refusePlace_34 : decode cX4_refusePlace 34 = .ok (.invokevirtual 85, 3) := by decide +kernel
theorem dX4_refusePlace_37 : decode cX4_refusePlace 37 = .ok (.ireturn, 1) := by decide +kernel
theorem dX4_refusePairs_0 : decode cX4_refusePairs 0 = .ok (.aload_n 0, 1) := by decide +kernel
theorem dX4_refusePairs_1 : decode cX4_refusePairs 1 = .ok (.getfield 27, 3) := by decide +kernel
theorem dX4_refusePairs_4 : decode cX4_refusePairs 4 = .ok (.iload_n 1, 1) := by decide +kernel
theorem dX4_refusePairs_5 : decode cX4_refusePairs 5 = .ok (.invokevirtual 139, 3) := by decide +kernel
theorem dX4_refusePairs_8 : decode cX4_refusePairs 8 = .ok (.ifCond .ne 5, 3) := by decide +kernel
theorem dX4_refusePairs_11 : decode cX4_refusePairs 11 = .ok (.iconst (-1), 1) := by decide +kernel
theorem dX4_refusePairs_12 : decode cX4_refusePairs 12 = .ok (.ireturn, 1) := by decide +kernel
theorem dX4_refusePairs_13 : decode cX4_refusePairs 13 = .ok (.aload_n 0, 1) := by decide +kernel
theorem dX4_refusePairs_14 : decode cX4_refusePairs 14 = .ok (.aload_n 0, 1) := by decide +kernel
theorem dX4_refusePairs_15 : decode cX4_refusePairs 15 = .ok (.getfield 14, 3) := by decide +kernel
theorem dX4_refusePairs_18 : decode cX4_refusePairs 18 = .ok (.iload_n 2, 1) := by decide +kernel
theorem dX4_refusePairs_19 : decode cX4_refusePairs 19 = .ok (.invokevirtual 100, 3) := by decide +kernel
theorem dX4_refusePairs_22 : decode cX4_refusePairs 22 = .ok (.istore_n 3, 1) := by decide +kernel
theorem dX4_refusePairs_23 : decode cX4_refusePairs 23 = .ok (.iload_n 3, 1) := by decide +kernel
theorem dX4_refusePairs_24 : decode cX4_refusePairs 24 = .ok (.ifCond .eq 5, 3) := by decide +kernel
theorem dX4_refusePairs_27 : decode cX4_refusePairs 27 = .ok (.iload_n 3, 1) := by decide +kernel
theorem dX4_refusePairs_28 : decode cX4_refusePairs 28 = .ok (.ireturn, 1) := by decide +kernel
theorem dX4_refusePairs_29 : decode cX4_refusePairs 29 = .ok (.aload_n 0, 1) := by decide +kernel
theorem dX4_refusePairs_30 : decode cX4_refusePairs 30 = .ok (.getfield 14, 3) := by decide +kernel
theorem dX4_refusePairs_33 : decode cX4_refusePairs 33 = .ok (.iload_n 2, 1) := by decide +kernel
theorem dX4_refusePairs_34 : decode cX4_refusePairs 34 = .ok (.invokevirtual 120, 3) := by decide +kernel
theorem dX4_refusePairs_37 : decode cX4_refusePairs 37 = .ok (.istore 4, 2) := by decide +kernel
theorem dX4_refusePairs_39 : decode cX4_refusePairs 39 = .ok (.iload 4, 2) := by decide +kernel
theorem dX4_refusePairs_41 : decode cX4_refusePairs 41 = .ok (.iconst 2, 1) := by decide +kernel
theorem dX4_refusePairs_42 : decode cX4_refusePairs 42 = .ok (.irem, 1) := by decide +kernel
theorem dX4_refusePairs_43 : decode cX4_refusePairs 43 = .ok (.ifCond .eq 9, 3) := by decide +kernel
theorem dX4_refusePairs_46 : decode cX4_refusePairs 46 = .ok (.aload_n 0, 1) := by decide +kernel
theorem dX4_refusePairs_47 : decode cX4_refusePairs 47 = .ok (.iconst 5, 1) := by decide +kernel
theorem dX4_refusePairs_48 : decode cX4_refusePairs 48 = .ok (.invokevirtual 85, 3) := by decide +kernel
theorem dX4_refusePairs_51 : decode cX4_refusePairs 51 = .ok (.ireturn, 1) := by decide +kernel
theorem dX4_refusePairs_52 : decode cX4_refusePairs 52 = .ok (.iconst 0, 1) := by decide +kernel
theorem dX4_refusePairs_53 : decode cX4_refusePairs 53 = .ok (.istore 5, 2) := by decide +kernel
theorem dX4_refusePairs_55 : decode cX4_refusePairs 55 = .ok (.iload 5, 2) := by decide +kernel
theorem dX4_refusePairs_57 : decode cX4_refusePairs 57 = .ok (.iload 4, 2) := by decide +kernel
theorem dX4_refusePairs_59 : decode cX4_refusePairs 59 = .ok (.if_icmp .ge 38, 3) := by decide +kernel
theorem dX4_refusePairs_62 : decode cX4_refusePairs 62 = .ok (.aload_n 0, 1) := by decide +kernel
theorem dX4_refusePairs_63 : decode cX4_refusePairs 63 = .ok (.getfield 14, 3) := by decide +kernel
theorem dX4_refusePairs_66 : decode cX4_refusePairs 66 = .ok (.iload_n 2, 1) := by decide +kernel
theorem dX4_refusePairs_67 : decode cX4_refusePairs 67 = .ok (.iload 5, 2) := by decide +kernel
theorem dX4_refusePairs_69 : decode cX4_refusePairs 69 = .ok (.invokevirtual 93, 3) := by decide +kernel
theorem dX4_refusePairs_72 : decode cX4_refusePairs 72 = .ok (.aload_n 0, 1) := by decide +kernel
theorem dX4_refusePairs_73 : decode cX4_refusePairs 73 = .ok (.getfield 27, 3) := by decide +kernel
theorem dX4_refusePairs_76 : decode cX4_refusePairs 76 = .ok (.invokevirtual 216, 3) := by decide +kernel
theorem dX4_refusePairs_79 : decode cX4_refusePairs 79 = .ok (.invokestatic 81, 3) := by decide +kernel
theorem dX4_refusePairs_82 : decode cX4_refusePairs 82 = .ok (.ifCond .ne 9, 3) := by decide +kernel
theorem dX4_refusePairs_85 : decode cX4_refusePairs 85 = .ok (.aload_n 0, 1) := by decide +kernel
theorem dX4_refusePairs_86 : decode cX4_refusePairs 86 = .ok (.iconst 3, 1) := by decide +kernel
theorem dX4_refusePairs_87 : decode cX4_refusePairs 87 = .ok (.invokevirtual 85, 3) := by decide +kernel
theorem dX4_refusePairs_90 : decode cX4_refusePairs 90 = .ok (.ireturn, 1) := by decide +kernel
theorem dX4_refusePairs_91 : decode cX4_refusePairs 91 = .ok (.iinc 5 1, 3) := by decide +kernel
theorem dX4_refusePairs_94 : decode cX4_refusePairs 94 = .ok (.goto (-39), 3) := by decide +kernel
theorem dX4_refusePairs_97 : decode cX4_refusePairs 97 = .ok (.iconst 0, 1) := by decide +kernel
theorem dX4_refusePairs_98 : decode cX4_refusePairs 98 = .ok (.ireturn, 1) := by decide +kernel
theorem dX4_refuseChance_0 : decode cX4_refuseChance 0 = .ok (.iload_n 1, 1) := by decide +kernel
theorem dX4_refuseChance_1 : decode cX4_refuseChance 1 = .ok (.ifCond .lt 9, 3) := by decide +kernel
theorem dX4_refuseChance_4 : decode cX4_refuseChance 4 = .ok (.iload_n 1, 1) := by decide +kernel
theorem dX4_refuseChance_5 : decode cX4_refuseChance 5 = .ok (.bipush 12, 2) := by decide +kernel
theorem dX4_refuseChance_7 : decode cX4_refuseChance 7 = .ok (.if_icmp .le 5, 3) := by decide +kernel
theorem dX4_refuseChance_10 : decode cX4_refuseChance 10 = .ok (.iconst (-1), 1) := by decide +kernel
theorem dX4_refuseChance_11 : decode cX4_refuseChance 11 = .ok (.ireturn, 1) := by decide +kernel
theorem dX4_refuseChance_12 : decode cX4_refuseChance 12 = .ok (.aload_n 0, 1) := by decide +kernel
theorem dX4_refuseChance_13 : decode cX4_refuseChance 13 = .ok (.getfield 27, 3) := by decide +kernel
theorem dX4_refuseChance_16 : decode cX4_refuseChance 16 = .ok (.getfield 137, 3) := by decide +kernel
theorem dX4_refuseChance_19 : decode cX4_refuseChance 19 = .ok (.ifCond .ne 8, 3) := by decide +kernel
theorem dX4_refuseChance_22 : decode cX4_refuseChance 22 = .ok (.bipush (-4), 2) := by decide +kernel
theorem dX4_refuseChance_24 : decode cX4_refuseChance 24 = .ok (.goto 4, 3) := by decide +kernel
theorem dX4_refuseChance_27 : decode cX4_refuseChance 27 = .ok (.iconst 0, 1) := by decide +kernel
theorem dX4_refuseChance_28 : decode cX4_refuseChance 28 = .ok (.ireturn, 1) := by decide +kernel
theorem dX4_hasNoRoomFor_0 : decode cX4_hasNoRoomFor 0 = .ok (.aload_n 0, 1) := by decide +kernel
theorem dX4_hasNoRoomFor_1 : decode cX4_hasNoRoomFor 1 = .ok (.getfield 21, 3) := by decide +kernel
theorem dX4_hasNoRoomFor_4 : decode cX4_hasNoRoomFor 4 = .ok (.iconst 3, 1) := by decide +kernel
theorem dX4_hasNoRoomFor_5 : decode cX4_hasNoRoomFor 5 = .ok (.invokevirtual 120, 3) := by decide +kernel
theorem dX4_hasNoRoomFor_8 : decode cX4_hasNoRoomFor 8 = .ok (.iload_n 1, 1) := by decide +kernel
theorem dX4_hasNoRoomFor_9 : decode cX4_hasNoRoomFor 9 = .ok (.iadd, 1) := by decide +kernel
theorem dX4_hasNoRoomFor_10 : decode cX4_hasNoRoomFor 10 = .ok (.bipush 40, 2) := by decide +kernel
theorem dX4_hasNoRoomFor_12 : decode cX4_hasNoRoomFor 12 = .ok (.if_icmp .le 7, 3) := by decide +kernel
theorem dX4_hasNoRoomFor_15 : decode cX4_hasNoRoomFor 15 = .ok (.iconst 1, 1) := by decide +kernel
theorem dX4_hasNoRoomFor_16 : decode cX4_hasNoRoomFor 16 = .ok (.goto 4, 3) := by decide +kernel
theorem dX4_hasNoRoomFor_19 : decode cX4_hasNoRoomFor 19 = .ok (.iconst 0, 1) := by decide +kernel
theorem dX4_hasNoRoomFor_20 : decode cX4_hasNoRoomFor 20 = .ok (.ireturn, 1) := by decide +kernel
theorem dX4_perform_0 : decode cX4_perform 0 = .ok (.aload_n 0, 1) := by decide +kernel
theorem dX4_perform_1 : decode cX4_perform 1 = .ok (.getfield 21, 3) := by decide +kernel
theorem dX4_perform_4 : decode cX4_perform 4 = .ok (.iconst 3, 1) := by decide +kernel
theorem dX4_perform_5 : decode cX4_perform 5 = .ok (.iload_n 1, 1) := by decide +kernel
theorem dX4_perform_6 : decode cX4_perform 6 = .ok (.invokevirtual 319, 3) := by decide +kernel
theorem dX4_perform_9 : decode cX4_perform 9 = .ok (.aload_n 0, 1) := by decide +kernel
theorem dX4_perform_10 : decode cX4_perform 10 = .ok (.getfield 37, 3) := by decide +kernel
theorem dX4_perform_13 : decode cX4_perform 13 = .ok (.iload_n 1, 1) := by decide +kernel
theorem dX4_perform_14 : decode cX4_perform 14 = .ok (.invokevirtual 322, 3) := by decide +kernel
theorem dX4_perform_17 : decode cX4_perform 17 = .ok (.return_, 1) := by decide +kernel
theorem dX4_replay_0 : decode cX4_replay 0 = .ok (.aload_n 0, 1) := by decide +kernel
theorem dX4_replay_1 : decode cX4_replay 1 = .ok (.getfield 37, 3) := by decide +kernel
theorem dX4_replay_4 : decode cX4_replay 4 = .ok (.invokevirtual 134, 3) := by decide +kernel
theorem dX4_replay_7 : decode cX4_replay 7 = .ok (.aload_n 0, 1) := by decide +kernel
theorem dX4_replay_8 : decode cX4_replay 8 = .ok (.getfield 21, 3) := by decide +kernel
theorem dX4_replay_11 : decode cX4_replay 11 = .ok (.iconst 3, 1) := by decide +kernel
theorem dX4_replay_12 : decode cX4_replay 12 = .ok (.invokevirtual 120, 3) := by decide +kernel
theorem dX4_replay_15 : decode cX4_replay 15 = .ok (.istore_n 1, 1) := by decide +kernel
theorem dX4_replay_16 : decode cX4_replay 16 = .ok (.iconst 0, 1) := by decide +kernel
theorem dX4_replay_17 : decode cX4_replay 17 = .ok (.istore_n 2, 1) := by decide +kernel
theorem dX4_replay_18 : decode cX4_replay 18 = .ok (.iload_n 2, 1) := by decide +kernel
theorem dX4_replay_19 : decode cX4_replay 19 = .ok (.iload_n 1, 1) := by decide +kernel
theorem dX4_replay_20 : decode cX4_replay 20 = .ok (.if_icmp .ge 25, 3) := by decide +kernel
theorem dX4_replay_23 : decode cX4_replay 23 = .ok (.aload_n 0, 1) := by decide +kernel
theorem dX4_replay_24 : decode cX4_replay 24 = .ok (.getfield 37, 3) := by decide +kernel
theorem dX4_replay_27 : decode cX4_replay 27 = .ok (.aload_n 0, 1) := by decide +kernel
theorem dX4_replay_28 : decode cX4_replay 28 = .ok (.getfield 21, 3) := by decide +kernel
theorem dX4_replay_31 : decode cX4_replay 31 = .ok (.iconst 3, 1) := by decide +kernel
theorem dX4_replay_32 : decode cX4_replay 32 = .ok (.iload_n 2, 1) := by decide +kernel
theorem dX4_replay_33 : decode cX4_replay 33 = .ok (.invokevirtual 93, 3) := by decide +kernel
theorem dX4_replay_36 : decode cX4_replay 36 = .ok (.invokevirtual 322, 3) := by decide +kernel
theorem dX4_replay_39 : decode cX4_replay 39 = .ok (.iinc 2 1, 3) := by decide +kernel
theorem dX4_replay_42 : decode cX4_replay 42 = .ok (.goto (-24), 3) := by decide +kernel
theorem dX4_replay_45 : decode cX4_replay 45 = .ok (.return_, 1) := by decide +kernel
theorem dX4_deedByLot_0 : decode cX4_deedByLot 0 = .ok (.lload_n 1, 1) := by decide +kernel
theorem dX4_deedByLot_1 : decode cX4_deedByLot 1 = .ok (.ldc2_w 325, 3) := by decide +kernel
theorem dX4_deedByLot_4 : decode cX4_deedByLot 4 = .ok (.lrem, 1) := by decide +kernel
theorem dX4_deedByLot_5 : decode cX4_deedByLot 5 = .ok (.l2i, 1) := by decide +kernel
theorem dX4_deedByLot_6 : decode cX4_deedByLot 6 = .ok (.istore_n 3, 1) := by decide +kernel
theorem dX4_deedByLot_7 : decode cX4_deedByLot 7 = .ok (.lload_n 1, 1) := by decide +kernel
theorem dX4_deedByLot_8 : decode cX4_deedByLot 8 = .ok (.ldc2_w 325, 3) := by decide +kernel
theorem dX4_deedByLot_11 : decode cX4_deedByLot 11 = .ok (.ldiv, 1) := by decide +kernel
theorem dX4_deedByLot_12 : decode cX4_deedByLot 12 = .ok (.lstore 4, 2) := by decide +kernel
theorem dX4_deedByLot_14 : decode cX4_deedByLot 14 = .ok (.iload_n 3, 1) := by decide +kernel
theorem dX4_deedByLot_15 : decode cX4_deedByLot 15 = .ok (.ifCond .ne 14, 3) := by decide +kernel
theorem dX4_deedByLot_18 : decode cX4_deedByLot 18 = .ok (.bipush 8, 2) := by decide +kernel
theorem dX4_deedByLot_20 : decode cX4_deedByLot 20 = .ok (.lload 4, 2) := by decide +kernel
theorem dX4_deedByLot_22 : decode cX4_deedByLot 22 = .ok (.ldc2_w 327, 3) := by decide +kernel
theorem dX4_deedByLot_25 : decode cX4_deedByLot 25 = .ok (.lrem, 1) := by decide +kernel
theorem dX4_deedByLot_26 : decode cX4_deedByLot 26 = .ok (.l2i, 1) := by decide +kernel
theorem dX4_deedByLot_27 : decode cX4_deedByLot 27 = .ok (.iadd, 1) := by decide +kernel
theorem dX4_deedByLot_28 : decode cX4_deedByLot 28 = .ok (.ireturn, 1) := by decide +kernel
theorem dX4_deedByLot_29 : decode cX4_deedByLot 29 = .ok (.iload_n 3, 1) := by decide +kernel
theorem dX4_deedByLot_30 : decode cX4_deedByLot 30 = .ok (.iconst 3, 1) := by decide +kernel
theorem dX4_deedByLot_31 : decode cX4_deedByLot 31 = .ok (.if_icmp .le 13, 3) := by decide +kernel
theorem dX4_deedByLot_34 : decode cX4_deedByLot 34 = .ok (.aload_n 0, 1) := by decide +kernel
theorem dX4_deedByLot_35 : decode cX4_deedByLot 35 = .ok (.getfield 27, 3) := by decide +kernel
theorem dX4_deedByLot_38 : decode cX4_deedByLot 38 = .ok (.getfield 137, 3) := by decide +kernel
theorem dX4_deedByLot_41 : decode cX4_deedByLot 41 = .ok (.ifCond .ne 6, 3) := by decide +kernel
theorem dX4_deedByLot_44 : decode cX4_deedByLot 44 = .ok (.bipush 7, 2) := by decide +kernel
theorem dX4_deedByLot_46 : decode cX4_deedByLot 46 = .ok (.ireturn, 1) := by decide +kernel
theorem dX4_deedByLot_47 : decode cX4_deedByLot 47 = .ok (.lload 4, 2) := by decide +kernel
theorem dX4_deedByLot_49 : decode cX4_deedByLot 49 = .ok (.aload_n 0, 1) := by decide +kernel
theorem dX4_deedByLot_50 : decode cX4_deedByLot 50 = .ok (.getfield 27, 3) := by decide +kernel
theorem dX4_deedByLot_53 : decode cX4_deedByLot 53 = .ok (.getfield 137, 3) := by decide +kernel
theorem dX4_deedByLot_56 : decode cX4_deedByLot 56 = .ok (.i2l, 1) := by decide +kernel
theorem dX4_deedByLot_57 : decode cX4_deedByLot 57 = .ok (.lrem, 1) := by decide +kernel
theorem dX4_deedByLot_58 : decode cX4_deedByLot 58 = .ok (.l2i, 1) := by decide +kernel
theorem dX4_deedByLot_59 : decode cX4_deedByLot 59 = .ok (.ireturn, 1) := by decide +kernel
theorem dX4_holds_0 : decode cX4_holds 0 = .ok (.iload_n 0, 1) := by decide +kernel
theorem dX4_holds_1 : decode cX4_holds 1 = .ok (.iload_n 1, 1) := by decide +kernel
theorem dX4_holds_2 : decode cX4_holds 2 = .ok (.ishr, 1) := by decide +kernel
theorem dX4_holds_3 : decode cX4_holds 3 = .ok (.iconst 1, 1) := by decide +kernel
theorem dX4_holds_4 : decode cX4_holds 4 = .ok (.iand, 1) := by decide +kernel
theorem dX4_holds_5 : decode cX4_holds 5 = .ok (.ifCond .eq 7, 3) := by decide +kernel
theorem dX4_holds_8 : decode cX4_holds 8 = .ok (.iconst 1, 1) := by decide +kernel
theorem dX4_holds_9 : decode cX4_holds 9 = .ok (.goto 4, 3) := by decide +kernel
theorem dX4_holds_12 : decode cX4_holds 12 = .ok (.iconst 0, 1) := by decide +kernel
theorem dX4_holds_13 : decode cX4_holds 13 = .ok (.ireturn, 1) := by decide +kernel
theorem dX4_isOf_0 : decode cX4_isOf 0 = .ok (.iload_n 0, 1) := by decide +kernel
theorem dX4_isOf_1 : decode cX4_isOf 1 = .ok (.iload_n 1, 1) := by decide +kernel
theorem dX4_isOf_2 : decode cX4_isOf 2 = .ok (.if_icmp .eq 21, 3) := by decide +kernel
theorem dX4_isOf_5 : decode cX4_isOf 5 = .ok (.iload_n 0, 1) := by decide +kernel
theorem dX4_isOf_6 : decode cX4_isOf 6 = .ok (.bipush 6, 2) := by decide +kernel
theorem dX4_isOf_8 : decode cX4_isOf 8 = .ok (.invokestatic 81, 3) := by decide +kernel
theorem dX4_isOf_11 : decode cX4_isOf 11 = .ok (.ifCond .eq 16, 3) := by decide +kernel
theorem dX4_isOf_14 : decode cX4_isOf 14 = .ok (.getstatic 329, 3) := by decide +kernel
theorem dX4_isOf_17 : decode cX4_isOf 17 = .ok (.iload_n 0, 1) := by decide +kernel
theorem dX4_isOf_18 : decode cX4_isOf 18 = .ok (.iaload, 1) := by decide +kernel
theorem dX4_isOf_19 : decode cX4_isOf 19 = .ok (.iload_n 1, 1) := by decide +kernel
theorem dX4_isOf_20 : decode cX4_isOf 20 = .ok (.if_icmp .ne 7, 3) := by decide +kernel
theorem dX4_isOf_23 : decode cX4_isOf 23 = .ok (.iconst 1, 1) := by decide +kernel
theorem dX4_isOf_24 : decode cX4_isOf 24 = .ok (.goto 4, 3) := by decide +kernel
theorem dX4_isOf_27 : decode cX4_isOf 27 = .ok (.iconst 0, 1) := by decide +kernel
theorem dX4_isOf_28 : decode cX4_isOf 28 = .ok (.ireturn, 1) := by decide +kernel
theorem dX4_toldNow_0 : decode cX4_toldNow 0 = .ok (.aload_n 0, 1) := by decide +kernel
theorem dX4_toldNow_1 : decode cX4_toldNow 1 = .ok (.aload_n 0, 1) := by decide +kernel
theorem dX4_toldNow_2 : decode cX4_toldNow 2 = .ok (.getfield 37, 3) := by decide +kernel
theorem dX4_toldNow_5 : decode cX4_toldNow 5 = .ok (.invokevirtual 206, 3) := by decide +kernel
theorem dX4_toldNow_8 : decode cX4_toldNow 8 = .ok (.ireturn, 1) := by decide +kernel
theorem dX4_toldAt_0 : decode cX4_toldAt 0 = .ok (.aload_n 0, 1) := by decide +kernel
theorem dX4_toldAt_1 : decode cX4_toldAt 1 = .ok (.getfield 47, 3) := by decide +kernel
theorem dX4_toldAt_4 : decode cX4_toldAt 4 = .ok (.aload_n 0, 1) := by decide +kernel
theorem dX4_toldAt_5 : decode cX4_toldAt 5 = .ok (.getfield 27, 3) := by decide +kernel
theorem dX4_toldAt_8 : decode cX4_toldAt 8 = .ok (.aload_n 1, 1) := by decide +kernel
theorem dX4_toldAt_9 : decode cX4_toldAt 9 = .ok (.invokevirtual 175, 3) := by decide +kernel
theorem dX4_toldAt_12 : decode cX4_toldAt 12 = .ok (.aload_n 0, 1) := by decide +kernel
theorem dX4_toldAt_13 : decode cX4_toldAt 13 = .ok (.getfield 47, 3) := by decide +kernel
theorem dX4_toldAt_16 : decode cX4_toldAt 16 = .ok (.aload_n 1, 1) := by decide +kernel
theorem dX4_toldAt_17 : decode cX4_toldAt 17 = .ok (.getfield 179, 3) := by decide +kernel
theorem dX4_toldAt_20 : decode cX4_toldAt 20 = .ok (.invokevirtual 219, 3) := by decide +kernel
theorem dX4_toldAt_23 : decode cX4_toldAt 23 = .ok (.ireturn, 1) := by decide +kernel
theorem dX4_keyFact_0 : decode cX4_keyFact 0 = .ok (.iload_n 2, 1) := by decide +kernel
theorem dX4_keyFact_1 : decode cX4_keyFact 1 = .ok (.tableswitch 128 0 6 #[43, 52, 61, 70, 79, 91, 100], 43) := by decide +kernel
theorem dX4_keyFact_44 : decode cX4_keyFact 44 = .ok (.aload_n 0, 1) := by decide +kernel
theorem dX4_keyFact_45 : decode cX4_keyFact 45 = .ok (.getfield 27, 3) := by decide +kernel
theorem dX4_keyFact_48 : decode cX4_keyFact 48 = .ok (.iload_n 1, 1) := by decide +kernel
theorem dX4_keyFact_49 : decode cX4_keyFact 49 = .ok (.invokevirtual 143, 3) := by decide +kernel
theorem dX4_keyFact_52 : decode cX4_keyFact 52 = .ok (.ireturn, 1) := by decide +kernel
theorem dX4_keyFact_53 : decode cX4_keyFact 53 = .ok (.aload_n 0, 1) := by decide +kernel
theorem dX4_keyFact_54 : decode cX4_keyFact 54 = .ok (.getfield 27, 3) := by decide +kernel
theorem dX4_keyFact_57 : decode cX4_keyFact 57 = .ok (.iload_n 1, 1) := by decide +kernel
theorem dX4_keyFact_58 : decode cX4_keyFact 58 = .ok (.invokevirtual 332, 3) := by decide +kernel
theorem dX4_keyFact_61 : decode cX4_keyFact 61 = .ok (.ireturn, 1) := by decide +kernel
theorem dX4_keyFact_62 : decode cX4_keyFact 62 = .ok (.aload_n 0, 1) := by decide +kernel
theorem dX4_keyFact_63 : decode cX4_keyFact 63 = .ok (.getfield 27, 3) := by decide +kernel
theorem dX4_keyFact_66 : decode cX4_keyFact 66 = .ok (.iload_n 1, 1) := by decide +kernel
theorem dX4_keyFact_67 : decode cX4_keyFact 67 = .ok (.invokevirtual 335, 3) := by decide +kernel
theorem dX4_keyFact_70 : decode cX4_keyFact 70 = .ok (.ireturn, 1) := by decide +kernel
theorem dX4_keyFact_71 : decode cX4_keyFact 71 = .ok (.aload_n 0, 1) := by decide +kernel
theorem dX4_keyFact_72 : decode cX4_keyFact 72 = .ok (.getfield 27, 3) := by decide +kernel
theorem dX4_keyFact_75 : decode cX4_keyFact 75 = .ok (.iload_n 1, 1) := by decide +kernel
theorem dX4_keyFact_76 : decode cX4_keyFact 76 = .ok (.invokevirtual 164, 3) := by decide +kernel
theorem dX4_keyFact_79 : decode cX4_keyFact 79 = .ok (.ireturn, 1) := by decide +kernel
theorem dX4_keyFact_80 : decode cX4_keyFact 80 = .ok (.aload_n 0, 1) := by decide +kernel
theorem dX4_keyFact_81 : decode cX4_keyFact 81 = .ok (.getfield 37, 3) := by decide +kernel
theorem dX4_keyFact_84 : decode cX4_keyFact 84 = .ok (.getfield 179, 3) := by decide +kernel
theorem dX4_keyFact_87 : decode cX4_keyFact 87 = .ok (.iload_n 1, 1) := by decide +kernel
theorem dX4_keyFact_88 : decode cX4_keyFact 88 = .ok (.ishr, 1) := by decide +kernel
theorem dX4_keyFact_89 : decode cX4_keyFact 89 = .ok (.iconst 1, 1) := by decide +kernel
theorem dX4_keyFact_90 : decode cX4_keyFact 90 = .ok (.iand, 1) := by decide +kernel
theorem dX4_keyFact_91 : decode cX4_keyFact 91 = .ok (.ireturn, 1) := by decide +kernel
theorem dX4_keyFact_92 : decode cX4_keyFact 92 = .ok (.aload_n 0, 1) := by decide +kernel
theorem dX4_keyFact_93 : decode cX4_keyFact 93 = .ok (.getfield 37, 3) := by decide +kernel
theorem dX4_keyFact_96 : decode cX4_keyFact 96 = .ok (.iload_n 1, 1) := by decide +kernel
theorem dX4_keyFact_97 : decode cX4_keyFact 97 = .ok (.invokevirtual 167, 3) := by decide +kernel
theorem dX4_keyFact_100 : decode cX4_keyFact 100 = .ok (.ireturn, 1) := by decide +kernel
theorem dX4_keyFact_101 : decode cX4_keyFact 101 = .ok (.aload_n 0, 1) := by decide +kernel
theorem dX4_keyFact_102 : decode cX4_keyFact 102 = .ok (.getfield 27, 3) := by decide +kernel
theorem dX4_keyFact_105 : decode cX4_keyFact 105 = .ok (.iload_n 1, 1) := by decide +kernel
theorem dX4_keyFact_106 : decode cX4_keyFact 106 = .ok (.aload_n 0, 1) := by decide +kernel
theorem dX4_keyFact_107 : decode cX4_keyFact 107 = .ok (.getfield 37, 3) := by decide +kernel
theorem dX4_keyFact_110 : decode cX4_keyFact 110 = .ok (.aload_n 0, 1) := by decide +kernel
theorem dX4_keyFact_111 : decode cX4_keyFact 111 = .ok (.getfield 37, 3) := by decide +kernel
theorem dX4_keyFact_114 : decode cX4_keyFact 114 = .ok (.getfield 179, 3) := by decide +kernel
theorem dX4_keyFact_117 : decode cX4_keyFact 117 = .ok (.invokevirtual 338, 3) := by decide +kernel
theorem dX4_keyFact_120 : decode cX4_keyFact 120 = .ok (.ifCond .eq 7, 3) := by decide +kernel
theorem dX4_keyFact_123 : decode cX4_keyFact 123 = .ok (.iconst 1, 1) := by decide +kernel
theorem dX4_keyFact_124 : decode cX4_keyFact 124 = .ok (.goto 4, 3) := by decide +kernel
theorem dX4_keyFact_127 : decode cX4_keyFact 127 = .ok (.iconst 0, 1) := by decide +kernel
theorem dX4_keyFact_128 : decode cX4_keyFact 128 = .ok (.ireturn, 1) := by decide +kernel
theorem dX4_keyFact_129 : decode cX4_keyFact 129 = .ok (.aload_n 0, 1) := by decide +kernel
theorem dX4_keyFact_130 : decode cX4_keyFact 130 = .ok (.invokevirtual 152, 3) := by decide +kernel
theorem dX4_keyFact_133 : decode cX4_keyFact 133 = .ok (.iload_n 1, 1) := by decide +kernel
theorem dX4_keyFact_134 : decode cX4_keyFact 134 = .ok (.ishr, 1) := by decide +kernel
theorem dX4_keyFact_135 : decode cX4_keyFact 135 = .ok (.iconst 1, 1) := by decide +kernel
theorem dX4_keyFact_136 : decode cX4_keyFact 136 = .ok (.iand, 1) := by decide +kernel
theorem dX4_keyFact_137 : decode cX4_keyFact 137 = .ok (.ireturn, 1) := by decide +kernel
theorem dX4_toldWerePlain_0 : decode cX4_toldWerePlain 0 = .ok (.aload_n 0, 1) := by decide +kernel
theorem dX4_toldWerePlain_1 : decode cX4_toldWerePlain 1 = .ok (.getfield 31, 3) := by decide +kernel
theorem dX4_toldWerePlain_4 : decode cX4_toldWerePlain 4 = .ok (.aload_n 0, 1) := by decide +kernel
theorem dX4_toldWerePlain_5 : decode cX4_toldWerePlain 5 = .ok (.getfield 27, 3) := by decide +kernel
theorem dX4_toldWerePlain_8 : decode cX4_toldWerePlain 8 = .ok (.invokevirtual 130, 3) := by decide +kernel
theorem dX4_toldWerePlain_11 : decode cX4_toldWerePlain 11 = .ok (.aload_n 0, 1) := by decide +kernel
theorem dX4_toldWerePlain_12 : decode cX4_toldWerePlain 12 = .ok (.getfield 31, 3) := by decide +kernel
theorem dX4_toldWerePlain_15 : decode cX4_toldWerePlain 15 = .ok (.iload_n 1, 1) := by decide +kernel
theorem dX4_toldWerePlain_16 : decode cX4_toldWerePlain 16 = .ok (.iconst 0, 1) := by decide +kernel
theorem dX4_toldWerePlain_17 : decode cX4_toldWerePlain 17 = .ok (.invokevirtual 235, 3) := by decide +kernel
theorem dX4_toldWerePlain_20 : decode cX4_toldWerePlain 20 = .ok (.aload_n 0, 1) := by decide +kernel
theorem dX4_toldWerePlain_21 : decode cX4_toldWerePlain 21 = .ok (.getfield 47, 3) := by decide +kernel
theorem dX4_toldWerePlain_24 : decode cX4_toldWerePlain 24 = .ok (.aload_n 0, 1) := by decide +kernel
theorem dX4_toldWerePlain_25 : decode cX4_toldWerePlain 25 = .ok (.getfield 31, 3) := by decide +kernel
theorem dX4_toldWerePlain_28 : decode cX4_toldWerePlain 28 = .ok (.aload_n 0, 1) := by decide +kernel
theorem dX4_toldWerePlain_29 : decode cX4_toldWerePlain 29 = .ok (.getfield 37, 3) := by decide +kernel
theorem dX4_toldWerePlain_32 : decode cX4_toldWerePlain 32 = .ok (.invokevirtual 175, 3) := by decide +kernel
theorem dX4_toldWerePlain_35 : decode cX4_toldWerePlain 35 = .ok (.aload_n 0, 1) := by decide +kernel
theorem dX4_toldWerePlain_36 : decode cX4_toldWerePlain 36 = .ok (.getfield 47, 3) := by decide +kernel
theorem dX4_toldWerePlain_39 : decode cX4_toldWerePlain 39 = .ok (.aload_n 0, 1) := by decide +kernel
theorem dX4_toldWerePlain_40 : decode cX4_toldWerePlain 40 = .ok (.getfield 37, 3) := by decide +kernel
theorem dX4_toldWerePlain_43 : decode cX4_toldWerePlain 43 = .ok (.getfield 179, 3) := by decide +kernel
theorem dX4_toldWerePlain_46 : decode cX4_toldWerePlain 46 = .ok (.invokevirtual 219, 3) := by decide +kernel
theorem dX4_toldWerePlain_49 : decode cX4_toldWerePlain 49 = .ok (.invokestatic 156, 3) := by decide +kernel
theorem dX4_toldWerePlain_52 : decode cX4_toldWerePlain 52 = .ok (.ireturn, 1) := by decide +kernel
theorem dX4_scansConducting_0 : decode cX4_scansConducting 0 = .ok (.aload_n 0, 1) := by decide +kernel
theorem dX4_scansConducting_1 : decode cX4_scansConducting 1 = .ok (.getfield 31, 3) := by decide +kernel
theorem dX4_scansConducting_4 : decode cX4_scansConducting 4 = .ok (.aload_n 0, 1) := by decide +kernel
theorem dX4_scansConducting_5 : decode cX4_scansConducting 5 = .ok (.getfield 27, 3) := by decide +kernel
theorem dX4_scansConducting_8 : decode cX4_scansConducting 8 = .ok (.invokevirtual 130, 3) := by decide +kernel
theorem dX4_scansConducting_11 : decode cX4_scansConducting 11 = .ok (.aload_n 0, 1) := by decide +kernel
theorem dX4_scansConducting_12 : decode cX4_scansConducting 12 = .ok (.getfield 31, 3) := by decide +kernel
theorem dX4_scansConducting_15 : decode cX4_scansConducting 15 = .ok (.iload_n 1, 1) := by decide +kernel
theorem dX4_scansConducting_16 : decode cX4_scansConducting 16 = .ok (.iload_n 2, 1) := by decide +kernel
theorem dX4_scansConducting_17 : decode cX4_scansConducting 17 = .ok (.invokevirtual 235, 3) := by decide +kernel
theorem dX4_scansConducting_20 : decode cX4_scansConducting 20 = .ok (.aload_n 0, 1) := by decide +kernel
theorem dX4_scansConducting_21 : decode cX4_scansConducting 21 = .ok (.getfield 41, 3) := by decide +kernel
theorem dX4_scansConducting_24 : decode cX4_scansConducting 24 = .ok (.aload_n 0, 1) := by decide +kernel
theorem dX4_scansConducting_25 : decode cX4_scansConducting 25 = .ok (.getfield 37, 3) := by decide +kernel
theorem dX4_scansConducting_28 : decode cX4_scansConducting 28 = .ok (.invokevirtual 203, 3) := by decide +kernel
theorem dX4_scansConducting_31 : decode cX4_scansConducting 31 = .ok (.iconst 0, 1) := by decide +kernel
theorem dX4_scansConducting_32 : decode cX4_scansConducting 32 = .ok (.istore_n 3, 1) := by decide +kernel
theorem dX4_scansConducting_33 : decode cX4_scansConducting 33 = .ok (.iconst 0, 1) := by decide +kernel
theorem dX4_scansConducting_34 : decode cX4_scansConducting 34 = .ok (.istore 4, 2) := by decide +kernel
theorem dX4_scansConducting_36 : decode cX4_scansConducting 36 = .ok (.iload 4, 2) := by decide +kernel
theorem dX4_scansConducting_38 : decode cX4_scansConducting 38 = .ok (.bipush 8, 2) := by decide +kernel
theorem dX4_scansConducting_40 : decode cX4_scansConducting 40 = .ok (.if_icmp .ge 37, 3) := by decide +kernel
theorem dX4_scansConducting_43 : decode cX4_scansConducting 43 = .ok (.aload_n 0, 1) := by decide +kernel
theorem dX4_scansConducting_44 : decode cX4_scansConducting 44 = .ok (.getfield 31, 3) := by decide +kernel
theorem dX4_scansConducting_47 : decode cX4_scansConducting 47 = .ok (.iload_n 1, 1) := by decide +kernel
theorem dX4_scansConducting_48 : decode cX4_scansConducting 48 = .ok (.aload_n 0, 1) := by decide +kernel
theorem dX4_scansConducting_49 : decode cX4_scansConducting 49 = .ok (.getfield 41, 3) := by decide +kernel
theorem dX4_scansConducting_52 : decode cX4_scansConducting 52 = .ok (.iconst 1, 1) := by decide +kernel
theorem dX4_scansConducting_53 : decode cX4_scansConducting 53 = .ok (.iload_n 1, 1) := by decide +kernel
theorem dX4_scansConducting_54 : decode cX4_scansConducting 54 = .ok (.ishl, 1) := by decide +kernel
theorem dX4_scansConducting_55 : decode cX4_scansConducting 55 = .ok (.invokevirtual 338, 3) := by decide +kernel
theorem dX4_scansConducting_58 : decode cX4_scansConducting 58 = .ok (.ifCond .eq 6, 3) := by decide +kernel
theorem dX4_scansConducting_61 : decode cX4_scansConducting 61 = .ok (.iinc 3 1, 3) := by decide +kernel
theorem dX4_scansConducting_64 : decode cX4_scansConducting 64 = .ok (.aload_n 0, 1) := by decide +kernel
theorem dX4_scansConducting_65 : decode cX4_scansConducting 65 = .ok (.getfield 41, 3) := by decide +kernel
theorem dX4_scansConducting_68 : decode cX4_scansConducting 68 = .ok (.invokevirtual 210, 3) := by decide +kernel
theorem dX4_scansConducting_71 : decode cX4_scansConducting 71 = .ok (.iinc 4 1, 3) := by decide +kernel
theorem dX4_scansConducting_74 : decode cX4_scansConducting 74 = .ok (.goto (-38), 3) := by decide +kernel
theorem dX4_scansConducting_77 : decode cX4_scansConducting 77 = .ok (.iload_n 3, 1) := by decide +kernel
theorem dX4_scansConducting_78 : decode cX4_scansConducting 78 = .ok (.ireturn, 1) := by decide +kernel
theorem dX4_isAmongFirst_0 : decode cX4_isAmongFirst 0 = .ok (.iconst 0, 1) := by decide +kernel
theorem dX4_isAmongFirst_1 : decode cX4_isAmongFirst 1 = .ok (.istore_n 3, 1) := by decide +kernel
theorem dX4_isAmongFirst_2 : decode cX4_isAmongFirst 2 = .ok (.iload_n 3, 1) := by decide +kernel
theorem dX4_isAmongFirst_3 : decode cX4_isAmongFirst 3 = .ok (.iload_n 1, 1) := by decide +kernel
theorem dX4_isAmongFirst_4 : decode cX4_isAmongFirst 4 = .ok (.if_icmp .ge 28, 3) := by decide +kernel
theorem dX4_isAmongFirst_7 : decode cX4_isAmongFirst 7 = .ok (.iload_n 3, 1) := by decide +kernel
theorem dX4_isAmongFirst_8 : decode cX4_isAmongFirst 8 = .ok (.sipush 128, 3) := by decide +kernel
theorem dX4_isAmongFirst_11 : decode cX4_isAmongFirst 11 = .ok (.if_icmp .ge 21, 3) := by decide +kernel
theorem dX4_isAmongFirst_14 : decode cX4_isAmongFirst 14 = .ok (.aload_n 0, 1) := by decide +kernel
theorem dX4_isAmongFirst_15 : decode cX4_isAmongFirst 15 = .ok (.getfield 51, 3) := by decide +kernel
theorem dX4_isAmongFirst_18 : decode cX4_isAmongFirst 18 = .ok (.iload_n 3, 1) := by decide +kernel
theorem dX4_isAmongFirst_19 : decode cX4_isAmongFirst 19 = .ok (.iaload, 1) := by decide +kernel
theorem dX4_isAmongFirst_20 : decode cX4_isAmongFirst 20 = .ok (.iload_n 2, 1) := by decide +kernel
theorem dX4_isAmongFirst_21 : decode cX4_isAmongFirst 21 = .ok (.if_icmp .ne 5, 3) := by decide +kernel
theorem dX4_isAmongFirst_24 : decode cX4_isAmongFirst 24 = .ok (.iconst 1, 1) := by decide +kernel
theorem dX4_isAmongFirst_25 : decode cX4_isAmongFirst 25 = .ok (.ireturn, 1) := by decide +kernel
theorem dX4_isAmongFirst_26 : decode cX4_isAmongFirst 26 = .ok (.iinc 3 1, 3) := by decide +kernel
theorem dX4_isAmongFirst_29 : decode cX4_isAmongFirst 29 = .ok (.goto (-27), 3) := by decide +kernel
theorem dX4_isAmongFirst_32 : decode cX4_isAmongFirst 32 = .ok (.iconst 0, 1) := by decide +kernel
theorem dX4_isAmongFirst_33 : decode cX4_isAmongFirst 33 = .ok (.ireturn, 1) := by decide +kernel
theorem dX4_fillBySet_0 : decode cX4_fillBySet 0 = .ok (.aload_n 0, 1) := by decide +kernel
theorem dX4_fillBySet_1 : decode cX4_fillBySet 1 = .ok (.getfield 47, 3) := by decide +kernel
theorem dX4_fillBySet_4 : decode cX4_fillBySet 4 = .ok (.aload_n 0, 1) := by decide +kernel
theorem dX4_fillBySet_5 : decode cX4_fillBySet 5 = .ok (.getfield 27, 3) := by decide +kernel
theorem dX4_fillBySet_8 : decode cX4_fillBySet 8 = .ok (.aload_n 0, 1) := by decide +kernel
theorem dX4_fillBySet_9 : decode cX4_fillBySet 9 = .ok (.getfield 37, 3) := by decide +kernel
theorem dX4_fillBySet_12 : decode cX4_fillBySet 12 = .ok (.invokevirtual 175, 3) := by decide +kernel
theorem dX4_fillBySet_15 : decode cX4_fillBySet 15 = .ok (.aload_n 0, 1) := by decide +kernel
theorem dX4_fillBySet_16 : decode cX4_fillBySet 16 = .ok (.getfield 27, 3) := by decide +kernel
theorem dX4_fillBySet_19 : decode cX4_fillBySet 19 = .ok (.invokevirtual 216, 3) := by decide +kernel
theorem dX4_fillBySet_22 : decode cX4_fillBySet 22 = .ok (.istore_n 1, 1) := by decide +kernel
theorem dX4_fillBySet_23 : decode cX4_fillBySet 23 = .ok (.iconst 0, 1) := by decide +kernel
theorem dX4_fillBySet_24 : decode cX4_fillBySet 24 = .ok (.istore_n 2, 1) := by decide +kernel
theorem dX4_fillBySet_25 : decode cX4_fillBySet 25 = .ok (.iload_n 2, 1) := by decide +kernel
theorem dX4_fillBySet_26 : decode cX4_fillBySet 26 = .ok (.iload_n 1, 1) := by decide +kernel
theorem dX4_fillBySet_27 : decode cX4_fillBySet 27 = .ok (.if_icmp .ge 23, 3) := by decide +kernel
theorem dX4_fillBySet_30 : decode cX4_fillBySet 30 = .ok (.aload_n 0, 1) := by decide +kernel
theorem dX4_fillBySet_31 : decode cX4_fillBySet 31 = .ok (.getfield 51, 3) := by decide +kernel
theorem dX4_fillBySet_34 : decode cX4_fillBySet 34 = .ok (.iload_n 2, 1) := by decide +kernel
theorem dX4_fillBySet_35 : decode cX4_fillBySet 35 = .ok (.aload_n 0, 1) := by decide +kernel
theorem dX4_fillBySet_36 : decode cX4_fillBySet 36 = .ok (.getfield 47, 3) := by decide +kernel
theorem dX4_fillBySet_39 : decode cX4_fillBySet 39 = .ok (.iload_n 2, 1) := by decide +kernel
theorem dX4_fillBySet_40 : decode cX4_fillBySet 40 = .ok (.invokevirtual 219, 3) := by decide +kernel
theorem dX4_fillBySet_43 : decode cX4_fillBySet 43 = .ok (.iastore, 1) := by decide +kernel
theorem dX4_fillBySet_44 : decode cX4_fillBySet 44 = .ok (.iinc 2 1, 3) := by decide +kernel
theorem dX4_fillBySet_47 : decode cX4_fillBySet 47 = .ok (.goto (-22), 3) := by decide +kernel
theorem dX4_fillBySet_50 : decode cX4_fillBySet 50 = .ok (.return_, 1) := by decide +kernel
theorem dX4_rightSetsOf_0 : decode cX4_rightSetsOf 0 = .ok (.aload_n 0, 1) := by decide +kernel
theorem dX4_rightSetsOf_1 : decode cX4_rightSetsOf 1 = .ok (.getfield 47, 3) := by decide +kernel
theorem dX4_rightSetsOf_4 : decode cX4_rightSetsOf 4 = .ok (.aload_n 1, 1) := by decide +kernel
theorem dX4_rightSetsOf_5 : decode cX4_rightSetsOf 5 = .ok (.aload_n 0, 1) := by decide +kernel
theorem dX4_rightSetsOf_6 : decode cX4_rightSetsOf 6 = .ok (.getfield 37, 3) := by decide +kernel
theorem dX4_rightSetsOf_9 : decode cX4_rightSetsOf 9 = .ok (.invokevirtual 175, 3) := by decide +kernel
theorem dX4_rightSetsOf_12 : decode cX4_rightSetsOf 12 = .ok (.iconst 0, 1) := by decide +kernel
theorem dX4_rightSetsOf_13 : decode cX4_rightSetsOf 13 = .ok (.istore_n 2, 1) := by decide +kernel
theorem dX4_rightSetsOf_14 : decode cX4_rightSetsOf 14 = .ok (.aload_n 1, 1) := by decide +kernel
theorem dX4_rightSetsOf_15 : decode cX4_rightSetsOf 15 = .ok (.invokevirtual 216, 3) := by decide +kernel
theorem dX4_rightSetsOf_18 : decode cX4_rightSetsOf 18 = .ok (.istore_n 3, 1) := by decide +kernel
theorem dX4_rightSetsOf_19 : decode cX4_rightSetsOf 19 = .ok (.iconst 0, 1) := by decide +kernel
theorem dX4_rightSetsOf_20 : decode cX4_rightSetsOf 20 = .ok (.istore 4, 2) := by decide +kernel
theorem dX4_rightSetsOf_22 : decode cX4_rightSetsOf 22 = .ok (.iload 4, 2) := by decide +kernel
theorem dX4_rightSetsOf_24 : decode cX4_rightSetsOf 24 = .ok (.iload_n 3, 1) := by decide +kernel
theorem dX4_rightSetsOf_25 : decode cX4_rightSetsOf 25 = .ok (.if_icmp .ge 26, 3) := by decide +kernel
theorem dX4_rightSetsOf_28 : decode cX4_rightSetsOf 28 = .ok (.aload_n 0, 1) := by decide +kernel
theorem dX4_rightSetsOf_29 : decode cX4_rightSetsOf 29 = .ok (.getfield 47, 3) := by decide +kernel
theorem dX4_rightSetsOf_32 : decode cX4_rightSetsOf 32 = .ok (.iload 4, 2) := by decide +kernel
theorem dX4_rightSetsOf_34 : decode cX4_rightSetsOf 34 = .ok (.invokevirtual 219, 3) := by decide +kernel
theorem dX4_rightSetsOf_37 : decode cX4_rightSetsOf 37 = .ok (.iload 4, 2) := by decide +kernel
theorem dX4_rightSetsOf_39 : decode cX4_rightSetsOf 39 = .ok (.if_icmp .ne 6, 3) := by decide +kernel
theorem dX4_rightSetsOf_42 : decode cX4_rightSetsOf 42 = .ok (.iinc 2 1, 3) := by decide +kernel
theorem dX4_rightSetsOf_45 : decode cX4_rightSetsOf 45 = .ok (.iinc 4 1, 3) := by decide +kernel
theorem dX4_rightSetsOf_48 : decode cX4_rightSetsOf 48 = .ok (.goto (-26), 3) := by decide +kernel
theorem dX4_rightSetsOf_51 : decode cX4_rightSetsOf 51 = .ok (.iload_n 2, 1) := by decide +kernel
theorem dX4_rightSetsOf_52 : decode cX4_rightSetsOf 52 = .ok (.ireturn, 1) := by decide +kernel
theorem dX4_valueOf_0 : decode cX4_valueOf 0 = .ok (.iload_n 1, 1) := by decide +kernel
theorem dX4_valueOf_1 : decode cX4_valueOf 1 = .ok (.sipush 128, 3) := by decide +kernel
theorem dX4_valueOf_4 : decode cX4_valueOf 4 = .ok (.invokestatic 81, 3) := by decide +kernel
theorem dX4_valueOf_7 : decode cX4_valueOf 7 = .ok (.ifCond .eq 12, 3) := by decide +kernel
theorem dX4_valueOf_10 : decode cX4_valueOf 10 = .ok (.aload_n 0, 1) := by decide +kernel
theorem dX4_valueOf_11 : decode cX4_valueOf 11 = .ok (.getfield 51, 3) := by decide +kernel
theorem dX4_valueOf_14 : decode cX4_valueOf 14 = .ok (.iload_n 1, 1) := by decide +kernel
theorem dX4_valueOf_15 : decode cX4_valueOf 15 = .ok (.iaload, 1) := by decide +kernel
theorem dX4_valueOf_16 : decode cX4_valueOf 16 = .ok (.goto 4, 3) := by decide +kernel
theorem dX4_valueOf_19 : decode cX4_valueOf 19 = .ok (.iconst 0, 1) := by decide +kernel
theorem dX4_valueOf_20 : decode cX4_valueOf 20 = .ok (.ireturn, 1) := by decide +kernel
theorem dX4_ghostsOf_0 : decode cX4_ghostsOf 0 = .ok (.aload_n 0, 1) := by decide +kernel
theorem dX4_ghostsOf_1 : decode cX4_ghostsOf 1 = .ok (.iload_n 1, 1) := by decide +kernel
theorem dX4_ghostsOf_2 : decode cX4_ghostsOf 2 = .ok (.invokevirtual 267, 3) := by decide +kernel
theorem dX4_ghostsOf_5 : decode cX4_ghostsOf 5 = .ok (.iload_n 1, 1) := by decide +kernel
theorem dX4_ghostsOf_6 : decode cX4_ghostsOf 6 = .ok (.iconst (-1), 1) := by decide +kernel
theorem dX4_ghostsOf_7 : decode cX4_ghostsOf 7 = .ok (.ixor, 1) := by decide +kernel
theorem dX4_ghostsOf_8 : decode cX4_ghostsOf 8 = .ok (.iand, 1) := by decide +kernel
theorem dX4_ghostsOf_9 : decode cX4_ghostsOf 9 = .ok (.invokestatic 156, 3) := by decide +kernel
theorem dX4_ghostsOf_12 : decode cX4_ghostsOf 12 = .ok (.ireturn, 1) := by decide +kernel
theorem dX4_fits_0 : decode cX4_fits 0 = .ok (.aload_n 0, 1) := by decide +kernel
theorem dX4_fits_1 : decode cX4_fits 1 = .ok (.getfield 47, 3) := by decide +kernel
theorem dX4_fits_4 : decode cX4_fits 4 = .ok (.aload_n 1, 1) := by decide +kernel
theorem dX4_fits_5 : decode cX4_fits 5 = .ok (.aload_n 0, 1) := by decide +kernel
theorem dX4_fits_6 : decode cX4_fits 6 = .ok (.getfield 37, 3) := by decide +kernel
theorem dX4_fits_9 : decode cX4_fits 9 = .ok (.invokevirtual 175, 3) := by decide +kernel
theorem dX4_fits_12 : decode cX4_fits 12 = .ok (.aload_n 0, 1) := by decide +kernel
theorem dX4_fits_13 : decode cX4_fits 13 = .ok (.getfield 14, 3) := by decide +kernel
theorem dX4_fits_16 : decode cX4_fits 16 = .ok (.iload_n 2, 1) := by decide +kernel
theorem dX4_fits_17 : decode cX4_fits 17 = .ok (.invokevirtual 120, 3) := by decide +kernel
theorem dX4_fits_20 : decode cX4_fits 20 = .ok (.istore_n 3, 1) := by decide +kernel
theorem dX4_fits_21 : decode cX4_fits 21 = .ok (.iconst 0, 1) := by decide +kernel
theorem dX4_fits_22 : decode cX4_fits 22 = .ok (.istore 4, 2) := by decide +kernel
theorem dX4_fits_24 : decode cX4_fits 24 = .ok (.iload 4, 2) := by decide +kernel
theorem dX4_fits_26 : decode cX4_fits 26 = .ok (.iconst 1, 1) := by decide +kernel
theorem dX4_fits_27 : decode cX4_fits 27 = .ok (.iadd, 1) := by decide +kernel
theorem dX4_fits_28 : decode cX4_fits 28 = .ok (.iload_n 3, 1) := by decide +kernel
theorem dX4_fits_29 : decode cX4_fits 29 = .ok (.if_icmp .ge 43, 3) := by decide +kernel
theorem dX4_fits_32 : decode cX4_fits 32 = .ok (.aload_n 0, 1) := by decide +kernel
theorem dX4_fits_33 : decode cX4_fits 33 = .ok (.getfield 47, 3) := by decide +kernel
theorem dX4_fits_36 : decode cX4_fits 36 = .ok (.aload_n 0, 1) := by decide +kernel
theorem dX4_fits_37 : decode cX4_fits 37 = .ok (.getfield 14, 3) := by decide +kernel
theorem dX4_fits_40 : decode cX4_fits 40 = .ok (.iload_n 2, 1) := by decide +kernel
theorem dX4_fits_41 : decode cX4_fits 41 = .ok (.iload 4, 2) := by decide +kernel
theorem dX4_fits_43 : decode cX4_fits 43 = .ok (.invokevirtual 93, 3) := by decide +kernel
theorem dX4_fits_46 : decode cX4_fits 46 = .ok (.invokevirtual 219, 3) := by decide +kernel
theorem dX4_fits_49 : decode cX4_fits 49 = .ok (.aload_n 0, 1) := by decide +kernel
theorem dX4_fits_50 : decode cX4_fits 50 = .ok (.getfield 14, 3) := by decide +kernel
theorem dX4_fits_53 : decode cX4_fits 53 = .ok (.iload_n 2, 1) := by decide +kernel
theorem dX4_fits_54 : decode cX4_fits 54 = .ok (.iload 4, 2) := by decide +kernel
theorem dX4_fits_56 : decode cX4_fits 56 = .ok (.iconst 1, 1) := by decide +kernel
theorem dX4_fits_57 : decode cX4_fits 57 = .ok (.iadd, 1) := by decide +kernel
theorem dX4_fits_58 : decode cX4_fits 58 = .ok (.invokevirtual 93, 3) := by decide +kernel
theorem dX4_fits_61 : decode cX4_fits 61 = .ok (.if_icmp .eq 5, 3) := by decide +kernel
theorem dX4_fits_64 : decode cX4_fits 64 = .ok (.iconst 0, 1) := by decide +kernel
theorem dX4_fits_65 : decode cX4_fits 65 = .ok (.ireturn, 1) := by decide +kernel
theorem dX4_fits_66 : decode cX4_fits 66 = .ok (.iinc 4 2, 3) := by decide +kernel
theorem dX4_fits_69 : decode cX4_fits 69 = .ok (.goto (-45), 3) := by decide +kernel
theorem dX4_fits_72 : decode cX4_fits 72 = .ok (.iconst 1, 1) := by decide +kernel
theorem dX4_fits_73 : decode cX4_fits 73 = .ok (.ireturn, 1) := by decide +kernel
theorem dX4_kindsThatFit_0 : decode cX4_kindsThatFit 0 = .ok (.aload_n 0, 1) := by decide +kernel
theorem dX4_kindsThatFit_1 : decode cX4_kindsThatFit 1 = .ok (.getfield 31, 3) := by decide +kernel
theorem dX4_kindsThatFit_4 : decode cX4_kindsThatFit 4 = .ok (.aload_n 0, 1) := by decide +kernel
theorem dX4_kindsThatFit_5 : decode cX4_kindsThatFit 5 = .ok (.getfield 27, 3) := by decide +kernel
theorem dX4_kindsThatFit_8 : decode cX4_kindsThatFit 8 = .ok (.invokevirtual 130, 3) := by decide +kernel
theorem dX4_kindsThatFit_11 : decode cX4_kindsThatFit 11 = .ok (.iconst 0, 1) := by decide +kernel
theorem dX4_kindsThatFit_12 : decode cX4_kindsThatFit 12 = .ok (.istore_n 3, 1) := by decide +kernel
theorem dX4_kindsThatFit_13 : decode cX4_kindsThatFit 13 = .ok (.iconst 0, 1) := by decide +kernel
theorem dX4_kindsThatFit_14 : decode cX4_kindsThatFit 14 = .ok (.istore 4, 2) := by decide +kernel
theorem dX4_kindsThatFit_16 : decode cX4_kindsThatFit 16 = .ok (.iload 4, 2) := by decide +kernel
theorem dX4_kindsThatFit_18 : decode cX4_kindsThatFit 18 = .ok (.bipush 6, 2) := by decide +kernel
theorem dX4_kindsThatFit_20 : decode cX4_kindsThatFit 20 = .ok (.if_icmp .ge 38, 3) := by decide +kernel
theorem dX4_kindsThatFit_23 : decode cX4_kindsThatFit 23 = .ok (.aload_n 0, 1) := by decide +kernel
theorem dX4_kindsThatFit_24 : decode cX4_kindsThatFit 24 = .ok (.getfield 31, 3) := by decide +kernel
theorem dX4_kindsThatFit_27 : decode cX4_kindsThatFit 27 = .ok (.iload_n 1, 1) := by decide +kernel
theorem dX4_kindsThatFit_28 : decode cX4_kindsThatFit 28 = .ok (.iload 4, 2) := by decide +kernel
theorem dX4_kindsThatFit_30 : decode cX4_kindsThatFit 30 = .ok (.invokevirtual 235, 3) := by decide +kernel
theorem dX4_kindsThatFit_33 : decode cX4_kindsThatFit 33 = .ok (.aload_n 0, 1) := by decide +kernel
theorem dX4_kindsThatFit_34 : decode cX4_kindsThatFit 34 = .ok (.aload_n 0, 1) := by decide +kernel
theorem dX4_kindsThatFit_35 : decode cX4_kindsThatFit 35 = .ok (.getfield 31, 3) := by decide +kernel
theorem dX4_kindsThatFit_38 : decode cX4_kindsThatFit 38 = .ok (.iload_n 2, 1) := by decide +kernel
theorem dX4_kindsThatFit_39 : decode cX4_kindsThatFit 39 = .ok (.invokevirtual 250, 3) := by decide +kernel
theorem dX4_kindsThatFit_42 : decode cX4_kindsThatFit 42 = .ok (.ifCond .eq 10, 3) := by decide +kernel
theorem dX4_kindsThatFit_45 : decode cX4_kindsThatFit 45 = .ok (.iload_n 3, 1) := by decide +kernel
theorem dX4_kindsThatFit_46 : decode cX4_kindsThatFit 46 = .ok (.iconst 1, 1) := by decide +kernel
theorem dX4_kindsThatFit_47 : decode cX4_kindsThatFit 47 = .ok (.iload 4, 2) := by decide +kernel
theorem dX4_kindsThatFit_49 : decode cX4_kindsThatFit 49 = .ok (.ishl, 1) := by decide +kernel
theorem dX4_kindsThatFit_50 : decode cX4_kindsThatFit 50 = .ok (.ior, 1) := by decide +kernel
theorem dX4_kindsThatFit_51 : decode cX4_kindsThatFit 51 = .ok (.istore_n 3, 1) := by decide +kernel
theorem dX4_kindsThatFit_52 : decode cX4_kindsThatFit 52 = .ok (.iinc 4 1, 3) := by decide +kernel
theorem dX4_kindsThatFit_55 : decode cX4_kindsThatFit 55 = .ok (.goto (-39), 3) := by decide +kernel
theorem dX4_kindsThatFit_58 : decode cX4_kindsThatFit 58 = .ok (.iload_n 3, 1) := by decide +kernel
theorem dX4_kindsThatFit_59 : decode cX4_kindsThatFit 59 = .ok (.ireturn, 1) := by decide +kernel
theorem dX4_fillByKind_0 : decode cX4_fillByKind 0 = .ok (.aload_n 0, 1) := by decide +kernel
theorem dX4_fillByKind_1 : decode cX4_fillByKind 1 = .ok (.getfield 31, 3) := by decide +kernel
theorem dX4_fillByKind_4 : decode cX4_fillByKind 4 = .ok (.aload_n 0, 1) := by decide +kernel
theorem dX4_fillByKind_5 : decode cX4_fillByKind 5 = .ok (.getfield 27, 3) := by decide +kernel
theorem dX4_fillByKind_8 : decode cX4_fillByKind 8 = .ok (.invokevirtual 130, 3) := by decide +kernel
theorem dX4_fillByKind_11 : decode cX4_fillByKind 11 = .ok (.aload_n 0, 1) := by decide +kernel
theorem dX4_fillByKind_12 : decode cX4_fillByKind 12 = .ok (.getfield 27, 3) := by decide +kernel
theorem dX4_fillByKind_15 : decode cX4_fillByKind 15 = .ok (.invokevirtual 216, 3) := by decide +kernel
theorem dX4_fillByKind_18 : decode cX4_fillByKind 18 = .ok (.istore_n 3, 1) := by decide +kernel
theorem dX4_fillByKind_19 : decode cX4_fillByKind 19 = .ok (.iconst 0, 1) := by decide +kernel
theorem dX4_fillByKind_20 : decode cX4_fillByKind 20 = .ok (.istore 4, 2) := by decide +kernel
theorem dX4_fillByKind_22 : decode cX4_fillByKind 22 = .ok (.iload 4, 2) := by decide +kernel
theorem dX4_fillByKind_24 : decode cX4_fillByKind 24 = .ok (.bipush 6, 2) := by decide +kernel
theorem dX4_fillByKind_26 : decode cX4_fillByKind 26 = .ok (.if_icmp .ge 77, 3) := by decide +kernel
theorem dX4_fillByKind_29 : decode cX4_fillByKind 29 = .ok (.iload_n 2, 1) := by decide +kernel
theorem dX4_fillByKind_30 : decode cX4_fillByKind 30 = .ok (.iload 4, 2) := by decide +kernel
theorem dX4_fillByKind_32 : decode cX4_fillByKind 32 = .ok (.invokestatic 222, 3) := by decide +kernel
theorem dX4_fillByKind_35 : decode cX4_fillByKind 35 = .ok (.ifCond .eq 62, 3) := by decide +kernel
theorem dX4_fillByKind_38 : decode cX4_fillByKind 38 = .ok (.aload_n 0, 1) := by decide +kernel
theorem dX4_fillByKind_39 : decode cX4_fillByKind 39 = .ok (.getfield 31, 3) := by decide +kernel
theorem dX4_fillByKind_42 : decode cX4_fillByKind 42 = .ok (.iload_n 1, 1) := by decide +kernel
theorem dX4_fillByKind_43 : decode cX4_fillByKind 43 = .ok (.iload 4, 2) := by decide +kernel
theorem dX4_fillByKind_45 : decode cX4_fillByKind 45 = .ok (.invokevirtual 235, 3) := by decide +kernel
theorem dX4_fillByKind_48 : decode cX4_fillByKind 48 = .ok (.aload_n 0, 1) := by decide +kernel
theorem dX4_fillByKind_49 : decode cX4_fillByKind 49 = .ok (.getfield 47, 3) := by decide +kernel
theorem dX4_fillByKind_52 : decode cX4_fillByKind 52 = .ok (.aload_n 0, 1) := by decide +kernel
theorem dX4_fillByKind_53 : decode cX4_fillByKind 53 = .ok (.getfield 31, 3) := by decide +kernel
theorem dX4_fillByKind_56 : decode cX4_fillByKind 56 = .ok (.aload_n 0, 1) := by decide +kernel
theorem dX4_fillByKind_57 : decode cX4_fillByKind 57 = .ok (.getfield 37, 3) := by decide +kernel
theorem dX4_fillByKind_60 : decode cX4_fillByKind 60 = .ok (.invokevirtual 175, 3) := by decide +kernel
theorem dX4_fillByKind_63 : decode cX4_fillByKind 63 = .ok (.iconst 0, 1) := by decide +kernel
theorem dX4_fillByKind_64 : decode cX4_fillByKind 64 = .ok (.istore 5, 2) := by decide +kernel
theorem dX4_fillByKind_66 : decode cX4_fillByKind 66 = .ok (.iload 5, 2) := by decide +kernel
theorem dX4_fillByKind_68 : decode cX4_fillByKind 68 = .ok (.iload_n 3, 1) := by decide +kernel
theorem dX4_fillByKind_69 : decode cX4_fillByKind 69 = .ok (.if_icmp .ge 28, 3) := by decide +kernel
theorem dX4_fillByKind_72 : decode cX4_fillByKind 72 = .ok (.aload_n 0, 1) := by decide +kernel
theorem dX4_fillByKind_73 : decode cX4_fillByKind 73 = .ok (.getfield 57, 3) := by decide +kernel
theorem dX4_fillByKind_76 : decode cX4_fillByKind 76 = .ok (.iload 4, 2) := by decide +kernel
theorem dX4_fillByKind_78 : decode cX4_fillByKind 78 = .ok (.aaload, 1) := by decide +kernel
theorem dX4_fillByKind_79 : decode cX4_fillByKind 79 = .ok (.iload 5, 2) := by decide +kernel
theorem dX4_fillByKind_81 : decode cX4_fillByKind 81 = .ok (.aload_n 0, 1) := by decide +kernel
theorem dX4_fillByKind_82 : decode cX4_fillByKind 82 = .ok (.getfield 47, 3) := by decide +kernel
theorem dX4_fillByKind_85 : decode cX4_fillByKind 85 = .ok (.iload 5, 2) := by decide +kernel
theorem dX4_fillByKind_87 : decode cX4_fillByKind 87 = .ok (.invokevirtual 219, 3) := by decide +kernel
theorem dX4_fillByKind_90 : decode cX4_fillByKind 90 = .ok (.iastore, 1) := by decide +kernel
theorem dX4_fillByKind_91 : decode cX4_fillByKind 91 = .ok (.iinc 5 1, 3) := by decide +kernel
theorem dX4_fillByKind_94 : decode cX4_fillByKind 94 = .ok (.goto (-28), 3) := by decide +kernel
theorem dX4_fillByKind_97 : decode cX4_fillByKind 97 = .ok (.iinc 4 1, 3) := by decide +kernel
theorem dX4_fillByKind_100 : decode cX4_fillByKind 100 = .ok (.goto (-78), 3) := by decide +kernel
theorem dX4_fillByKind_103 : decode cX4_fillByKind 103 = .ok (.return_, 1) := by decide +kernel
theorem dX4_greatestPart_0 : decode cX4_greatestPart 0 = .ok (.iconst 0, 1) := by decide +kernel
theorem dX4_greatestPart_1 : decode cX4_greatestPart 1 = .ok (.istore_n 3, 1) := by decide +kernel
theorem dX4_greatestPart_2 : decode cX4_greatestPart 2 = .ok (.iconst 0, 1) := by decide +kernel
theorem dX4_greatestPart_3 : decode cX4_greatestPart 3 = .ok (.istore 4, 2) := by decide +kernel
theorem dX4_greatestPart_5 : decode cX4_greatestPart 5 = .ok (.iload 4, 2) := by decide +kernel
theorem dX4_greatestPart_7 : decode cX4_greatestPart 7 = .ok (.bipush 6, 2) := by decide +kernel
theorem dX4_greatestPart_9 : decode cX4_greatestPart 9 = .ok (.if_icmp .ge 77, 3) := by decide +kernel
theorem dX4_greatestPart_12 : decode cX4_greatestPart 12 = .ok (.iconst 0, 1) := by decide +kernel
theorem dX4_greatestPart_13 : decode cX4_greatestPart 13 = .ok (.istore 5, 2) := by decide +kernel
theorem dX4_greatestPart_15 : decode cX4_greatestPart 15 = .ok (.iconst 0, 1) := by decide +kernel
theorem dX4_greatestPart_16 : decode cX4_greatestPart 16 = .ok (.istore 6, 2) := by decide +kernel
theorem dX4_greatestPart_18 : decode cX4_greatestPart 18 = .ok (.iload 6, 2) := by decide +kernel
theorem dX4_greatestPart_20 : decode cX4_greatestPart 20 = .ok (.bipush 6, 2) := by decide +kernel
theorem dX4_greatestPart_22 : decode cX4_greatestPart 22 = .ok (.if_icmp .ge 51, 3) := by decide +kernel
theorem dX4_greatestPart_25 : decode cX4_greatestPart 25 = .ok (.iload_n 1, 1) := by decide +kernel
theorem dX4_greatestPart_26 : decode cX4_greatestPart 26 = .ok (.iload 4, 2) := by decide +kernel
theorem dX4_greatestPart_28 : decode cX4_greatestPart 28 = .ok (.invokestatic 222, 3) := by decide +kernel
theorem dX4_greatestPart_31 : decode cX4_greatestPart 31 = .ok (.ifCond .eq 36, 3) := by decide +kernel
theorem dX4_greatestPart_34 : decode cX4_greatestPart 34 = .ok (.iload_n 1, 1) := by decide +kernel
theorem dX4_greatestPart_35 : decode cX4_greatestPart 35 = .ok (.iload 6, 2) := by decide +kernel
theorem dX4_greatestPart_37 : decode cX4_greatestPart 37 = .ok (.invokestatic 222, 3) := by decide +kernel
theorem dX4_greatestPart_40 : decode cX4_greatestPart 40 = .ok (.ifCond .eq 27, 3) := by decide +kernel
theorem dX4_greatestPart_43 : decode cX4_greatestPart 43 = .ok (.aload_n 0, 1) := by decide +kernel
theorem dX4_greatestPart_44 : decode cX4_greatestPart 44 = .ok (.getfield 57, 3) := by decide +kernel
theorem dX4_greatestPart_47 : decode cX4_greatestPart 47 = .ok (.iload 6, 2) := by decide +kernel
theorem dX4_greatestPart_49 : decode cX4_greatestPart 49 = .ok (.aaload, 1) := by decide +kernel
theorem dX4_greatestPart_50 : decode cX4_greatestPart 50 = .ok (.iload_n 2, 1) := by decide +kernel
theorem dX4_greatestPart_51 : decode cX4_greatestPart 51 = .ok (.iaload, 1) := by decide +kernel
theorem dX4_greatestPart_52 : decode cX4_greatestPart 52 = .ok (.aload_n 0, 1) := by decide +kernel
theorem dX4_greatestPart_53 : decode cX4_greatestPart 53 = .ok (.getfield 57, 3) := by decide +kernel
theorem dX4_greatestPart_56 : decode cX4_greatestPart 56 = .ok (.iload 4, 2) := by decide +kernel
theorem dX4_greatestPart_58 : decode cX4_greatestPart 58 = .ok (.aaload, 1) := by decide +kernel
theorem dX4_greatestPart_59 : decode cX4_greatestPart 59 = .ok (.iload_n 2, 1) := by decide +kernel
theorem dX4_greatestPart_60 : decode cX4_greatestPart 60 = .ok (.iaload, 1) := by decide +kernel
theorem dX4_greatestPart_61 : decode cX4_greatestPart 61 = .ok (.if_icmp .ne 6, 3) := by decide +kernel
theorem dX4_greatestPart_64 : decode cX4_greatestPart 64 = .ok (.iinc 5 1, 3) := by decide +kernel
theorem dX4_greatestPart_67 : decode cX4_greatestPart 67 = .ok (.iinc 6 1, 3) := by decide +kernel
theorem dX4_greatestPart_70 : decode cX4_greatestPart 70 = .ok (.goto (-52), 3) := by decide +kernel
theorem dX4_greatestPart_73 : decode cX4_greatestPart 73 = .ok (.iload_n 3, 1) := by decide +kernel
theorem dX4_greatestPart_74 : decode cX4_greatestPart 74 = .ok (.iload 5, 2) := by decide +kernel
theorem dX4_greatestPart_76 : decode cX4_greatestPart 76 = .ok (.invokestatic 170, 3) := by decide +kernel
theorem dX4_greatestPart_79 : decode cX4_greatestPart 79 = .ok (.istore_n 3, 1) := by decide +kernel
theorem dX4_greatestPart_80 : decode cX4_greatestPart 80 = .ok (.iinc 4 1, 3) := by decide +kernel
theorem dX4_greatestPart_83 : decode cX4_greatestPart 83 = .ok (.goto (-78), 3) := by decide +kernel
theorem dX4_greatestPart_86 : decode cX4_greatestPart 86 = .ok (.iload_n 3, 1) := by decide +kernel
theorem dX4_greatestPart_87 : decode cX4_greatestPart 87 = .ok (.ireturn, 1) := by decide +kernel
theorem dX4_takeBackTurn_0 : decode cX4_takeBackTurn 0 = .ok (.aload_n 0, 1) := by decide +kernel
theorem dX4_takeBackTurn_1 : decode cX4_takeBackTurn 1 = .ok (.getfield 27, 3) := by decide +kernel
theorem dX4_takeBackTurn_4 : decode cX4_takeBackTurn 4 = .ok (.invokevirtual 216, 3) := by decide +kernel
theorem dX4_takeBackTurn_7 : decode cX4_takeBackTurn 7 = .ok (.istore_n 2, 1) := by decide +kernel
theorem dX4_takeBackTurn_8 : decode cX4_takeBackTurn 8 = .ok (.iconst 0, 1) := by decide +kernel
theorem dX4_takeBackTurn_9 : decode cX4_takeBackTurn 9 = .ok (.istore_n 3, 1) := by decide +kernel
theorem dX4_takeBackTurn_10 : decode cX4_takeBackTurn 10 = .ok (.iload_n 3, 1) := by decide +kernel
theorem dX4_takeBackTurn_11 : decode cX4_takeBackTurn 11 = .ok (.iload_n 2, 1) := by decide +kernel
theorem dX4_takeBackTurn_12 : decode cX4_takeBackTurn 12 = .ok (.if_icmp .ge 105, 3) := by decide +kernel
theorem dX4_takeBackTurn_15 : decode cX4_takeBackTurn 15 = .ok (.aload_n 0, 1) := by decide +kernel
theorem dX4_takeBackTurn_16 : decode cX4_takeBackTurn 16 = .ok (.getfield 51, 3) := by decide +kernel
theorem dX4_takeBackTurn_19 : decode cX4_takeBackTurn 19 = .ok (.iload_n 3, 1) := by decide +kernel
theorem dX4_takeBackTurn_20 : decode cX4_takeBackTurn 20 = .ok (.iaload, 1) := by decide +kernel
theorem dX4_takeBackTurn_21 : decode cX4_takeBackTurn 21 = .ok (.istore 4, 2) := by decide +kernel
theorem dX4_takeBackTurn_23 : decode cX4_takeBackTurn 23 = .ok (.iconst 0, 1) := by decide +kernel
theorem dX4_takeBackTurn_24 : decode cX4_takeBackTurn 24 = .ok (.istore 5, 2) := by decide +kernel
theorem dX4_takeBackTurn_26 : decode cX4_takeBackTurn 26 = .ok (.iload 5, 2) := by decide +kernel
theorem dX4_takeBackTurn_28 : decode cX4_takeBackTurn 28 = .ok (.aload_n 0, 1) := by decide +kernel
theorem dX4_takeBackTurn_29 : decode cX4_takeBackTurn 29 = .ok (.getfield 27, 3) := by decide +kernel
theorem dX4_takeBackTurn_32 : decode cX4_takeBackTurn 32 = .ok (.getfield 137, 3) := by decide +kernel
theorem dX4_takeBackTurn_35 : decode cX4_takeBackTurn 35 = .ok (.if_icmp .ge 68, 3) := by decide +kernel
theorem dX4_takeBackTurn_38 : decode cX4_takeBackTurn 38 = .ok (.aload_n 0, 1) := by decide +kernel
theorem dX4_takeBackTurn_39 : decode cX4_takeBackTurn 39 = .ok (.iload_n 3, 1) := by decide +kernel
theorem dX4_takeBackTurn_40 : decode cX4_takeBackTurn 40 = .ok (.iconst 1, 1) := by decide +kernel
theorem dX4_takeBackTurn_41 : decode cX4_takeBackTurn 41 = .ok (.iload 5, 2) := by decide +kernel
theorem dX4_takeBackTurn_43 : decode cX4_takeBackTurn 43 = .ok (.ishl, 1) := by decide +kernel
theorem dX4_takeBackTurn_44 : decode cX4_takeBackTurn 44 = .ok (.ior, 1) := by decide +kernel
theorem dX4_takeBackTurn_45 : decode cX4_takeBackTurn 45 = .ok (.invokevirtual 267, 3) := by decide +kernel
theorem dX4_takeBackTurn_48 : decode cX4_takeBackTurn 48 = .ok (.istore 6, 2) := by decide +kernel
theorem dX4_takeBackTurn_50 : decode cX4_takeBackTurn 50 = .ok (.iload_n 1, 1) := by decide +kernel
theorem dX4_takeBackTurn_51 : decode cX4_takeBackTurn 51 = .ok (.ifCond .eq 18, 3) := by decide +kernel
theorem dX4_takeBackTurn_54 : decode cX4_takeBackTurn 54 = .ok (.iload 6, 2) := by decide +kernel
theorem dX4_takeBackTurn_56 : decode cX4_takeBackTurn 56 = .ok (.iload 4, 2) := by decide +kernel
theorem dX4_takeBackTurn_58 : decode cX4_takeBackTurn 58 = .ok (.if_icmp .le 7, 3) := by decide +kernel
theorem dX4_takeBackTurn_61 : decode cX4_takeBackTurn 61 = .ok (.iconst 1, 1) := by decide +kernel
theorem dX4_takeBackTurn_62 : decode cX4_takeBackTurn 62 = .ok (.goto 19, 3) := by decide +kernel
theorem dX4_takeBackTurn_65 : decode cX4_takeBackTurn 65 = .ok (.iconst 0, 1) := by decide +kernel
theorem dX4_takeBackTurn_66 : decode cX4_takeBackTurn 66 = .ok (.goto 15, 3) := by decide +kernel
theorem dX4_takeBackTurn_69 : decode cX4_takeBackTurn 69 = .ok (.iload 6, 2) := by decide +kernel
theorem dX4_takeBackTurn_71 : decode cX4_takeBackTurn 71 = .ok (.iload 4, 2) := by decide +kernel
theorem dX4_takeBackTurn_73 : decode cX4_takeBackTurn 73 = .ok (.if_icmp .ge 7, 3) := by decide +kernel
theorem dX4_takeBackTurn_76 : decode cX4_takeBackTurn 76 = .ok (.iconst 1, 1) := by decide +kernel
theorem dX4_takeBackTurn_77 : decode cX4_takeBackTurn 77 = .ok (.goto 4, 3) := by decide +kernel
theorem dX4_takeBackTurn_80 : decode cX4_takeBackTurn 80 = .ok (.iconst 0, 1) := by decide +kernel
theorem dX4_takeBackTurn_81 : decode cX4_takeBackTurn 81 = .ok (.istore 7, 2) := by decide +kernel
theorem dX4_takeBackTurn_83 : decode cX4_takeBackTurn 83 = .ok (.iload 7, 2) := by decide +kernel
theorem dX4_takeBackTurn_85 : decode cX4_takeBackTurn 85 = .ok (.ifCond .eq 8, 3) := by decide +kernel
theorem dX4_takeBackTurn_88 : decode cX4_takeBackTurn 88 = .ok (.iload 6, 2) := by decide +kernel
theorem dX4_takeBackTurn_90 : decode cX4_takeBackTurn 90 = .ok (.goto 5, 3) := by decide +kernel
theorem dX4_takeBackTurn_93 : decode cX4_takeBackTurn 93 = .ok (.iload 4, 2) := by decide +kernel
theorem dX4_takeBackTurn_95 : decode cX4_takeBackTurn 95 = .ok (.istore 4, 2) := by decide +kernel
theorem dX4_takeBackTurn_97 : decode cX4_takeBackTurn 97 = .ok (.iinc 5 1, 3) := by decide +kernel
theorem dX4_takeBackTurn_100 : decode cX4_takeBackTurn 100 = .ok (.goto (-74), 3) := by decide +kernel
theorem dX4_takeBackTurn_103 : decode cX4_takeBackTurn 103 = .ok (.aload_n 0, 1) := by decide +kernel
theorem dX4_takeBackTurn_104 : decode cX4_takeBackTurn 104 = .ok (.getfield 51, 3) := by decide +kernel
theorem dX4_takeBackTurn_107 : decode cX4_takeBackTurn 107 = .ok (.iload_n 3, 1) := by decide +kernel
theorem dX4_takeBackTurn_108 : decode cX4_takeBackTurn 108 = .ok (.iload 4, 2) := by decide +kernel
theorem dX4_takeBackTurn_110 : decode cX4_takeBackTurn 110 = .ok (.iastore, 1) := by decide +kernel
theorem dX4_takeBackTurn_111 : decode cX4_takeBackTurn 111 = .ok (.iinc 3 1, 3) := by decide +kernel
theorem dX4_takeBackTurn_114 : decode cX4_takeBackTurn 114 = .ok (.goto (-104), 3) := by decide +kernel
theorem dX4_takeBackTurn_117 : decode cX4_takeBackTurn 117 = .ok (.return_, 1) := by decide +kernel
theorem dX4_power_0 : decode cX4_power 0 = .ok (.lconst 1, 1) := by decide +kernel
theorem dX4_power_1 : decode cX4_power 1 = .ok (.lstore_n 3, 1) := by decide +kernel
theorem dX4_power_2 : decode cX4_power 2 = .ok (.iconst 0, 1) := by decide +kernel
theorem dX4_power_3 : decode cX4_power 3 = .ok (.istore 5, 2) := by decide +kernel
theorem dX4_power_5 : decode cX4_power 5 = .ok (.iload 5, 2) := by decide +kernel
theorem dX4_power_7 : decode cX4_power 7 = .ok (.iload_n 2, 1) := by decide +kernel
theorem dX4_power_8 : decode cX4_power 8 = .ok (.if_icmp .ge 13, 3) := by decide +kernel
theorem dX4_power_11 : decode cX4_power 11 = .ok (.lload_n 3, 1) := by decide +kernel
theorem dX4_power_12 : decode cX4_power 12 = .ok (.lload_n 0, 1) := by decide +kernel
theorem dX4_power_13 : decode cX4_power 13 = .ok (.lmul, 1) := by decide +kernel
theorem dX4_power_14 : decode cX4_power 14 = .ok (.lstore_n 3, 1) := by decide +kernel
theorem dX4_power_15 : decode cX4_power 15 = .ok (.iinc 5 1, 3) := by decide +kernel
theorem dX4_power_18 : decode cX4_power 18 = .ok (.goto (-13), 3) := by decide +kernel
theorem dX4_power_21 : decode cX4_power 21 = .ok (.lload_n 3, 1) := by decide +kernel
theorem dX4_power_22 : decode cX4_power 22 = .ok (.lreturn, 1) := by decide +kernel
theorem dX4_weight_0 : decode cX4_weight 0 = .ok (.iload_n 1, 1) := by decide +kernel
theorem dX4_weight_1 : decode cX4_weight 1 = .ok (.invokestatic 156, 3) := by decide +kernel
theorem dX4_weight_4 : decode cX4_weight 4 = .ok (.istore_n 3, 1) := by decide +kernel
theorem dX4_weight_5 : decode cX4_weight 5 = .ok (.iload_n 2, 1) := by decide +kernel
theorem dX4_weight_6 : decode cX4_weight 6 = .ok (.i2l, 1) := by decide +kernel
theorem dX4_weight_7 : decode cX4_weight 7 = .ok (.iload_n 3, 1) := by decide +kernel
theorem dX4_weight_8 : decode cX4_weight 8 = .ok (.invokestatic 279, 3) := by decide +kernel
theorem dX4_weight_11 : decode cX4_weight 11 = .ok (.bipush 12, 2) := by decide +kernel
theorem dX4_weight_13 : decode cX4_weight 13 = .ok (.iload_n 2, 1) := by decide +kernel
theorem dX4_weight_14 : decode cX4_weight 14 = .ok (.isub, 1) := by decide +kernel
theorem dX4_weight_15 : decode cX4_weight 15 = .ok (.i2l, 1) := by decide +kernel
theorem dX4_weight_16 : decode cX4_weight 16 = .ok (.aload_n 0, 1) := by decide +kernel
theorem dX4_weight_17 : decode cX4_weight 17 = .ok (.getfield 27, 3) := by decide +kernel
theorem dX4_weight_20 : decode cX4_weight 20 = .ok (.getfield 137, 3) := by decide +kernel
theorem dX4_weight_23 : decode cX4_weight 23 = .ok (.iload_n 3, 1) := by decide +kernel
theorem dX4_weight_24 : decode cX4_weight 24 = .ok (.isub, 1) := by decide +kernel
theorem dX4_weight_25 : decode cX4_weight 25 = .ok (.invokestatic 279, 3) := by decide +kernel
theorem dX4_weight_28 : decode cX4_weight 28 = .ok (.lmul, 1) := by decide +kernel
theorem dX4_weight_29 : decode cX4_weight 29 = .ok (.lreturn, 1) := by decide +kernel
theorem dX4_tellFraction_0 : decode cX4_tellFraction 0 = .ok (.lload_n 3, 1) := by decide +kernel
theorem dX4_tellFraction_1 : decode cX4_tellFraction 1 = .ok (.lstore 5, 2) := by decide +kernel
theorem dX4_tellFraction_3 : decode cX4_tellFraction 3 = .ok (.lload_n 1, 1) := by decide +kernel
theorem dX4_tellFraction_4 : decode cX4_tellFraction 4 = .ok (.lstore 7, 2) := by decide +kernel
theorem dX4_tellFraction_6 : decode cX4_tellFraction 6 = .ok (.iconst 0, 1) := by decide +kernel
theorem dX4_tellFraction_7 : decode cX4_tellFraction 7 = .ok (.istore 9, 2) := by decide +kernel
theorem dX4_tellFraction_9 : decode cX4_tellFraction 9 = .ok (.iload 9, 2) := by decide +kernel
theorem dX4_tellFraction_11 : decode cX4_tellFraction 11 = .ok (.sipush 200, 3) := by decide +kernel
theorem dX4_tellFraction_14 : decode cX4_tellFraction 14 = .ok (.if_icmp .ge 31, 3) := by decide +kernel
theorem dX4_tellFraction_17 : decode cX4_tellFraction 17 = .ok (.lload 7, 2) := by decide +kernel
theorem dX4_tellFraction_19 : decode cX4_tellFraction 19 = .ok (.lconst 0, 1) := by decide +kernel
theorem dX4_tellFraction_20 : decode cX4_tellFraction 20 = .ok (.lcmp, 1) := by decide +kernel
theorem dX4_tellFraction_21 : decode cX4_tellFraction 21 = .ok (.ifCond .eq 24, 3) := by decide +kernel
theorem dX4_tellFraction_24 : decode cX4_tellFraction 24 = .ok (.lload 5, 2) := by decide +kernel
theorem dX4_tellFraction_26 : decode cX4_tellFraction 26 = .ok (.lload 7, 2) := by decide +kernel
theorem dX4_tellFraction_28 : decode cX4_tellFraction 28 = .ok (.lrem, 1) := by decide +kernel
theorem dX4_tellFraction_29 : decode cX4_tellFraction 29 = .ok (.lstore 10, 2) := by decide +kernel
theorem dX4_tellFraction_31 : decode cX4_tellFraction 31 = .ok (.lload 7, 2) := by decide +kernel
theorem dX4_tellFraction_33 : decode cX4_tellFraction 33 = .ok (.lstore 5, 2) := by decide +kernel
theorem dX4_tellFraction_35 : decode cX4_tellFraction 35 = .ok (.lload 10, 2) := by decide +kernel
theorem dX4_tellFraction_37 : decode cX4_tellFraction 37 = .ok (.lstore 7, 2) := by decide +kernel
theorem dX4_tellFraction_39 : decode cX4_tellFraction 39 = .ok (.iinc 9 1, 3) := by decide +kernel
theorem dX4_tellFraction_42 : decode cX4_tellFraction 42 = .ok (.goto (-33), 3) := by decide +kernel
theorem dX4_tellFraction_45 : decode cX4_tellFraction 45 = .ok (.lload 5, 2) := by decide +kernel
theorem dX4_tellFraction_47 : decode cX4_tellFraction 47 = .ok (.lconst 0, 1) := by decide +kernel
theorem dX4_tellFraction_48 : decode cX4_tellFraction 48 = .ok (.lcmp, 1) := by decide +kernel
theorem dX4_tellFraction_49 : decode cX4_tellFraction 49 = .ok (.ifCond .eq 19, 3) := by decide +kernel
theorem dX4_tellFraction_52 : decode cX4_tellFraction 52 = .ok (.aload_n 0, 1) := by decide +kernel
theorem dX4_tellFraction_53 : decode cX4_tellFraction 53 = .ok (.lload_n 1, 1) := by decide +kernel
theorem dX4_tellFraction_54 : decode cX4_tellFraction 54 = .ok (.lload 5, 2) := by decide +kernel
theorem dX4_tellFraction_56 : decode cX4_tellFraction 56 = .ok (.ldiv, 1) := by decide +kernel
theorem dX4_tellFraction_57 : decode cX4_tellFraction 57 = .ok (.putfield 70, 3) := by decide +kernel
theorem dX4_tellFraction_60 : decode cX4_tellFraction 60 = .ok (.aload_n 0, 1) := by decide +kernel
theorem dX4_tellFraction_61 : decode cX4_tellFraction 61 = .ok (.lload_n 3, 1) := by decide +kernel
theorem dX4_tellFraction_62 : decode cX4_tellFraction 62 = .ok (.lload 5, 2) := by decide +kernel
theorem dX4_tellFraction_64 : decode cX4_tellFraction 64 = .ok (.ldiv, 1) := by decide +kernel
theorem dX4_tellFraction_65 : decode cX4_tellFraction 65 = .ok (.putfield 74, 3) := by decide +kernel
theorem dX4_tellFraction_68 : decode cX4_tellFraction 68 = .ok (.return_, 1) := by decide +kernel
theorem dX5_init_0 : decode cX5_init 0 = .ok (.aload_n 0, 1) := by decide +kernel
theorem dX5_init_1 : decode cX5_init 1 = .ok (.invokespecial 1, 3) := by decide +kernel
theorem dX5_init_4 : decode cX5_init 4 = .ok (.aload_n 0, 1) := by decide +kernel
theorem dX5_init_5 : decode cX5_init 5 = .ok (.bipush 6, 2) := by decide +kernel
theorem dX5_init_7 : decode cX5_init 7 = .ok (.newarray .int, 2) := by decide +kernel
theorem dX5_init_9 : decode cX5_init 9 = .ok (.putfield 7, 3) := by decide +kernel
theorem dX5_init_12 : decode cX5_init 12 = .ok (.aload_n 0, 1) := by decide +kernel
theorem dX5_init_13 : decode cX5_init 13 = .ok (.lconst 1, 1) := by decide +kernel
theorem dX5_init_14 : decode cX5_init 14 = .ok (.putfield 13, 3) := by decide +kernel
theorem dX5_init_17 : decode cX5_init 17 = .ok (.aload_n 0, 1) := by decide +kernel
theorem dX5_init_18 : decode cX5_init 18 = .ok (.bipush 6, 2) := by decide +kernel
theorem dX5_init_20 : decode cX5_init 20 = .ok (.newarray .int, 2) := by decide +kernel
theorem dX5_init_22 : decode cX5_init 22 = .ok (.putfield 17, 3) := by decide +kernel
theorem dX5_init_25 : decode cX5_init 25 = .ok (.aload_n 0, 1) := by decide +kernel
theorem dX5_init_26 : decode cX5_init 26 = .ok (.sipush 240, 3) := by decide +kernel
theorem dX5_init_29 : decode cX5_init 29 = .ok (.newarray .int, 2) := by decide +kernel
theorem dX5_init_31 : decode cX5_init 31 = .ok (.putfield 20, 3) := by decide +kernel
theorem dX5_init_34 : decode cX5_init 34 = .ok (.aload_n 0, 1) := by decide +kernel
theorem dX5_init_35 : decode cX5_init 35 = .ok (.iconst 4, 1) := by decide +kernel
theorem dX5_init_36 : decode cX5_init 36 = .ok (.newarray .int, 2) := by decide +kernel
theorem dX5_init_38 : decode cX5_init 38 = .ok (.putfield 23, 3) := by decide +kernel
theorem dX5_init_41 : decode cX5_init 41 = .ok (.aload_n 0, 1) := by decide +kernel
theorem dX5_init_42 : decode cX5_init 42 = .ok (.sipush 240, 3) := by decide +kernel
theorem dX5_init_45 : decode cX5_init 45 = .ok (.newarray .byte, 2) := by decide +kernel
theorem dX5_init_47 : decode cX5_init 47 = .ok (.putfield 26, 3) := by decide +kernel
theorem dX5_init_50 : decode cX5_init 50 = .ok (.aload_n 0, 1) := by decide +kernel
theorem dX5_init_51 : decode cX5_init 51 = .ok (.bipush 40, 2) := by decide +kernel
theorem dX5_init_53 : decode cX5_init 53 = .ok (.newarray .int, 2) := by decide +kernel
theorem dX5_init_55 : decode cX5_init 55 = .ok (.putfield 30, 3) := by decide +kernel
theorem dX5_init_58 : decode cX5_init 58 = .ok (.aload_n 0, 1) := by decide +kernel
theorem dX5_init_59 : decode cX5_init 59 = .ok (.bipush 14, 2) := by decide +kernel
theorem dX5_init_61 : decode cX5_init 61 = .ok (.newarray .int, 2) := by decide +kernel
theorem dX5_init_63 : decode cX5_init 63 = .ok (.putfield 33, 3) := by decide +kernel
theorem dX5_init_66 : decode cX5_init 66 = .ok (.aload_n 0, 1) := by decide +kernel
theorem dX5_init_67 : decode cX5_init 67 = .ok (.bipush 14, 2) := by decide +kernel
theorem dX5_init_69 : decode cX5_init 69 = .ok (.newarray .int, 2) := by decide +kernel
theorem dX5_init_71 : decode cX5_init 71 = .ok (.putfield 36, 3) := by decide +kernel
theorem dX5_init_74 : decode cX5_init 74 = .ok (.aload_n 0, 1) := by decide +kernel
theorem dX5_init_75 : decode cX5_init 75 = .ok (.bipush 14, 2) := by decide +kernel
theorem dX5_init_77 : decode cX5_init 77 = .ok (.newarray .int, 2) := by decide +kernel
theorem dX5_init_79 : decode cX5_init 79 = .ok (.putfield 39, 3) := by decide +kernel
theorem dX5_init_82 : decode cX5_init 82 = .ok (.aload_n 0, 1) := by decide +kernel
theorem dX5_init_83 : decode cX5_init 83 = .ok (.bipush 14, 2) := by decide +kernel
theorem dX5_init_85 : decode cX5_init 85 = .ok (.newarray .int, 2) := by decide +kernel
theorem dX5_init_87 : decode cX5_init 87 = .ok (.putfield 42, 3) := by decide +kernel
theorem dX5_init_90 : decode cX5_init 90 = .ok (.aload_n 0, 1) := by decide +kernel
theorem dX5_init_91 : decode cX5_init 91 = .ok (.sipush 410, 3) := by decide +kernel
theorem dX5_init_94 : decode cX5_init 94 = .ok (.newarray .int, 2) := by decide +kernel
theorem dX5_init_96 : decode cX5_init 96 = .ok (.putfield 45, 3) := by decide +kernel
theorem dX5_init_99 : decode cX5_init 99 = .ok (.aload_n 0, 1) := by decide +kernel
theorem dX5_init_100 : decode cX5_init 100 = .ok (.sipush 1230, 3) := by decide +kernel
theorem dX5_init_103 : decode cX5_init 103 = .ok (.newarray .int, 2) := by decide +kernel
theorem dX5_init_105 : decode cX5_init 105 = .ok (.putfield 48, 3) := by decide +kernel
theorem dX5_init_108 : decode cX5_init 108 = .ok (.aload_n 0, 1) := by decide +kernel
theorem dX5_init_109 : decode cX5_init 109 = .ok (.iconst 3, 1) := by decide +kernel
theorem dX5_init_110 : decode cX5_init 110 = .ok (.newarray .int, 2) := by decide +kernel
theorem dX5_init_112 : decode cX5_init 112 = .ok (.putfield 51, 3) := by decide +kernel
theorem dX5_init_115 : decode cX5_init 115 = .ok (.aload_n 0, 1) := by decide +kernel
theorem dX5_init_116 : decode cX5_init 116 = .ok (.bipush 10, 2) := by decide +kernel
theorem dX5_init_118 : decode cX5_init 118 = .ok (.newarray .int, 2) := by decide +kernel
theorem dX5_init_120 : decode cX5_init 120 = .ok (.putfield 54, 3) := by decide +kernel
theorem dX5_init_123 : decode cX5_init 123 = .ok (.aload_n 0, 1) := by decide +kernel
theorem dX5_init_124 : decode cX5_init 124 = .ok (.bipush 7, 2) := by decide +kernel
theorem dX5_init_126 : decode cX5_init 126 = .ok (.newarray .int, 2) := by decide +kernel
theorem dX5_init_128 : decode cX5_init 128 = .ok (.putfield 57, 3) := by decide +kernel
theorem dX5_init_131 : decode cX5_init 131 = .ok (.aload_n 0, 1) := by decide +kernel
theorem dX5_init_132 : decode cX5_init 132 = .ok (.bipush 7, 2) := by decide +kernel
theorem dX5_init_134 : decode cX5_init 134 = .ok (.newarray .int, 2) := by decide +kernel
theorem dX5_init_136 : decode cX5_init 136 = .ok (.putfield 60, 3) := by decide +kernel
theorem dX5_init_139 : decode cX5_init 139 = .ok (.aload_n 0, 1) := by decide +kernel
theorem dX5_init_140 : decode cX5_init 140 = .ok (.bipush 7, 2) := by decide +kernel
theorem dX5_init_142 : decode cX5_init 142 = .ok (.newarray .int, 2) := by decide +kernel
theorem dX5_init_144 : decode cX5_init 144 = .ok (.putfield 63, 3) := by decide +kernel
theorem dX5_init_147 : decode cX5_init 147 = .ok (.aload_n 0, 1) := by decide +kernel
theorem dX5_init_148 : decode cX5_init 148 = .ok (.iconst 4, 1) := by decide +kernel
theorem dX5_init_149 : decode cX5_init 149 = .ok (.newarray .int, 2) := by decide +kernel
theorem dX5_init_151 : decode cX5_init 151 = .ok (.putfield 66, 3) := by decide +kernel
theorem dX5_init_154 : decode cX5_init 154 = .ok (.aload_n 0, 1) := by decide +kernel
theorem dX5_init_155 : decode cX5_init 155 = .ok (.bipush 21, 2) := by decide +kernel
theorem dX5_init_157 : decode cX5_init 157 = .ok (.newarray .int, 2) := by decide +kernel
theorem dX5_init_159 : decode cX5_init 159 = .ok (.putfield 69, 3) := by decide +kernel
theorem dX5_init_162 : decode cX5_init 162 = .ok (.aload_n 0, 1) := by decide +kernel
theorem dX5_init_163 : decode cX5_init 163 = .ok (.bipush 6, 2) := by decide +kernel
theorem dX5_init_165 : decode cX5_init 165 = .ok (.newarray .int, 2) := by decide +kernel
theorem dX5_init_167 : decode cX5_init 167 = .ok (.putfield 72, 3) := by decide +kernel
theorem dX5_init_170 : decode cX5_init 170 = .ok (.aload_n 0, 1) := by decide +kernel
theorem dX5_init_171 : decode cX5_init 171 = .ok (.sipush 128, 3) := by decide +kernel
theorem dX5_init_174 : decode cX5_init 174 = .ok (.newarray .int, 2) := by decide +kernel
theorem dX5_init_176 : decode cX5_init 176 = .ok (.putfield 75, 3) := by decide +kernel
theorem dX5_init_179 : decode cX5_init 179 = .ok (.iconst 0, 1) := by decide +kernel
theorem dX5_init_180 : decode cX5_init 180 = .ok (.istore_n 1, 1) := by decide +kernel
theorem dX5_init_181 : decode cX5_init 181 = .ok (.iload_n 1, 1) := by decide +kernel
theorem dX5_init_182 : decode cX5_init 182 = .ok (.bipush 6, 2) := by decide +kernel
theorem dX5_init_184 : decode cX5_init 184 = .ok (.if_icmp .ge 16, 3) := by decide +kernel
theorem dX5_init_187 : decode cX5_init 187 = .ok (.aload_n 0, 1) := by decide +kernel
theorem dX5_init_188 : decode cX5_init 188 = .ok (.getfield 17, 3) := by decide +kernel
theorem dX5_init_191 : decode cX5_init 191 = .ok (.iload_n 1, 1) := by decide +kernel
theorem dX5_init_192 : decode cX5_init 192 = .ok (.iconst (-1), 1) := by decide +kernel
theorem dX5_init_193 : decode cX5_init 193 = .ok (.iastore, 1) := by decide +kernel
theorem dX5_init_194 : decode cX5_init 194 = .ok (.iinc 1 1, 3) := by decide +kernel
theorem dX5_init_197 : decode cX5_init 197 = .ok (.goto (-16), 3) := by decide +kernel
theorem dX5_init_200 : decode cX5_init 200 = .ok (.iconst 0, 1) := by decide +kernel
theorem dX5_init_201 : decode cX5_init 201 = .ok (.istore_n 1, 1) := by decide +kernel
theorem dX5_init_202 : decode cX5_init 202 = .ok (.iload_n 1, 1) := by decide +kernel
theorem dX5_init_203 : decode cX5_init 203 = .ok (.iconst 4, 1) := by decide +kernel
theorem dX5_init_204 : decode cX5_init 204 = .ok (.if_icmp .ge 16, 3) := by decide +kernel
theorem dX5_init_207 : decode cX5_init 207 = .ok (.aload_n 0, 1) := by decide +kernel
theorem dX5_init_208 : decode cX5_init 208 = .ok (.getfield 23, 3) := by decide +kernel
theorem dX5_init_211 : decode cX5_init 211 = .ok (.iload_n 1, 1) := by decide +kernel
theorem dX5_init_212 : decode cX5_init 212 = .ok (.iconst (-1), 1) := by decide +kernel
theorem dX5_init_213 : decode cX5_init 213 = .ok (.iastore, 1) := by decide +kernel
theorem dX5_init_214 : decode cX5_init 214 = .ok (.iinc 1 1, 3) := by decide +kernel
theorem dX5_init_217 : decode cX5_init 217 = .ok (.goto (-15), 3) := by decide +kernel
theorem dX5_init_220 : decode cX5_init 220 = .ok (.iconst 0, 1) := by decide +kernel
theorem dX5_init_221 : decode cX5_init 221 = .ok (.istore_n 1, 1) := by decide +kernel
theorem dX5_init_222 : decode cX5_init 222 = .ok (.iload_n 1, 1) := by decide +kernel
theorem dX5_init_223 : decode cX5_init 223 = .ok (.iconst 3, 1) := by decide +kernel
theorem dX5_init_224 : decode cX5_init 224 = .ok (.if_icmp .ge 16, 3) := by decide +kernel
theorem dX5_init_227 : decode cX5_init 227 = .ok (.aload_n 0, 1) := by decide +kernel
theorem dX5_init_228 : decode cX5_init 228 = .ok (.getfield 51, 3) := by decide +kernel
theorem dX5_init_231 : decode cX5_init 231 = .ok (.iload_n 1, 1) := by decide +kernel
theorem dX5_init_232 : decode cX5_init 232 = .ok (.iconst (-1), 1) := by decide +kernel
theorem dX5_init_233 : decode cX5_init 233 = .ok (.iastore, 1) := by decide +kernel
theorem dX5_init_234 : decode cX5_init 234 = .ok (.iinc 1 1, 3) := by decide +kernel
theorem dX5_init_237 : decode cX5_init 237 = .ok (.goto (-15), 3) := by decide +kernel
theorem dX5_init_240 : decode cX5_init 240 = .ok (.return_, 1) := by decide +kernel
theorem dX5_in_0 : decode cX5_in 0 = .ok (.iload_n 0, 1) := by decide +kernel
theorem dX5_in_1 : decode cX5_in 1 = .ok (.iload_n 1, 1) := by decide +kernel
theorem dX5_in_2 : decode cX5_in 2 = .ok (.if_icmp .lt 12, 3) := by decide +kernel
theorem dX5_in_5 : decode cX5_in 5 = .ok (.iload_n 0, 1) := by decide +kernel
theorem dX5_in_6 : decode cX5_in 6 = .ok (.iload_n 2, 1) := by decide +kernel
theorem dX5_in_7 : decode cX5_in 7 = .ok (.if_icmp .gt 7, 3) := by decide +kernel
theorem dX5_in_10 : decode cX5_in 10 = .ok (.iconst 1, 1) := by decide +kernel
theorem dX5_in_11 : decode cX5_in 11 = .ok (.goto 4, 3) := by decide +kernel
theorem dX5_in_14 : decode cX5_in 14 = .ok (.iconst 0, 1) := by decide +kernel
theorem dX5_in_15 : decode cX5_in 15 = .ok (.ireturn, 1) := by decide +kernel
theorem dX5_has_0 : decode cX5_has 0 = .ok (.iload_n 0, 1) := by decide +kernel
theorem dX5_has_1 : decode cX5_has 1 = .ok (.iload_n 1, 1) := by decide +kernel
theorem dX5_has_2 : decode cX5_has 2 = .ok (.ishr, 1) := by decide +kernel
theorem dX5_has_3 : decode cX5_has 3 = .ok (.iconst 1, 1) := by decide +kernel
theorem dX5_has_4 : decode cX5_has 4 = .ok (.iand, 1) := by decide +kernel
theorem dX5_has_5 : decode cX5_has 5 = .ok (.iconst 1, 1) := by decide +kernel
theorem dX5_has_6 : decode cX5_has 6 = .ok (.if_icmp .ne 7, 3) := by decide +kernel
theorem dX5_has_9 : decode cX5_has 9 = .ok (.iconst 1, 1) := by decide +kernel
theorem dX5_has_10 : decode cX5_has 10 = .ok (.goto 4, 3) := by decide +kernel
theorem dX5_has_13 : decode cX5_has 13 = .ok (.iconst 0, 1) := by decide +kernel
theorem dX5_has_14 : decode cX5_has 14 = .ok (.ireturn, 1) := by decide +kernel
theorem dX5_bitsOf_0 : decode cX5_bitsOf 0 = .ok (.iconst 0, 1) := by decide +kernel
theorem dX5_bitsOf_1 : decode cX5_bitsOf 1 = .ok (.istore_n 1, 1) := by decide +kernel
theorem dX5_bitsOf_2 : decode cX5_bitsOf 2 = .ok (.iconst 0, 1) := by decide +kernel
theorem dX5_bitsOf_3 : decode cX5_bitsOf 3 = .ok (.istore_n 2, 1) := by decide +kernel
theorem dX5_bitsOf_4 : decode cX5_bitsOf 4 = .ok (.iload_n 2, 1) := by decide +kernel
theorem dX5_bitsOf_5 : decode cX5_bitsOf 5 = .ok (.bipush 8, 2) := by decide +kernel
theorem dX5_bitsOf_7 : decode cX5_bitsOf 7 = .ok (.if_icmp .ge 17, 3) := by decide +kernel
theorem dX5_bitsOf_10 : decode cX5_bitsOf 10 = .ok (.iload_n 1, 1) := by decide +kernel
theorem dX5_bitsOf_11 : decode cX5_bitsOf 11 = .ok (.iload_n 0, 1) := by decide +kernel
theorem dX5_bitsOf_12 : decode cX5_bitsOf 12 = .ok (.iload_n 2, 1) := by decide +kernel
theorem dX5_bitsOf_13 : decode cX5_bitsOf 13 = .ok (.ishr, 1) := by decide +kernel
theorem dX5_bitsOf_14 : decode cX5_bitsOf 14 = .ok (.iconst 1, 1) := by decide +kernel
theorem dX5_bitsOf_15 : decode cX5_bitsOf 15 = .ok (.iand, 1) := by decide +kernel
theorem dX5_bitsOf_16 : decode cX5_bitsOf 16 = .ok (.iadd, 1) := by decide +kernel
theorem dX5_bitsOf_17 : decode cX5_bitsOf 17 = .ok (.istore_n 1, 1) := by decide +kernel
theorem dX5_bitsOf_18 : decode cX5_bitsOf 18 = .ok (.iinc 2 1, 3) := by decide +kernel
theorem dX5_bitsOf_21 : decode cX5_bitsOf 21 = .ok (.goto (-17), 3) := by decide +kernel
theorem dX5_bitsOf_24 : decode cX5_bitsOf 24 = .ok (.iload_n 1, 1) := by decide +kernel
theorem dX5_bitsOf_25 : decode cX5_bitsOf 25 = .ok (.ireturn, 1) := by decide +kernel
theorem dX5_find_0 : decode cX5_find 0 = .ok (.aload_n 0, 1) := by decide +kernel
theorem dX5_find_1 : decode cX5_find 1 = .ok (.iload_n 1, 1) := by decide +kernel
theorem dX5_find_2 : decode cX5_find 2 = .ok (.putfield 78, 3) := by decide +kernel
theorem dX5_find_5 : decode cX5_find 5 = .ok (.aload_n 0, 1) := by decide +kernel
theorem dX5_find_6 : decode cX5_find 6 = .ok (.getfield 7, 3) := by decide +kernel
theorem dX5_find_9 : decode cX5_find 9 = .ok (.iload_n 1, 1) := by decide +kernel
theorem dX5_find_10 : decode cX5_find 10 = .ok (.dup2, 1) := by decide +kernel
theorem dX5_find_11 : decode cX5_find 11 = .ok (.iaload, 1) := by decide +kernel
theorem dX5_find_12 : decode cX5_find 12 = .ok (.iconst 1, 1) := by decide +kernel
theorem dX5_find_13 : decode cX5_find 13 = .ok (.iadd, 1) := by decide +kernel
theorem dX5_find_14 : decode cX5_find 14 = .ok (.iastore, 1) := by decide +kernel
theorem dX5_find_15 : decode cX5_find 15 = .ok (.bipush (-3), 2) := by decide +kernel
theorem dX5_find_17 : decode cX5_find 17 = .ok (.ireturn, 1) := by decide +kernel
theorem dX5_tellAsked_0 : decode cX5_tellAsked 0 = .ok (.aload_n 0, 1) := by decide +kernel
theorem dX5_tellAsked_1 : decode cX5_tellAsked 1 = .ok (.iload_n 1, 1) := by decide +kernel
theorem dX5_tellAsked_2 : decode cX5_tellAsked 2 = .ok (.putfield 82, 3) := by decide +kernel
theorem dX5_tellAsked_5 : decode cX5_tellAsked 5 = .ok (.iconst 1, 1) := by decide +kernel
theorem dX5_tellAsked_6 : decode cX5_tellAsked 6 = .ok (.ireturn, 1) := by decide +kernel
theorem dX5_fraction_0 : decode cX5_fraction 0 = .ok (.lload_n 1, 1) := by decide +kernel
theorem dX5_fraction_1 : decode cX5_fraction 1 = .ok (.lstore 5, 2) := by decide +kernel
theorem dX5_fraction_3 : decode cX5_fraction 3 = .ok (.lload_n 3, 1) := by decide +kernel
theorem dX5_fraction_4 : decode cX5_fraction 4 = .ok (.lstore 7, 2) := by decide +kernel
theorem dX5_fraction_6 : decode cX5_fraction 6 = .ok (.lload 7, 2) := by decide +kernel
theorem dX5_fraction_8 : decode cX5_fraction 8 = .ok (.lconst 0, 1) := by decide +kernel
theorem dX5_fraction_9 : decode cX5_fraction 9 = .ok (.lcmp, 1) := by decide +kernel
theorem dX5_fraction_10 : decode cX5_fraction 10 = .ok (.ifCond .eq 21, 3) := by decide +kernel
theorem dX5_fraction_13 : decode cX5_fraction 13 = .ok (.lload 5, 2) := by decide +kernel
theorem dX5_fraction_15 : decode cX5_fraction 15 = .ok (.lload 7, 2) := by decide +kernel
theorem dX5_fraction_17 : decode cX5_fraction 17 = .ok (.lrem, 1) := by decide +kernel
theorem dX5_fraction_18 : decode cX5_fraction 18 = .ok (.lstore 9, 2) := by decide +kernel
theorem dX5_fraction_20 : decode cX5_fraction 20 = .ok (.lload 7, 2) := by decide +kernel
theorem dX5_fraction_22 : decode cX5_fraction 22 = .ok (.lstore 5, 2) := by decide +kernel
theorem dX5_fraction_24 : decode cX5_fraction 24 = .ok (.lload 9, 2) := by decide +kernel
theorem dX5_fraction_26 : decode cX5_fraction 26 = .ok (.lstore 7, 2) := by decide +kernel
theorem dX5_fraction_28 : decode cX5_fraction 28 = .ok (.goto (-22), 3) := by decide +kernel
theorem dX5_fraction_31 : decode cX5_fraction 31 = .ok (.aload_n 0, 1) := by decide +kernel
theorem dX5_fraction_32 : decode cX5_fraction 32 = .ok (.lload_n 1, 1) := by decide +kernel
theorem dX5_fraction_33 : decode cX5_fraction 33 = .ok (.lload 5, 2) := by decide +kernel
theorem dX5_fraction_35 : decode cX5_fraction 35 = .ok (.ldiv, 1) := by decide +kernel
theorem dX5_fraction_36 : decode cX5_fraction 36 = .ok (.putfield 85, 3) := by decide +kernel
theorem dX5_fraction_39 : decode cX5_fraction 39 = .ok (.aload_n 0, 1) := by decide +kernel
theorem dX5_fraction_40 : decode cX5_fraction 40 = .ok (.lload_n 3, 1) := by decide +kernel
theorem dX5_fraction_41 : decode cX5_fraction 41 = .ok (.lload 5, 2) := by decide +kernel
theorem dX5_fraction_43 : decode cX5_fraction 43 = .ok (.ldiv, 1) := by decide +kernel
theorem dX5_fraction_44 : decode cX5_fraction 44 = .ok (.putfield 13, 3) := by decide +kernel
theorem dX5_fraction_47 : decode cX5_fraction 47 = .ok (.iconst 1, 1) := by decide +kernel
theorem dX5_fraction_48 : decode cX5_fraction 48 = .ok (.ireturn, 1) := by decide +kernel
theorem dX5_isRow_0 : decode cX5_isRow 0 = .ok (.iload_n 0, 1) := by decide +kernel
theorem dX5_isRow_1 : decode cX5_isRow 1 = .ok (.iconst 0, 1) := by decide +kernel
theorem dX5_isRow_2 : decode cX5_isRow 2 = .ok (.iconst 5, 1) := by decide +kernel
theorem dX5_isRow_3 : decode cX5_isRow 3 = .ok (.invokestatic 88, 3) := by decide +kernel
theorem dX5_isRow_6 : decode cX5_isRow 6 = .ok (.ireturn, 1) := by decide +kernel
theorem dX5_isText_0 : decode cX5_isText 0 = .ok (.iload_n 0, 1) := by decide +kernel
theorem dX5_isText_1 : decode cX5_isText 1 = .ok (.iconst 0, 1) := by decide +kernel
theorem dX5_isText_2 : decode cX5_isText 2 = .ok (.iconst 3, 1) := by decide +kernel
theorem dX5_isText_3 : decode cX5_isText 3 = .ok (.invokestatic 88, 3) := by decide +kernel
theorem dX5_isText_6 : decode cX5_isText 6 = .ok (.ireturn, 1) := by decide +kernel
theorem dX5_row_0 : decode cX5_row 0 = .ok (.iload_n 1, 1) := by decide +kernel
theorem dX5_row_1 : decode cX5_row 1 = .ok (.invokestatic 92, 3) := by decide +kernel
theorem dX5_row_4 : decode cX5_row 4 = .ok (.ifCond .eq 9, 3) := by decide +kernel
theorem dX5_row_7 : decode cX5_row 7 = .ok (.iload_n 2, 1) := by decide +kernel
theorem dX5_row_8 : decode cX5_row 8 = .ok (.bipush 40, 2) := by decide +kernel
theorem dX5_row_10 : decode cX5_row 10 = .ok (.if_icmp .le 5, 3) := by decide +kernel
theorem dX5_row_13 : decode cX5_row 13 = .ok (.iconst (-1), 1) := by decide +kernel
theorem dX5_row_14 : decode cX5_row 14 = .ok (.ireturn, 1) := by decide +kernel
theorem dX5_row_15 : decode cX5_row 15 = .ok (.iload_n 2, 1) := by decide +kernel
theorem dX5_row_16 : decode cX5_row 16 = .ok (.ifCond .ge 9, 3) := by decide +kernel
theorem dX5_row_19 : decode cX5_row 19 = .ok (.aload_n 0, 1) := by decide +kernel
theorem dX5_row_20 : decode cX5_row 20 = .ok (.iconst 5, 1) := by decide +kernel
theorem dX5_row_21 : decode cX5_row 21 = .ok (.invokevirtual 96, 3) := by decide +kernel
theorem dX5_row_24 : decode cX5_row 24 = .ok (.ireturn, 1) := by decide +kernel
theorem dX5_row_25 : decode cX5_row 25 = .ok (.aload_n 0, 1) := by decide +kernel
theorem dX5_row_26 : decode cX5_row 26 = .ok (.getfield 17, 3) := by decide +kernel
theorem dX5_row_29 : decode cX5_row 29 = .ok (.iload_n 1, 1) := by decide +kernel
theorem dX5_row_30 : decode cX5_row 30 = .ok (.iload_n 2, 1) := by decide +kernel
theorem dX5_row_31 : decode cX5_row 31 = .ok (.iastore, 1) := by decide +kernel
theorem dX5_row_32 : decode cX5_row 32 = .ok (.iconst 0, 1) := by decide +kernel
theorem dX5_row_33 : decode cX5_row 33 = .ok (.istore_n 3, 1) := by decide +kernel
theorem dX5_row_34 : decode cX5_row 34 = .ok (.iload_n 3, 1) := by decide +kernel
theorem dX5_row_35 : decode cX5_row 35 = .ok (.bipush 40, 2) := by decide +kernel
theorem dX5_row_37 : decode cX5_row 37 = .ok (.if_icmp .ge 21, 3) := by decide +kernel
theorem dX5_row_40 : decode cX5_row 40 = .ok (.aload_n 0, 1) := by decide +kernel
theorem dX5_row_41 : decode cX5_row 41 = .ok (.getfield 20, 3) := by decide +kernel
theorem dX5_row_44 : decode cX5_row 44 = .ok (.bipush 40, 2) := by decide +kernel
theorem dX5_row_46 : decode cX5_row 46 = .ok (.iload_n 1, 1) := by decide +kernel
theorem dX5_row_47 : decode cX5_row 47 = .ok (.imul, 1) := by decide +kernel
theorem dX5_row_48 : decode cX5_row 48 = .ok (.iload_n 3, 1) := by decide +kernel
theorem dX5_row_49 : decode cX5_row 49 = .ok (.iadd, 1) := by decide +kernel
theorem dX5_row_50 : decode cX5_row 50 = .ok (.iconst 0, 1) := by decide +kernel
theorem dX5_row_51 : decode cX5_row 51 = .ok (.iastore, 1) := by decide +kernel
theorem dX5_row_52 : decode cX5_row 52 = .ok (.iinc 3 1, 3) := by decide +kernel
theorem dX5_row_55 : decode cX5_row 55 = .ok (.goto (-21), 3) := by decide +kernel
theorem dX5_row_58 : decode cX5_row 58 = .ok (.iload_n 2, 1) := by decide +kernel
theorem dX5_row_59 : decode cX5_row 59 = .ok (.ireturn, 1) := by decide +kernel
theorem dX5_lay_0 : decode cX5_lay 0 = .ok (.iload_n 1, 1) := by decide +kernel
theorem dX5_lay_1 : decode cX5_lay 1 = .ok (.invokestatic 92, 3) := by decide +kernel
theorem dX5_lay_4 : decode cX5_lay 4 = .ok (.ifCond .ne 5, 3) := by decide +kernel
theorem dX5_lay_7 : decode cX5_lay 7 = .ok (.iconst (-1), 1) := by decide +kernel
theorem dX5_lay_8 : decode cX5_lay 8 = .ok (.ireturn, 1) := by decide +kernel
theorem dX5_lay_9 : decode cX5_lay 9 = .ok (.aload_n 0, 1) := by decide +kernel
theorem dX5_lay_10 : decode cX5_lay 10 = .ok (.getfield 17, 3) := by decide +kernel
theorem dX5_lay_13 : decode cX5_lay 13 = .ok (.iload_n 1, 1) := by decide +kernel
theorem dX5_lay_14 : decode cX5_lay 14 = .ok (.iaload, 1) := by decide +kernel
theorem dX5_lay_15 : decode cX5_lay 15 = .ok (.ifCond .ge 9, 3) := by decide +kernel
theorem dX5_lay_18 : decode cX5_lay 18 = .ok (.aload_n 0, 1) := by decide +kernel
theorem dX5_lay_19 : decode cX5_lay 19 = .ok (.iconst 1, 1) := by decide +kernel
theorem dX5_lay_20 : decode cX5_lay 20 = .ok (.invokevirtual 96, 3) := by decide +kernel
theorem dX5_lay_23 : decode cX5_lay 23 = .ok (.ireturn, 1) := by decide +kernel
theorem dX5_lay_24 : decode cX5_lay 24 = .ok (.iload_n 2, 1) := by decide +kernel
theorem dX5_lay_25 : decode cX5_lay 25 = .ok (.iconst 0, 1) := by decide +kernel
theorem dX5_lay_26 : decode cX5_lay 26 = .ok (.aload_n 0, 1) := by decide +kernel
theorem dX5_lay_27 : decode cX5_lay 27 = .ok (.getfield 17, 3) := by decide +kernel
theorem dX5_lay_30 : decode cX5_lay 30 = .ok (.iload_n 1, 1) := by decide +kernel
theorem dX5_lay_31 : decode cX5_lay 31 = .ok (.iaload, 1) := by decide +kernel
theorem dX5_lay_32 : decode cX5_lay 32 = .ok (.iconst 1, 1) := by decide +kernel
theorem dX5_lay_33 : decode cX5_lay 33 = .ok (.isub, 1) := by decide +kernel
theorem dX5_lay_34 : decode cX5_lay 34 = .ok (.invokestatic 88, 3) := by decide +kernel
theorem dX5_lay_37 : decode cX5_lay 37 = .ok (.ifCond .ne 9, 3) := by decide +kernel
theorem dX5_lay_40 : decode cX5_lay 40 = .ok (.aload_n 0, 1) := by decide +kernel
theorem dX5_lay_41 : decode cX5_lay 41 = .ok (.iconst 2, 1) := by decide +kernel
theorem dX5_lay_42 : decode cX5_lay 42 = .ok (.invokevirtual 96, 3) := by decide +kernel
theorem dX5_lay_45 : decode cX5_lay 45 = .ok (.ireturn, 1) := by decide +kernel
theorem dX5_lay_46 : decode cX5_lay 46 = .ok (.aload_n 0, 1) := by decide +kernel
theorem dX5_lay_47 : decode cX5_lay 47 = .ok (.getfield 20, 3) := by decide +kernel
theorem dX5_lay_50 : decode cX5_lay 50 = .ok (.bipush 40, 2) := by decide +kernel
theorem dX5_lay_52 : decode cX5_lay 52 = .ok (.iload_n 1, 1) := by decide +kernel
theorem dX5_lay_53 : decode cX5_lay 53 = .ok (.imul, 1) := by decide +kernel
theorem dX5_lay_54 : decode cX5_lay 54 = .ok (.iload_n 2, 1) := by decide +kernel
theorem dX5_lay_55 : decode cX5_lay 55 = .ok (.iadd, 1) := by decide +kernel
theorem dX5_lay_56 : decode cX5_lay 56 = .ok (.iaload, 1) := by decide +kernel
theorem dX5_lay_57 : decode cX5_lay 57 = .ok (.istore 4, 2) := by decide +kernel
theorem dX5_lay_59 : decode cX5_lay 59 = .ok (.aload_n 0, 1) := by decide +kernel
theorem dX5_lay_60 : decode cX5_lay 60 = .ok (.getfield 20, 3) := by decide +kernel
theorem dX5_lay_63 : decode cX5_lay 63 = .ok (.bipush 40, 2) := by decide +kernel
theorem dX5_lay_65 : decode cX5_lay 65 = .ok (.iload_n 1, 1) := by decide +kernel
theorem dX5_lay_66 : decode cX5_lay 66 = .ok (.imul, 1) := by decide +kernel
theorem dX5_lay_67 : decode cX5_lay 67 = .ok (.iload_n 2, 1) := by decide +kernel
theorem dX5_lay_68 : decode cX5_lay 68 = .ok (.iadd, 1) := by decide +kernel
theorem dX5_lay_69 : decode cX5_lay 69 = .ok (.iload_n 3, 1) := by decide +kernel
theorem dX5_lay_70 : decode cX5_lay 70 = .ok (.iastore, 1) := by decide +kernel
theorem dX5_lay_71 : decode cX5_lay 71 = .ok (.aload_n 0, 1) := by decide +kernel
theorem dX5_lay_72 : decode cX5_lay 72 = .ok (.iload 4, 2) := by decide +kernel
theorem dX5_lay_74 : decode cX5_lay 74 = .ok (.invokevirtual 100, 3) := by decide +kernel
theorem dX5_lay_77 : decode cX5_lay 77 = .ok (.ireturn, 1) := by decide +kernel
theorem dX5_at_0 : decode cX5_at 0 = .ok (.iload_n 1, 1) := by decide +kernel
theorem dX5_at_1 : decode cX5_at 1 = .ok (.invokestatic 92, 3) := by decide +kernel
theorem dX5_at_4 : decode cX5_at 4 = .ok (.ifCond .ne 5, 3) := by decide +kernel
theorem dX5_at_7 : decode cX5_at 7 = .ok (.iconst (-1), 1) := by decide +kernel
theorem dX5_at_8 : decode cX5_at 8 = .ok (.ireturn, 1) := by decide +kernel
theorem dX5_at_9 : decode cX5_at 9 = .ok (.aload_n 0, 1) := by decide +kernel
theorem dX5_at_10 : decode cX5_at 10 = .ok (.getfield 17, 3) := by decide +kernel
theorem dX5_at_13 : decode cX5_at 13 = .ok (.iload_n 1, 1) := by decide +kernel
theorem dX5_at_14 : decode cX5_at 14 = .ok (.iaload, 1) := by decide +kernel
theorem dX5_at_15 : decode cX5_at 15 = .ok (.ifCond .ge 9, 3) := by decide +kernel
theorem dX5_at_18 : decode cX5_at 18 = .ok (.aload_n 0, 1) := by decide +kernel
theorem dX5_at_19 : decode cX5_at 19 = .ok (.iconst 1, 1) := by decide +kernel
theorem dX5_at_20 : decode cX5_at 20 = .ok (.invokevirtual 96, 3) := by decide +kernel
theorem dX5_at_23 : decode cX5_at 23 = .ok (.ireturn, 1) := by decide +kernel
theorem dX5_at_24 : decode cX5_at 24 = .ok (.iload_n 2, 1) := by decide +kernel
theorem dX5_at_25 : decode cX5_at 25 = .ok (.iconst 0, 1) := by decide +kernel
theorem dX5_at_26 : decode cX5_at 26 = .ok (.aload_n 0, 1) := by decide +kernel
theorem dX5_at_27 : decode cX5_at 27 = .ok (.getfield 17, 3) := by decide +kernel
theorem dX5_at_30 : decode cX5_at 30 = .ok (.iload_n 1, 1) := by decide +kernel
theorem dX5_at_31 : decode cX5_at 31 = .ok (.iaload, 1) := by decide +kernel
theorem dX5_at_32 : decode cX5_at 32 = .ok (.iconst 1, 1) := by decide +kernel
theorem dX5_at_33 : decode cX5_at 33 = .ok (.isub, 1) := by decide +kernel
theorem dX5_at_34 : decode cX5_at 34 = .ok (.invokestatic 88, 3) := by decide +kernel
theorem dX5_at_37 : decode cX5_at 37 = .ok (.ifCond .eq 21, 3) := by decide +kernel
theorem dX5_at_40 : decode cX5_at 40 = .ok (.aload_n 0, 1) := by decide +kernel
theorem dX5_at_41 : decode cX5_at 41 = .ok (.aload_n 0, 1) := by decide +kernel
theorem dX5_at_42 : decode cX5_at 42 = .ok (.getfield 20, 3) := by decide +kernel
theorem dX5_at_45 : decode cX5_at 45 = .ok (.bipush 40, 2) := by decide +kernel
theorem dX5_at_47 : decode cX5_at 47 = .ok (.iload_n 1, 1) := by decide +kernel
theorem dX5_at_48 : decode cX5_at 48 = .ok (.imul, 1) := by decide +kernel
theorem dX5_at_49 : decode cX5_at 49 = .ok (.iload_n 2, 1) := by decide +kernel
theorem dX5_at_50 : decode cX5_at 50 = .ok (.iadd, 1) := by decide +kernel
theorem dX5_at_51 : decode cX5_at 51 = .ok (.iaload, 1) := by decide +kernel
theorem dX5_at_52 : decode cX5_at 52 = .ok (.invokevirtual 100, 3) := by decide +kernel
theorem dX5_at_55 : decode cX5_at 55 = .ok (.goto 8, 3) := by decide +kernel
theorem dX5_at_58 : decode cX5_at 58 = .ok (.aload_n 0, 1) := by decide +kernel
theorem dX5_at_59 : decode cX5_at 59 = .ok (.iconst 2, 1) := by decide +kernel
theorem dX5_at_60 : decode cX5_at 60 = .ok (.invokevirtual 96, 3) := by decide +kernel
theorem dX5_at_63 : decode cX5_at 63 = .ok (.ireturn, 1) := by decide +kernel
theorem dX5_tear_0 : decode cX5_tear 0 = .ok (.iload_n 1, 1) := by decide +kernel
theorem dX5_tear_1 : decode cX5_tear 1 = .ok (.invokestatic 92, 3) := by decide +kernel
theorem dX5_tear_4 : decode cX5_tear 4 = .ok (.ifCond .ne 5, 3) := by decide +kernel
theorem dX5_tear_7 : decode cX5_tear 7 = .ok (.iconst (-1), 1) := by decide +kernel
theorem dX5_tear_8 : decode cX5_tear 8 = .ok (.ireturn, 1) := by decide +kernel
theorem dX5_tear_9 : decode cX5_tear 9 = .ok (.aload_n 0, 1) := by decide +kernel
theorem dX5_tear_10 : decode cX5_tear 10 = .ok (.getfield 17, 3) := by decide +kernel
theorem dX5_tear_13 : decode cX5_tear 13 = .ok (.iload_n 1, 1) := by decide +kernel
theorem dX5_tear_14 : decode cX5_tear 14 = .ok (.iaload, 1) := by decide +kernel
theorem dX5_tear_15 : decode cX5_tear 15 = .ok (.ifCond .ge 9, 3) := by decide +kernel
theorem dX5_tear_18 : decode cX5_tear 18 = .ok (.aload_n 0, 1) := by decide +kernel
theorem dX5_tear_19 : decode cX5_tear 19 = .ok (.iconst 1, 1) := by decide +kernel
theorem dX5_tear_20 : decode cX5_tear 20 = .ok (.invokevirtual 96, 3) := by decide +kernel
theorem dX5_tear_23 : decode cX5_tear 23 = .ok (.ireturn, 1) := by decide +kernel
theorem dX5_tear_24 : decode cX5_tear 24 = .ok (.aload_n 0, 1) := by decide +kernel
theorem dX5_tear_25 : decode cX5_tear 25 = .ok (.getfield 17, 3) := by decide +kernel
theorem dX5_tear_28 : decode cX5_tear 28 = .ok (.iload_n 1, 1) := by decide +kernel
theorem dX5_tear_29 : decode cX5_tear 29 = .ok (.iconst (-1), 1) := by decide +kernel
theorem dX5_tear_30 : decode cX5_tear 30 = .ok (.iastore, 1) := by decide +kernel
theorem dX5_tear_31 : decode cX5_tear 31 = .ok (.iconst 1, 1) := by decide +kernel
theorem dX5_tear_32 : decode cX5_tear 32 = .ok (.ireturn, 1) := by decide +kernel
theorem dX5_copy_0 : decode cX5_copy 0 = .ok (.iload_n 1, 1) := by decide +kernel
theorem dX5_copy_1 : decode cX5_copy 1 = .ok (.invokestatic 92, 3) := by decide +kernel
theorem dX5_copy_4 : decode cX5_copy 4 = .ok (.ifCond .eq 10, 3) := by decide +kernel
theorem dX5_copy_7 : decode cX5_copy 7 = .ok (.iload_n 3, 1) := by decide +kernel
theorem dX5_copy_8 : decode cX5_copy 8 = .ok (.invokestatic 92, 3) := by decide +kernel
theorem dX5_copy_11 : decode cX5_copy 11 = .ok (.ifCond .ne 5, 3) := by decide +kernel
theorem dX5_copy_14 : decode cX5_copy 14 = .ok (.iconst (-1), 1) := by decide +kernel
theorem dX5_copy_15 : decode cX5_copy 15 = .ok (.ireturn, 1) := by decide +kernel
theorem dX5_copy_16 : decode cX5_copy 16 = .ok (.iload 5, 2) := by decide +kernel
theorem dX5_copy_18 : decode cX5_copy 18 = .ok (.ifCond .ge 9, 3) := by decide +kernel
theorem dX5_copy_21 : decode cX5_copy 21 = .ok (.aload_n 0, 1) := by decide +kernel
theorem dX5_copy_22 : decode cX5_copy 22 = .ok (.iconst 5, 1) := by decide +kernel
theorem dX5_copy_23 : decode cX5_copy 23 = .ok (.invokevirtual 96, 3) := by decide +kernel
theorem dX5_copy_26 : decode cX5_copy 26 = .ok (.ireturn, 1) := by decide +kernel
theorem dX5_copy_27 : decode cX5_copy 27 = .ok (.aload_n 0, 1) := by decide +kernel
theorem dX5_copy_28 : decode cX5_copy 28 = .ok (.getfield 17, 3) := by decide +kernel
theorem dX5_copy_31 : decode cX5_copy 31 = .ok (.iload_n 1, 1) := by decide +kernel
theorem dX5_copy_32 : decode cX5_copy 32 = .ok (.iaload, 1) := by decide +kernel
theorem dX5_copy_33 : decode cX5_copy 33 = .ok (.ifCond .lt 12, 3) := by decide +kernel
theorem dX5_copy_36 : decode cX5_copy 36 = .ok (.aload_n 0, 1) := by decide +kernel
theorem dX5_copy_37 : decode cX5_copy 37 = .ok (.getfield 17, 3) := by decide +kernel
theorem dX5_copy_40 : decode cX5_copy 40 = .ok (.iload_n 3, 1) := by decide +kernel
theorem dX5_copy_41 : decode cX5_copy 41 = .ok (.iaload, 1) := by decide +kernel
theorem dX5_copy_42 : decode cX5_copy 42 = .ok (.ifCond .ge 9, 3) := by decide +kernel
theorem dX5_copy_45 : decode cX5_copy 45 = .ok (.aload_n 0, 1) := by decide +kernel
theorem dX5_copy_46 : decode cX5_copy 46 = .ok (.iconst 1, 1) := by decide +kernel
theorem dX5_copy_47 : decode cX5_copy 47 = .ok (.invokevirtual 96, 3) := by decide +kernel
theorem dX5_copy_50 : decode cX5_copy 50 = .ok (.ireturn, 1) := by decide +kernel
theorem dX5_copy_51 : decode cX5_copy 51 = .ok (.iload_n 2, 1) := by decide +kernel
theorem dX5_copy_52 : decode cX5_copy 52 = .ok (.ifCond .lt 35, 3) := by decide +kernel
theorem dX5_copy_55 : decode cX5_copy 55 = .ok (.iload_n 2, 1) := by decide +kernel
theorem dX5_copy_56 : decode cX5_copy 56 = .ok (.aload_n 0, 1) := by decide +kernel
theorem dX5_copy_57 : decode cX5_copy 57 = .ok (.getfield 17, 3) := by decide +kernel
theorem dX5_copy_60 : decode cX5_copy 60 = .ok (.iload_n 1, 1) := by decide +kernel
theorem dX5_copy_61 : decode cX5_copy 61 = .ok (.iaload, 1) := by decide +kernel
theorem dX5_copy_62 : decode cX5_copy 62 = .ok (.iload 5, 2) := by decide +kernel
theorem dX5_copy_64 : decode cX5_copy 64 = .ok (.isub, 1) := by decide +kernel
theorem dX5_copy_65 : decode cX5_copy 65 = .ok (.if_icmp .gt 22, 3) := by decide +kernel
theorem dX5_copy_68 : decode cX5_copy 68 = .ok (.iload 4, 2) := by decide +kernel
theorem dX5_copy_70 : decode cX5_copy 70 = .ok (.ifCond .lt 17, 3) := by decide +kernel
theorem dX5_copy_73 : decode cX5_copy 73 = .ok (.iload 4, 2) := by decide +kernel
theorem dX5_copy_75 : decode cX5_copy 75 = .ok (.aload_n 0, 1) := by decide +kernel
theorem dX5_copy_76 : decode cX5_copy 76 = .ok (.getfield 17, 3) := by decide +kernel
theorem dX5_copy_79 : decode cX5_copy 79 = .ok (.iload_n 3, 1) := by decide +kernel
theorem dX5_copy_80 : decode cX5_copy 80 = .ok (.iaload, 1) := by decide +kernel
theorem dX5_copy_81 : decode cX5_copy 81 = .ok (.iload 5, 2) := by decide +kernel
theorem dX5_copy_83 : decode cX5_copy 83 = .ok (.isub, 1) := by decide +kernel
theorem dX5_copy_84 : decode cX5_copy 84 = .ok (.if_icmp .le 9, 3) := by decide +kernel
theorem dX5_copy_87 : decode cX5_copy 87 = .ok (.aload_n 0, 1) := by decide +kernel
theorem dX5_copy_88 : decode cX5_copy 88 = .ok (.iconst 2, 1) := by decide +kernel
theorem dX5_copy_89 : decode cX5_copy 89 = .ok (.invokevirtual 96, 3) := by decide +kernel
theorem dX5_copy_92 : decode cX5_copy 92 = .ok (.ireturn, 1) := by decide +kernel
theorem dX5_copy_93 : decode cX5_copy 93 = .ok (.iconst 0, 1) := by decide +kernel
theorem dX5_copy_94 : decode cX5_copy 94 = .ok (.istore 6, 2) := by decide +kernel
theorem dX5_copy_96 : decode cX5_copy 96 = .ok (.iload 6, 2) := by decide +kernel
theorem dX5_copy_98 : decode cX5_copy 98 = .ok (.iload 5, 2) := by decide +kernel
theorem dX5_copy_100 : decode cX5_copy 100 = .ok (.if_icmp .ge 30, 3) := by decide +kernel
theorem dX5_copy_103 : decode cX5_copy 103 = .ok (.aload_n 0, 1) := by decide +kernel
theorem dX5_copy_104 : decode cX5_copy 104 = .ok (.getfield 30, 3) := by decide +kernel
theorem dX5_copy_107 : decode cX5_copy 107 = .ok (.iload 6, 2) := by decide +kernel
theorem dX5_copy_109 : decode cX5_copy 109 = .ok (.aload_n 0, 1) := by decide +kernel
theorem dX5_copy_110 : decode cX5_copy 110 = .ok (.getfield 20, 3) := by decide +kernel
theorem dX5_copy_113 : decode cX5_copy 113 = .ok (.bipush 40, 2) := by decide +kernel
theorem dX5_copy_115 : decode cX5_copy 115 = .ok (.iload_n 1, 1) := by decide +kernel
theorem dX5_copy_116 : decode cX5_copy 116 = .ok (.imul, 1) := by decide +kernel
theorem dX5_copy_117 : decode cX5_copy 117 = .ok (.iload_n 2, 1) := by decide +kernel
theorem dX5_copy_118 : decode cX5_copy 118 = .ok (.iadd, 1) := by decide +kernel
theorem dX5_copy_119 : decode cX5_copy 119 = .ok (.iload 6, 2) := by decide +kernel
theorem dX5_copy_121 : decode cX5_copy 121 = .ok (.iadd, 1) := by decide +kernel
theorem dX5_copy_122 : decode cX5_copy 122 = .ok (.iaload, 1) := by decide +kernel
theorem dX5_copy_123 : decode cX5_copy 123 = .ok (.iastore, 1) := by decide +kernel
theorem dX5_copy_124 : decode cX5_copy 124 = .ok (.iinc 6 1, 3) := by decide +kernel
theorem dX5_copy_127 : decode cX5_copy 127 = .ok (.goto (-31), 3) := by decide +kernel
theorem dX5_copy_130 : decode cX5_copy 130 = .ok (.iconst 0, 1) := by decide +kernel
theorem dX5_copy_131 : decode cX5_copy 131 = .ok (.istore 6, 2) := by decide +kernel
theorem dX5_copy_133 : decode cX5_copy 133 = .ok (.iload 6, 2) := by decide +kernel
theorem dX5_copy_135 : decode cX5_copy 135 = .ok (.iload 5, 2) := by decide +kernel
theorem dX5_copy_137 : decode cX5_copy 137 = .ok (.if_icmp .ge 31, 3) := by decide +kernel
theorem dX5_copy_140 : decode cX5_copy 140 = .ok (.aload_n 0, 1) := by decide +kernel
theorem dX5_copy_141 : decode cX5_copy 141 = .ok (.getfield 20, 3) := by decide +kernel
theorem dX5_copy_144 : decode cX5_copy 144 = .ok (.bipush 40, 2) := by decide +kernel
theorem dX5_copy_146 : decode cX5_copy 146 = .ok (.iload_n 3, 1) := by decide +kernel
theorem dX5_copy_147 : decode cX5_copy 147 = .ok (.imul, 1) := by decide +kernel
theorem dX5_copy_148 : decode cX5_copy 148 = .ok (.iload 4, 2) := by decide +kernel
theorem dX5_copy_150 : decode cX5_copy 150 = .ok (.iadd, 1) := by decide +kernel
theorem dX5_copy_151 : decode cX5_copy 151 = .ok (.iload 6, 2) := by decide +kernel
theorem dX5_copy_153 : decode cX5_copy 153 = .ok (.iadd, 1) := by decide +kernel
theorem dX5_copy_154 : decode cX5_copy 154 = .ok (.aload_n 0, 1) := by decide +kernel
theorem dX5_copy_155 : decode cX5_copy 155 = .ok (.getfield 30, 3) := by decide +kernel
theorem dX5_copy_158 : decode cX5_copy 158 = .ok (.iload 6, 2) := by decide +kernel
theorem dX5_copy_160 : decode cX5_copy 160 = .ok (.iaload, 1) := by decide +kernel
theorem dX5_copy_161 : decode cX5_copy 161 = .ok (.iastore, 1) := by decide +kernel
theorem dX5_copy_162 : decode cX5_copy 162 = .ok (.iinc 6 1, 3) := by decide +kernel
theorem dX5_copy_165 : decode cX5_copy 165 = .ok (.goto (-32), 3) := by decide +kernel
theorem dX5_copy_168 : decode cX5_copy 168 = .ok (.iconst 1, 1) := by decide +kernel
theorem dX5_copy_169 : decode cX5_copy 169 = .ok (.ireturn, 1) := by decide +kernel
theorem dX5_mean_0 : decode cX5_mean 0 = .ok (.iload_n 1, 1) := by decide +kernel
theorem dX5_mean_1 : decode cX5_mean 1 = .ok (.invokestatic 92, 3) := by decide +kernel
theorem dX5_mean_4 : decode cX5_mean 4 = .ok (.ifCond .ne 5, 3) := by decide +kernel
theorem dX5_mean_7 : decode cX5_mean 7 = .ok (.iconst (-1), 1) := by decide +kernel
theorem dX5_mean_8 : decode cX5_mean 8 = .ok (.ireturn, 1) := by decide +kernel
theorem dX5_mean_9 : decode cX5_mean 9 = .ok (.aload_n 0, 1) := by decide +kernel
theorem dX5_mean_10 : decode cX5_mean 10 = .ok (.getfield 17, 3) := by decide +kernel
theorem dX5_mean_13 : decode cX5_mean 13 = .ok (.iload_n 1, 1) := by decide +kernel
theorem dX5_mean_14 : decode cX5_mean 14 = .ok (.iaload, 1) := by decide +kernel
theorem dX5_mean_15 : decode cX5_mean 15 = .ok (.ifCond .ge 9, 3) := by decide +kernel
theorem dX5_mean_18 : decode cX5_mean 18 = .ok (.aload_n 0, 1) := by decide +kernel
theorem dX5_mean_19 : decode cX5_mean 19 = .ok (.iconst 1, 1) := by decide +kernel
theorem dX5_mean_20 : decode cX5_mean 20 = .ok (.invokevirtual 96, 3) := by decide +kernel
theorem dX5_mean_23 : decode cX5_mean 23 = .ok (.ireturn, 1) := by decide +kernel
theorem dX5_mean_24 : decode cX5_mean 24 = .ok (.aload_n 0, 1) := by decide +kernel
theorem dX5_mean_25 : decode cX5_mean 25 = .ok (.getfield 17, 3) := by decide +kernel
theorem dX5_mean_28 : decode cX5_mean 28 = .ok (.iload_n 1, 1) := by decide +kernel
theorem dX5_mean_29 : decode cX5_mean 29 = .ok (.iaload, 1) := by decide +kernel
theorem dX5_mean_30 : decode cX5_mean 30 = .ok (.ifCond .ne 9, 3) := by decide +kernel
theorem dX5_mean_33 : decode cX5_mean 33 = .ok (.aload_n 0, 1) := by decide +kernel
theorem dX5_mean_34 : decode cX5_mean 34 = .ok (.iconst 4, 1) := by decide +kernel
theorem dX5_mean_35 : decode cX5_mean 35 = .ok (.invokevirtual 96, 3) := by decide +kernel
theorem dX5_mean_38 : decode cX5_mean 38 = .ok (.ireturn, 1) := by decide +kernel
theorem dX5_mean_39 : decode cX5_mean 39 = .ok (.lconst 0, 1) := by decide +kernel
theorem dX5_mean_40 : decode cX5_mean 40 = .ok (.lstore_n 2, 1) := by decide +kernel
theorem dX5_mean_41 : decode cX5_mean 41 = .ok (.iconst 0, 1) := by decide +kernel
theorem dX5_mean_42 : decode cX5_mean 42 = .ok (.istore 4, 2) := by decide +kernel
theorem dX5_mean_44 : decode cX5_mean 44 = .ok (.iload 4, 2) := by decide +kernel
theorem dX5_mean_46 : decode cX5_mean 46 = .ok (.aload_n 0, 1) := by decide +kernel
theorem dX5_mean_47 : decode cX5_mean 47 = .ok (.getfield 17, 3) := by decide +kernel
theorem dX5_mean_50 : decode cX5_mean 50 = .ok (.iload_n 1, 1) := by decide +kernel
theorem dX5_mean_51 : decode cX5_mean 51 = .ok (.iaload, 1) := by decide +kernel
theorem dX5_mean_52 : decode cX5_mean 52 = .ok (.if_icmp .ge 25, 3) := by decide +kernel
theorem dX5_mean_55 : decode cX5_mean 55 = .ok (.lload_n 2, 1) := by decide +kernel
theorem dX5_mean_56 : decode cX5_mean 56 = .ok (.aload_n 0, 1) := by decide +kernel
theorem dX5_mean_57 : decode cX5_mean 57 = .ok (.getfield 20, 3) := by decide +kernel
theorem dX5_mean_60 : decode cX5_mean 60 = .ok (.bipush 40, 2) := by decide +kernel
theorem dX5_mean_62 : decode cX5_mean 62 = .ok (.iload_n 1, 1) := by decide +kernel
theorem dX5_mean_63 : decode cX5_mean 63 = .ok (.imul, 1) := by decide +kernel
theorem dX5_mean_64 : decode cX5_mean 64 = .ok (.iload 4, 2) := by decide +kernel
theorem dX5_mean_66 : decode cX5_mean 66 = .ok (.iadd, 1) := by decide +kernel
theorem dX5_mean_67 : decode cX5_mean 67 = .ok (.iaload, 1) := by decide +kernel
theorem dX5_mean_68 : decode cX5_mean 68 = .ok (.i2l, 1) := by decide +kernel
theorem dX5_mean_69 : decode cX5_mean 69 = .ok (.ladd, 1) := by decide +kernel
theorem dX5_mean_70 : decode cX5_mean 70 = .ok (.lstore_n 2, 1) := by decide +kernel
theorem dX5_mean_71 : decode cX5_mean 71 = .ok (.iinc 4 1, 3) := by decide +kernel
theorem dX5_mean_74 : decode cX5_mean 74 = .ok (.goto (-30), 3) := by decide +kernel
theorem dX5_mean_77 : decode cX5_mean 77 = .ok (.aload_n 0, 1) := by decide +kernel
theorem dX5_mean_78 : decode cX5_mean 78 = .ok (.lload_n 2, 1) := by decide +kernel
theorem dX5_mean_79 : decode cX5_mean 79 = .ok (.aload_n 0, 1) := by decide +kernel
theorem dX5_mean_80 : decode cX5_mean 80 = .ok (.getfield 17, 3) := by decide +kernel
theorem dX5_mean_83 : decode cX5_mean 83 = .ok (.iload_n 1, 1) := by decide +kernel
theorem dX5_mean_84 : decode cX5_mean 84 = .ok (.iaload, 1) := by decide +kernel
theorem dX5_mean_85 : decode cX5_mean 85 = .ok (.i2l, 1) := by decide +kernel
theorem dX5_mean_86 : decode cX5_mean 86 = .ok (.ldiv, 1) := by decide +kernel
theorem dX5_mean_87 : decode cX5_mean 87 = .ok (.l2i, 1) := by decide +kernel
theorem dX5_mean_88 : decode cX5_mean 88 = .ok (.invokevirtual 100, 3) := by decide +kernel
theorem dX5_mean_91 : decode cX5_mean 91 = .ok (.ireturn, 1) := by decide +kernel
theorem dX5_text_0 : decode cX5_text 0 = .ok (.iload_n 1, 1) := by decide +kernel
theorem dX5_text_1 : decode cX5_text 1 = .ok (.invokestatic 103, 3) := by decide +kernel
theorem dX5_text_4 : decode cX5_text 4 = .ok (.ifCond .eq 9, 3) := by decide +kernel
theorem dX5_text_7 : decode cX5_text 7 = .ok (.iload_n 2, 1) := by decide +kernel
theorem dX5_text_8 : decode cX5_text 8 = .ok (.bipush 60, 2) := by decide +kernel
theorem dX5_text_10 : decode cX5_text 10 = .ok (.if_icmp .le 5, 3) := by decide +kernel
theorem dX5_text_13 : decode cX5_text 13 = .ok (.iconst (-1), 1) := by decide +kernel
theorem dX5_text_14 : decode cX5_text 14 = .ok (.ireturn, 1) := by decide +kernel
theorem dX5_text_15 : decode cX5_text 15 = .ok (.iload_n 2, 1) := by decide +kernel
theorem dX5_text_16 : decode cX5_text 16 = .ok (.ifCond .ge 9, 3) := by decide +kernel
theorem dX5_text_19 : decode cX5_text 19 = .ok (.aload_n 0, 1) := by decide +kernel
theorem dX5_text_20 : decode cX5_text 20 = .ok (.iconst 5, 1) := by decide +kernel
theorem dX5_text_21 : decode cX5_text 21 = .ok (.invokevirtual 96, 3) := by decide +kernel
theorem dX5_text_24 : decode cX5_text 24 = .ok (.ireturn, 1) := by decide +kernel
theorem dX5_text_25 : decode cX5_text 25 = .ok (.aload_n 0, 1) := by decide +kernel
theorem dX5_text_26 : decode cX5_text 26 = .ok (.getfield 23, 3) := by decide +kernel
theorem dX5_text_29 : decode cX5_text 29 = .ok (.iload_n 1, 1) := by decide +kernel
theorem dX5_text_30 : decode cX5_text 30 = .ok (.iload_n 2, 1) := by decide +kernel
theorem dX5_text_31 : decode cX5_text 31 = .ok (.iastore, 1) := by decide +kernel
theorem dX5_text_32 : decode cX5_text 32 = .ok (.iconst 0, 1) := by decide +kernel
theorem dX5_text_33 : decode cX5_text 33 = .ok (.istore_n 3, 1) := by decide +kernel
theorem dX5_text_34 : decode cX5_text 34 = .ok (.iload_n 3, 1) := by decide +kernel
theorem dX5_text_35 : decode cX5_text 35 = .ok (.bipush 60, 2) := by decide +kernel
theorem dX5_text_37 : decode cX5_text 37 = .ok (.if_icmp .ge 22, 3) := by decide +kernel
theorem dX5_text_40 : decode cX5_text 40 = .ok (.aload_n 0, 1) := by decide +kernel
theorem dX5_text_41 : decode cX5_text 41 = .ok (.getfield 26, 3) := by decide +kernel
theorem dX5_text_44 : decode cX5_text 44 = .ok (.bipush 60, 2) := by decide +kernel
theorem dX5_text_46 : decode cX5_text 46 = .ok (.iload_n 1, 1) := by decide +kernel
theorem dX5_text_47 : decode cX5_text 47 = .ok (.imul, 1) := by decide +kernel
theorem dX5_text_48 : decode cX5_text 48 = .ok (.iload_n 3, 1) := by decide +kernel
theorem dX5_text_49 : decode cX5_text 49 = .ok (.iadd, 1) := by decide +kernel
theorem dX5_text_50 : decode cX5_text 50 = .ok (.bipush 32, 2) := by decide +kernel
theorem dX5_text_52 : decode cX5_text 52 = .ok (.bastore, 1) := by decide +kernel
theorem dX5_text_53 : decode cX5_text 53 = .ok (.iinc 3 1, 3) := by decide +kernel
theorem dX5_text_56 : decode cX5_text 56 = .ok (.goto (-22), 3) := by decide +kernel
theorem dX5_text_59 : decode cX5_text 59 = .ok (.iload_n 2, 1) := by decide +kernel
theorem dX5_text_60 : decode cX5_text 60 = .ok (.ireturn, 1) := by decide +kernel
theorem dX5_put_0 : decode cX5_put 0 = .ok (.iload_n 1, 1) := by decide +kernel
theorem dX5_put_1 : decode cX5_put 1 = .ok (.invokestatic 103, 3) := by decide +kernel
theorem dX5_put_4 : decode cX5_put 4 = .ok (.ifCond .ne 5, 3) := by decide +kernel
theorem dX5_put_7 : decode cX5_put 7 = .ok (.iconst (-1), 1) := by decide +kernel
theorem dX5_put_8 : decode cX5_put 8 = .ok (.ireturn, 1) := by decide +kernel
theorem dX5_put_9 : decode cX5_put 9 = .ok (.aload_n 0, 1) := by decide +kernel
theorem dX5_put_10 : decode cX5_put 10 = .ok (.getfield 23, 3) := by decide +kernel
theorem dX5_put_13 : decode cX5_put 13 = .ok (.iload_n 1, 1) := by decide +kernel
theorem dX5_put_14 : decode cX5_put 14 = .ok (.iaload, 1) := by decide +kernel
theorem dX5_put_15 : decode cX5_put 15 = .ok (.ifCond .ge 9, 3) := by decide +kernel
theorem dX5_put_18 : decode cX5_put 18 = .ok (.aload_n 0, 1) := by decide +kernel
theorem dX5_put_19 : decode cX5_put 19 = .ok (.iconst 1, 1) := by decide +kernel
theorem dX5_put_20 : decode cX5_put 20 = .ok (.invokevirtual 96, 3) := by decide +kernel
theorem dX5_put_23 : decode cX5_put 23 = .ok (.ireturn, 1) := by decide +kernel
theorem dX5_put_24 : decode cX5_put 24 = .ok (.iload_n 2, 1) := by decide +kernel
theorem dX5_put_25 : decode cX5_put 25 = .ok (.iconst 0, 1) := by decide +kernel
theorem dX5_put_26 : decode cX5_put 26 = .ok (.aload_n 0, 1) := by decide +kernel
theorem dX5_put_27 : decode cX5_put 27 = .ok (.getfield 23, 3) := by decide +kernel
theorem dX5_put_30 : decode cX5_put 30 = .ok (.iload_n 1, 1) := by decide +kernel
theorem dX5_put_31 : decode cX5_put 31 = .ok (.iaload, 1) := by decide +kernel
theorem dX5_put_32 : decode cX5_put 32 = .ok (.iconst 1, 1) := by decide +kernel
theorem dX5_put_33 : decode cX5_put 33 = .ok (.isub, 1) := by decide +kernel
theorem dX5_put_34 : decode cX5_put 34 = .ok (.invokestatic 88, 3) := by decide +kernel
theorem dX5_put_37 : decode cX5_put 37 = .ok (.ifCond .ne 9, 3) := by decide +kernel
theorem dX5_put_40 : decode cX5_put 40 = .ok (.aload_n 0, 1) := by decide +kernel
theorem dX5_put_41 : decode cX5_put 41 = .ok (.iconst 2, 1) := by decide +kernel
theorem dX5_put_42 : decode cX5_put 42 = .ok (.invokevirtual 96, 3) := by decide +kernel
theorem dX5_put_45 : decode cX5_put 45 = .ok (.ireturn, 1) := by decide +kernel
theorem dX5_put_46 : decode cX5_put 46 = .ok (.aload_n 0, 1) := by decide +kernel
theorem dX5_put_47 : decode cX5_put 47 = .ok (.getfield 26, 3) := by decide +kernel
theorem dX5_put_50 : decode cX5_put 50 = .ok (.bipush 60, 2) := by decide +kernel
theorem dX5_put_52 : decode cX5_put 52 = .ok (.iload_n 1, 1) := by decide +kernel
theorem dX5_put_53 : decode cX5_put 53 = .ok (.imul, 1) := by decide +kernel
theorem dX5_put_54 : decode cX5_put 54 = .ok (.iload_n 2, 1) := by decide +kernel
theorem dX5_put_55 : decode cX5_put 55 = .ok (.iadd, 1) := by decide +kernel
theorem dX5_put_56 : decode cX5_put 56 = .ok (.baload, 1) := by decide +kernel
theorem dX5_put_57 : decode cX5_put 57 = .ok (.istore 4, 2) := by decide +kernel
theorem dX5_put_59 : decode cX5_put 59 = .ok (.aload_n 0, 1) := by decide +kernel
theorem dX5_put_60 : decode cX5_put 60 = .ok (.getfield 26, 3) := by decide +kernel
theorem dX5_put_63 : decode cX5_put 63 = .ok (.bipush 60, 2) := by decide +kernel
theorem dX5_put_65 : decode cX5_put 65 = .ok (.iload_n 1, 1) := by decide +kernel
theorem dX5_put_66 : decode cX5_put 66 = .ok (.imul, 1) := by decide +kernel
theorem dX5_put_67 : decode cX5_put 67 = .ok (.iload_n 2, 1) := by decide +kernel
theorem dX5_put_68 : decode cX5_put 68 = .ok (.iadd, 1) := by decide +kernel
theorem dX5_put_69 : decode cX5_put 69 = .ok (.iload_n 3, 1) := by decide +kernel
theorem dX5_put_70 : decode cX5_put 70 = .ok (.i2b, 1) := by decide +kernel
theorem dX5_put_71 : decode cX5_put 71 = .ok (.bastore, 1) := by decide +kernel
theorem dX5_put_72 : decode cX5_put 72 = .ok (.iload 4, 2) := by decide +kernel
theorem dX5_put_74 : decode cX5_put 74 = .ok (.sipush 1000, 3) := by decide +kernel
theorem dX5_put_77 : decode cX5_put 77 = .ok (.iadd, 1) := by decide +kernel
theorem dX5_put_78 : decode cX5_put 78 = .ok (.ireturn, 1) := by decide +kernel
theorem dX5_kindOf_0 : decode cX5_kindOf 0 = .ok (.iload_n 0, 1) := by decide +kernel
theorem dX5_kindOf_1 : decode cX5_kindOf 1 = .ok (.bipush 107, 2) := by decide +kernel
theorem dX5_kindOf_3 : decode cX5_kindOf 3 = .ok (.if_icmp .ne 7, 3) := by decide +kernel
theorem dX5_kindOf_6 : decode cX5_kindOf 6 = .ok (.iconst 0, 1) := by decide +kernel
theorem dX5_kindOf_7 : decode cX5_kindOf 7 = .ok (.goto 55, 3) := by decide +kernel
theorem dX5_kindOf_10 : decode cX5_kindOf 10 = .ok (.iload_n 0, 1) := by decide +kernel
theorem dX5_kindOf_11 : decode cX5_kindOf 11 = .ok (.bipush 118, 2) := by decide +kernel
theorem dX5_kindOf_13 : decode cX5_kindOf 13 = .ok (.if_icmp .ne 7, 3) := by decide +kernel
theorem dX5_kindOf_16 : decode cX5_kindOf 16 = .ok (.iconst 1, 1) := by decide +kernel
theorem dX5_kindOf_17 : decode cX5_kindOf 17 = .ok (.goto 45, 3) := by decide +kernel
theorem dX5_kindOf_20 : decode cX5_kindOf 20 = .ok (.iload_n 0, 1) := by decide +kernel
theorem dX5_kindOf_21 : decode cX5_kindOf 21 = .ok (.bipush 115, 2) := by decide +kernel
theorem dX5_kindOf_23 : decode cX5_kindOf 23 = .ok (.if_icmp .ne 7, 3) := by decide +kernel
theorem dX5_kindOf_26 : decode cX5_kindOf 26 = .ok (.iconst 2, 1) := by decide +kernel
theorem dX5_kindOf_27 : decode cX5_kindOf 27 = .ok (.goto 35, 3) := by decide +kernel
theorem dX5_kindOf_30 : decode cX5_kindOf 30 = .ok (.iload_n 0, 1) := by decide +kernel
theorem dX5_kindOf_31 : decode cX5_kindOf 31 = .ok (.bipush 117, 2) := by decide +kernel
theorem dX5_kindOf_33 : decode cX5_kindOf 33 = .ok (.if_icmp .ne 7, 3) := by decide +kernel
theorem dX5_kindOf_36 : decode cX5_kindOf 36 = .ok (.iconst 3, 1) := by decide +kernel
theorem dX5_kindOf_37 : decode cX5_kindOf 37 = .ok (.goto 25, 3) := by decide +kernel
theorem dX5_kindOf_40 : decode cX5_kindOf 40 = .ok (.iload_n 0, 1) := by decide +kernel
theorem dX5_kindOf_41 : decode cX5_kindOf 41 = .ok (.bipush 116, 2) := by decide +kernel
theorem dX5_kindOf_43 : decode cX5_kindOf 43 = .ok (.if_icmp .ne 7, 3) := by decide +kernel
theorem dX5_kindOf_46 : decode cX5_kindOf 46 = .ok (.iconst 4, 1) := by decide +kernel
theorem dX5_kindOf_47 : decode cX5_kindOf 47 = .ok (.goto 15, 3) := by decide +kernel
theorem dX5_kindOf_50 : decode cX5_kindOf 50 = .ok (.iload_n 0, 1) := by decide +kernel
theorem dX5_kindOf_51 : decode cX5_kindOf 51 = .ok (.bipush 119, 2) := by decide +kernel
theorem dX5_kindOf_53 : decode cX5_kindOf 53 = .ok (.if_icmp .ne 7, 3) := by decide +kernel
theorem dX5_kindOf_56 : decode cX5_kindOf 56 = .ok (.iconst 5, 1) := by decide +kernel
theorem dX5_kindOf_57 : decode cX5_kindOf 57 = .ok (.goto 5, 3) := by decide +kernel
theorem dX5_kindOf_60 : decode cX5_kindOf 60 = .ok (.bipush (-9), 2) := by decide +kernel
theorem dX5_kindOf_62 : decode cX5_kindOf 62 = .ok (.ireturn, 1) := by decide +kernel
theorem dX5_figure_0 : decode cX5_figure 0 = .ok (.iload_n 2, 1) := by decide +kernel
theorem dX5_figure_1 : decode cX5_figure 1 = .ok (.aload_n 0, 1) := by decide +kernel
theorem dX5_figure_2 : decode cX5_figure 2 = .ok (.getfield 23, 3) := by decide +kernel
theorem dX5_figure_5 : decode cX5_figure 5 = .ok (.iload_n 1, 1) := by decide +kernel
theorem dX5_figure_6 : decode cX5_figure 6 = .ok (.iaload, 1) := by decide +kernel
theorem dX5_figure_7 : decode cX5_figure 7 = .ok (.if_icmp .ge 20, 3) := by decide +kernel
theorem dX5_figure_10 : decode cX5_figure 10 = .ok (.aload_n 0, 1) := by decide +kernel
theorem dX5_figure_11 : decode cX5_figure 11 = .ok (.getfield 26, 3) := by decide +kernel
theorem dX5_figure_14 : decode cX5_figure 14 = .ok (.bipush 60, 2) := by decide +kernel
theorem dX5_figure_16 : decode cX5_figure 16 = .ok (.iload_n 1, 1) := by decide +kernel
theorem dX5_figure_17 : decode cX5_figure 17 = .ok (.imul, 1) := by decide +kernel
theorem dX5_figure_18 : decode cX5_figure 18 = .ok (.iload_n 2, 1) := by decide +kernel
theorem dX5_figure_19 : decode cX5_figure 19 = .ok (.iadd, 1) := by decide +kernel
theorem dX5_figure_20 : decode cX5_figure 20 = .ok (.baload, 1) := by decide +kernel
theorem dX5_figure_21 : decode cX5_figure 21 = .ok (.bipush 48, 2) := by decide +kernel
theorem dX5_figure_23 : decode cX5_figure 23 = .ok (.isub, 1) := by decide +kernel
theorem dX5_figure_24 : decode cX5_figure 24 = .ok (.goto 5, 3) := by decide +kernel
theorem dX5_figure_27 : decode cX5_figure 27 = .ok (.bipush (-9), 2) := by decide +kernel
theorem dX5_figure_29 : decode cX5_figure 29 = .ok (.istore 4, 2) := by decide +kernel
theorem dX5_figure_31 : decode cX5_figure 31 = .ok (.iload 4, 2) := by decide +kernel
theorem dX5_figure_33 : decode cX5_figure 33 = .ok (.iconst 0, 1) := by decide +kernel
theorem dX5_figure_34 : decode cX5_figure 34 = .ok (.iload_n 3, 1) := by decide +kernel
theorem dX5_figure_35 : decode cX5_figure 35 = .ok (.invokestatic 88, 3) := by decide +kernel
theorem dX5_figure_38 : decode cX5_figure 38 = .ok (.ifCond .eq 8, 3) := by decide +kernel
theorem dX5_figure_41 : decode cX5_figure 41 = .ok (.iload 4, 2) := by decide +kernel
theorem dX5_figure_43 : decode cX5_figure 43 = .ok (.goto 5, 3) := by decide +kernel
theorem dX5_figure_46 : decode cX5_figure 46 = .ok (.bipush (-9), 2) := by decide +kernel
theorem dX5_figure_48 : decode cX5_figure 48 = .ok (.ireturn, 1) := by decide +kernel
theorem dX5_read_0 : decode cX5_read 0 = .ok (.iconst 0, 1) := by decide +kernel
theorem dX5_read_1 : decode cX5_read 1 = .ok (.istore_n 2, 1) := by decide +kernel
theorem dX5_read_2 : decode cX5_read 2 = .ok (.iconst 0, 1) := by decide +kernel
theorem dX5_read_3 : decode cX5_read 3 = .ok (.istore_n 3, 1) := by decide +kernel
theorem dX5_read_4 : decode cX5_read 4 = .ok (.iload_n 3, 1) := by decide +kernel
theorem dX5_read_5 : decode cX5_read 5 = .ok (.aload_n 0, 1) := by decide +kernel
theorem dX5_read_6 : decode cX5_read 6 = .ok (.getfield 23, 3) := by decide +kernel
theorem dX5_read_9 : decode cX5_read 9 = .ok (.iload_n 1, 1) := by decide +kernel
theorem dX5_read_10 : decode cX5_read 10 = .ok (.iaload, 1) := by decide +kernel
theorem dX5_read_11 : decode cX5_read 11 = .ok (.if_icmp .ge 25, 3) := by decide +kernel
theorem dX5_read_14 : decode cX5_read 14 = .ok (.aload_n 0, 1) := by decide +kernel
theorem dX5_read_15 : decode cX5_read 15 = .ok (.getfield 26, 3) := by decide +kernel
theorem dX5_read_18 : decode cX5_read 18 = .ok (.bipush 60, 2) := by decide +kernel
theorem dX5_read_20 : decode cX5_read 20 = .ok (.iload_n 1, 1) := by decide +kernel
theorem dX5_read_21 : decode cX5_read 21 = .ok (.imul, 1) := by decide +kernel
theorem dX5_read_22 : decode cX5_read 22 = .ok (.iload_n 3, 1) := by decide +kernel
theorem dX5_read_23 : decode cX5_read 23 = .ok (.iadd, 1) := by decide +kernel
theorem dX5_read_24 : decode cX5_read 24 = .ok (.baload, 1) := by decide +kernel
theorem dX5_read_25 : decode cX5_read 25 = .ok (.bipush 32, 2) := by decide +kernel
theorem dX5_read_27 : decode cX5_read 27 = .ok (.if_icmp .ne 9, 3) := by decide +kernel
theorem dX5_read_30 : decode cX5_read 30 = .ok (.iinc 3 1, 3) := by decide +kernel
theorem dX5_read_33 : decode cX5_read 33 = .ok (.goto (-29), 3) := by decide +kernel
theorem dX5_read_36 : decode cX5_read 36 = .ok (.iload_n 3, 1) := by decide +kernel
theorem dX5_read_37 : decode cX5_read 37 = .ok (.aload_n 0, 1) := by decide +kernel
theorem dX5_read_38 : decode cX5_read 38 = .ok (.getfield 23, 3) := by decide +kernel
theorem dX5_read_41 : decode cX5_read 41 = .ok (.iload_n 1, 1) := by decide +kernel
theorem dX5_read_42 : decode cX5_read 42 = .ok (.iaload, 1) := by decide +kernel
theorem dX5_read_43 : decode cX5_read 43 = .ok (.if_icmp .ne 17, 3) := by decide +kernel
theorem dX5_read_46 : decode cX5_read 46 = .ok (.iload_n 2, 1) := by decide +kernel
theorem dX5_read_47 : decode cX5_read 47 = .ok (.iconst 2, 1) := by decide +kernel
theorem dX5_read_48 : decode cX5_read 48 = .ok (.if_icmp .ge 10, 3) := by decide +kernel
theorem dX5_read_51 : decode cX5_read 51 = .ok (.bipush 100, 2) := by decide +kernel
theorem dX5_read_53 : decode cX5_read 53 = .ok (.iload_n 3, 1) := by decide +kernel
theorem dX5_read_54 : decode cX5_read 54 = .ok (.iadd, 1) := by decide +kernel
theorem dX5_read_55 : decode cX5_read 55 = .ok (.goto 4, 3) := by decide +kernel
theorem dX5_read_58 : decode cX5_read 58 = .ok (.iload_n 2, 1) := by decide +kernel
theorem dX5_read_59 : decode cX5_read 59 = .ok (.ireturn, 1) := by decide +kernel
theorem dX5_read_60 : decode cX5_read 60 = .ok (.aload_n 0, 1) := by decide +kernel
theorem dX5_read_61 : decode cX5_read 61 = .ok (.getfield 26, 3) := by decide +kernel
theorem dX5_read_64 : decode cX5_read 64 = .ok (.bipush 60, 2) := by decide +kernel
theorem dX5_read_66 : decode cX5_read 66 = .ok (.iload_n 1, 1) := by decide +kernel
theorem dX5_read_67 : decode cX5_read 67 = .ok (.imul, 1) := by decide +kernel
theorem dX5_read_68 : decode cX5_read 68 = .ok (.iload_n 3, 1) := by decide +kernel
theorem dX5_read_69 : decode cX5_read 69 = .ok (.iadd, 1) := by decide +kernel
theorem dX5_read_70 : decode cX5_read 70 = .ok (.baload, 1) := by decide +kernel
theorem dX5_read_71 : decode cX5_read 71 = .ok (.invokestatic 106, 3) := by decide +kernel
theorem dX5_read_74 : decode cX5_read 74 = .ok (.istore 4, 2) := by decide +kernel
theorem dX5_read_76 : decode cX5_read 76 = .ok (.iload 4, 2) := by decide +kernel
theorem dX5_read_78 : decode cX5_read 78 = .ok (.bipush (-9), 2) := by decide +kernel
theorem dX5_read_80 : decode cX5_read 80 = .ok (.if_icmp .eq 9, 3) := by decide +kernel
theorem dX5_read_83 : decode cX5_read 83 = .ok (.iload_n 2, 1) := by decide +kernel
theorem dX5_read_84 : decode cX5_read 84 = .ok (.bipush 7, 2) := by decide +kernel
theorem dX5_read_86 : decode cX5_read 86 = .ok (.if_icmp .ne 8, 3) := by decide +kernel
theorem dX5_read_89 : decode cX5_read 89 = .ok (.bipush 100, 2) := by decide +kernel
theorem dX5_read_91 : decode cX5_read 91 = .ok (.iload_n 3, 1) := by decide +kernel
theorem dX5_read_92 : decode cX5_read 92 = .ok (.iadd, 1) := by decide +kernel
theorem dX5_read_93 : decode cX5_read 93 = .ok (.ireturn, 1) := by decide +kernel
theorem dX5_read_94 : decode cX5_read 94 = .ok (.aload_n 0, 1) := by decide +kernel
theorem dX5_read_95 : decode cX5_read 95 = .ok (.iload_n 1, 1) := by decide +kernel
theorem dX5_read_96 : decode cX5_read 96 = .ok (.iload_n 3, 1) := by decide +kernel
theorem dX5_read_97 : decode cX5_read 97 = .ok (.iconst 1, 1) := by decide +kernel
theorem dX5_read_98 : decode cX5_read 98 = .ok (.iadd, 1) := by decide +kernel
theorem dX5_read_99 : decode cX5_read 99 = .ok (.iconst 3, 1) := by decide +kernel
theorem dX5_read_100 : decode cX5_read 100 = .ok (.invokevirtual 109, 3) := by decide +kernel
theorem dX5_read_103 : decode cX5_read 103 = .ok (.istore 5, 2) := by decide +kernel
theorem dX5_read_105 : decode cX5_read 105 = .ok (.iload 5, 2) := by decide +kernel
theorem dX5_read_107 : decode cX5_read 107 = .ok (.bipush (-9), 2) := by decide +kernel
theorem dX5_read_109 : decode cX5_read 109 = .ok (.if_icmp .ne 10, 3) := by decide +kernel
theorem dX5_read_112 : decode cX5_read 112 = .ok (.bipush 100, 2) := by decide +kernel
theorem dX5_read_114 : decode cX5_read 114 = .ok (.iload_n 3, 1) := by decide +kernel
theorem dX5_read_115 : decode cX5_read 115 = .ok (.iadd, 1) := by decide +kernel
theorem dX5_read_116 : decode cX5_read 116 = .ok (.iconst 1, 1) := by decide +kernel
theorem dX5_read_117 : decode cX5_read 117 = .ok (.iadd, 1) := by decide +kernel
theorem dX5_read_118 : decode cX5_read 118 = .ok (.ireturn, 1) := by decide +kernel
theorem dX5_read_119 : decode cX5_read 119 = .ok (.aload_n 0, 1) := by decide +kernel
theorem dX5_read_120 : decode cX5_read 120 = .ok (.iload_n 1, 1) := by decide +kernel
theorem dX5_read_121 : decode cX5_read 121 = .ok (.iload_n 3, 1) := by decide +kernel
theorem dX5_read_122 : decode cX5_read 122 = .ok (.iconst 2, 1) := by decide +kernel
theorem dX5_read_123 : decode cX5_read 123 = .ok (.iadd, 1) := by decide +kernel
theorem dX5_read_124 : decode cX5_read 124 = .ok (.iconst 5, 1) := by decide +kernel
theorem dX5_read_125 : decode cX5_read 125 = .ok (.invokevirtual 109, 3) := by decide +kernel
theorem dX5_read_128 : decode cX5_read 128 = .ok (.istore 6, 2) := by decide +kernel
theorem dX5_read_130 : decode cX5_read 130 = .ok (.iload 6, 2) := by decide +kernel
theorem dX5_read_132 : decode cX5_read 132 = .ok (.bipush (-9), 2) := by decide +kernel
theorem dX5_read_134 : decode cX5_read 134 = .ok (.if_icmp .eq 7, 3) := by decide +kernel
theorem dX5_read_137 : decode cX5_read 137 = .ok (.iconst 1, 1) := by decide +kernel
theorem dX5_read_138 : decode cX5_read 138 = .ok (.goto 4, 3) := by decide +kernel
theorem dX5_read_141 : decode cX5_read 141 = .ok (.iconst 0, 1) := by decide +kernel
theorem dX5_read_142 : decode cX5_read 142 = .ok (.istore 7, 2) := by decide +kernel
theorem dX5_read_144 : decode cX5_read 144 = .ok (.iconst 0, 1) := by decide +kernel
theorem dX5_read_145 : decode cX5_read 145 = .ok (.istore 8, 2) := by decide +kernel
theorem dX5_read_147 : decode cX5_read 147 = .ok (.iload 8, 2) := by decide +kernel
theorem dX5_read_149 : decode cX5_read 149 = .ok (.iload_n 2, 1) := by decide +kernel
theorem dX5_read_150 : decode cX5_read 150 = .ok (.if_icmp .ge 51, 3) := by decide +kernel
theorem dX5_read_153 : decode cX5_read 153 = .ok (.iload 7, 2) := by decide +kernel
theorem dX5_read_155 : decode cX5_read 155 = .ok (.ifCond .eq 37, 3) := by decide +kernel
theorem dX5_read_158 : decode cX5_read 158 = .ok (.aload_n 0, 1) := by decide +kernel
theorem dX5_read_159 : decode cX5_read 159 = .ok (.getfield 36, 3) := by decide +kernel
theorem dX5_read_162 : decode cX5_read 162 = .ok (.bipush 7, 2) := by decide +kernel
theorem dX5_read_164 : decode cX5_read 164 = .ok (.iload 8, 2) := by decide +kernel
theorem dX5_read_166 : decode cX5_read 166 = .ok (.iadd, 1) := by decide +kernel
theorem dX5_read_167 : decode cX5_read 167 = .ok (.iaload, 1) := by decide +kernel
theorem dX5_read_168 : decode cX5_read 168 = .ok (.iload 5, 2) := by decide +kernel
theorem dX5_read_170 : decode cX5_read 170 = .ok (.if_icmp .ne 18, 3) := by decide +kernel
theorem dX5_read_173 : decode cX5_read 173 = .ok (.aload_n 0, 1) := by decide +kernel
theorem dX5_read_174 : decode cX5_read 174 = .ok (.getfield 39, 3) := by decide +kernel
theorem dX5_read_177 : decode cX5_read 177 = .ok (.bipush 7, 2) := by decide +kernel
theorem dX5_read_179 : decode cX5_read 179 = .ok (.iload 8, 2) := by decide +kernel
theorem dX5_read_181 : decode cX5_read 181 = .ok (.iadd, 1) := by decide +kernel
theorem dX5_read_182 : decode cX5_read 182 = .ok (.iaload, 1) := by decide +kernel
theorem dX5_read_183 : decode cX5_read 183 = .ok (.iload 6, 2) := by decide +kernel
theorem dX5_read_185 : decode cX5_read 185 = .ok (.if_icmp .eq 7, 3) := by decide +kernel
theorem dX5_read_188 : decode cX5_read 188 = .ok (.iconst 1, 1) := by decide +kernel
theorem dX5_read_189 : decode cX5_read 189 = .ok (.goto 4, 3) := by decide +kernel
theorem dX5_read_192 : decode cX5_read 192 = .ok (.iconst 0, 1) := by decide +kernel
theorem dX5_read_193 : decode cX5_read 193 = .ok (.istore 7, 2) := by decide +kernel
theorem dX5_read_195 : decode cX5_read 195 = .ok (.iinc 8 1, 3) := by decide +kernel
theorem dX5_read_198 : decode cX5_read 198 = .ok (.goto (-51), 3) := by decide +kernel
theorem dX5_read_201 : decode cX5_read 201 = .ok (.iload 7, 2) := by decide +kernel
theorem dX5_read_203 : decode cX5_read 203 = .ok (.ifCond .ne 10, 3) := by decide +kernel
theorem dX5_read_206 : decode cX5_read 206 = .ok (.bipush 100, 2) := by decide +kernel
theorem dX5_read_208 : decode cX5_read 208 = .ok (.iload_n 3, 1) := by decide +kernel
theorem dX5_read_209 : decode cX5_read 209 = .ok (.iadd, 1) := by decide +kernel
theorem dX5_read_210 : decode cX5_read 210 = .ok (.iconst 2, 1) := by decide +kernel
theorem dX5_read_211 : decode cX5_read 211 = .ok (.iadd, 1) := by decide +kernel
theorem dX5_read_212 : decode cX5_read 212 = .ok (.ireturn, 1) := by decide +kernel
theorem dX5_read_213 : decode cX5_read 213 = .ok (.aload_n 0, 1) := by decide +kernel
theorem dX5_read_214 : decode cX5_read 214 = .ok (.iload_n 1, 1) := by decide +kernel
theorem dX5_read_215 : decode cX5_read 215 = .ok (.iload_n 3, 1) := by decide +kernel
theorem dX5_read_216 : decode cX5_read 216 = .ok (.iconst 3, 1) := by decide +kernel
theorem dX5_read_217 : decode cX5_read 217 = .ok (.iadd, 1) := by decide +kernel
theorem dX5_read_218 : decode cX5_read 218 = .ok (.bipush 9, 2) := by decide +kernel
theorem dX5_read_220 : decode cX5_read 220 = .ok (.invokevirtual 109, 3) := by decide +kernel
theorem dX5_read_223 : decode cX5_read 223 = .ok (.istore 8, 2) := by decide +kernel
theorem dX5_read_225 : decode cX5_read 225 = .ok (.iload 8, 2) := by decide +kernel
theorem dX5_read_227 : decode cX5_read 227 = .ok (.bipush (-9), 2) := by decide +kernel
theorem dX5_read_229 : decode cX5_read 229 = .ok (.if_icmp .ne 10, 3) := by decide +kernel
theorem dX5_read_232 : decode cX5_read 232 = .ok (.bipush 100, 2) := by decide +kernel
theorem dX5_read_234 : decode cX5_read 234 = .ok (.iload_n 3, 1) := by decide +kernel
theorem dX5_read_235 : decode cX5_read 235 = .ok (.iadd, 1) := by decide +kernel
theorem dX5_read_236 : decode cX5_read 236 = .ok (.iconst 3, 1) := by decide +kernel
theorem dX5_read_237 : decode cX5_read 237 = .ok (.iadd, 1) := by decide +kernel
theorem dX5_read_238 : decode cX5_read 238 = .ok (.ireturn, 1) := by decide +kernel
theorem dX5_read_239 : decode cX5_read 239 = .ok (.aload_n 0, 1) := by decide +kernel
theorem dX5_read_240 : decode cX5_read 240 = .ok (.getfield 33, 3) := by decide +kernel
theorem dX5_read_243 : decode cX5_read 243 = .ok (.bipush 7, 2) := by decide +kernel
theorem dX5_read_245 : decode cX5_read 245 = .ok (.iload_n 2, 1) := by decide +kernel
theorem dX5_read_246 : decode cX5_read 246 = .ok (.iadd, 1) := by decide +kernel
theorem dX5_read_247 : decode cX5_read 247 = .ok (.iload 4, 2) := by decide +kernel
theorem dX5_read_249 : decode cX5_read 249 = .ok (.iastore, 1) := by decide +kernel
theorem dX5_read_250 : decode cX5_read 250 = .ok (.aload_n 0, 1) := by decide +kernel
theorem dX5_read_251 : decode cX5_read 251 = .ok (.getfield 36, 3) := by decide +kernel
theorem dX5_read_254 : decode cX5_read 254 = .ok (.bipush 7, 2) := by decide +kernel
theorem dX5_read_256 : decode cX5_read 256 = .ok (.iload_n 2, 1) := by decide +kernel
theorem dX5_read_257 : decode cX5_read 257 = .ok (.iadd, 1) := by decide +kernel
theorem dX5_read_258 : decode cX5_read 258 = .ok (.iload 5, 2) := by decide +kernel
theorem dX5_read_260 : decode cX5_read 260 = .ok (.iastore, 1) := by decide +kernel
theorem dX5_read_261 : decode cX5_read 261 = .ok (.aload_n 0, 1) := by decide +kernel
theorem dX5_read_262 : decode cX5_read 262 = .ok (.getfield 39, 3) := by decide +kernel
theorem dX5_read_265 : decode cX5_read 265 = .ok (.bipush 7, 2) := by decide +kernel
theorem dX5_read_267 : decode cX5_read 267 = .ok (.iload_n 2, 1) := by decide +kernel
theorem dX5_read_268 : decode cX5_read 268 = .ok (.iadd, 1) := by decide +kernel
theorem dX5_read_269 : decode cX5_read 269 = .ok (.iload 6, 2) := by decide +kernel
theorem dX5_read_271 : decode cX5_read 271 = .ok (.iastore, 1) := by decide +kernel
theorem dX5_read_272 : decode cX5_read 272 = .ok (.aload_n 0, 1) := by decide +kernel
theorem dX5_read_273 : decode cX5_read 273 = .ok (.getfield 42, 3) := by decide +kernel
theorem dX5_read_276 : decode cX5_read 276 = .ok (.bipush 7, 2) := by decide +kernel
theorem dX5_read_278 : decode cX5_read 278 = .ok (.iload_n 2, 1) := by decide +kernel
theorem dX5_read_279 : decode cX5_read 279 = .ok (.iadd, 1) := by decide +kernel
theorem dX5_read_280 : decode cX5_read 280 = .ok (.iload 8, 2) := by decide +kernel
theorem dX5_read_282 : decode cX5_read 282 = .ok (.iastore, 1) := by decide +kernel
theorem dX5_read_283 : decode cX5_read 283 = .ok (.iinc 2 1, 3) := by decide +kernel
theorem dX5_read_286 : decode cX5_read 286 = .ok (.iinc 3 4, 3) := by decide +kernel
theorem dX5_read_289 : decode cX5_read 289 = .ok (.goto (-285), 3) := by decide +kernel
theorem dX5_fault_0 : decode cX5_fault 0 = .ok (.iload_n 1, 1) := by decide +kernel
theorem dX5_fault_1 : decode cX5_fault 1 = .ok (.invokestatic 103, 3) := by decide +kernel
theorem dX5_fault_4 : decode cX5_fault 4 = .ok (.ifCond .ne 5, 3) := by decide +kernel
theorem dX5_fault_7 : decode cX5_fault 7 = .ok (.iconst (-1), 1) := by decide +kernel
theorem dX5_fault_8 : decode cX5_fault 8 = .ok (.ireturn, 1) := by decide +kernel
theorem dX5_fault_9 : decode cX5_fault 9 = .ok (.aload_n 0, 1) := by decide +kernel
theorem dX5_fault_10 : decode cX5_fault 10 = .ok (.getfield 23, 3) := by decide +kernel
theorem dX5_fault_13 : decode cX5_fault 13 = .ok (.iload_n 1, 1) := by decide +kernel
theorem dX5_fault_14 : decode cX5_fault 14 = .ok (.iaload, 1) := by decide +kernel
theorem dX5_fault_15 : decode cX5_fault 15 = .ok (.ifCond .ge 9, 3) := by decide +kernel
theorem dX5_fault_18 : decode cX5_fault 18 = .ok (.aload_n 0, 1) := by decide +kernel
theorem dX5_fault_19 : decode cX5_fault 19 = .ok (.iconst 1, 1) := by decide +kernel
theorem dX5_fault_20 : decode cX5_fault 20 = .ok (.invokevirtual 96, 3) := by decide +kernel
theorem dX5_fault_23 : decode cX5_fault 23 = .ok (.ireturn, 1) := by decide +kernel
theorem dX5_fault_24 : decode cX5_fault 24 = .ok (.aload_n 0, 1) := by decide +kernel
theorem dX5_fault_25 : decode cX5_fault 25 = .ok (.iload_n 1, 1) := by decide +kernel
theorem dX5_fault_26 : decode cX5_fault 26 = .ok (.invokevirtual 113, 3) := by decide +kernel
theorem dX5_fault_29 : decode cX5_fault 29 = .ok (.istore_n 2, 1) := by decide +kernel
theorem dX5_fault_30 : decode cX5_fault 30 = .ok (.iload_n 2, 1) := by decide +kernel
theorem dX5_fault_31 : decode cX5_fault 31 = .ok (.bipush 100, 2) := by decide +kernel
theorem dX5_fault_33 : decode cX5_fault 33 = .ok (.if_icmp .ge 8, 3) := by decide +kernel
theorem dX5_fault_36 : decode cX5_fault 36 = .ok (.bipush (-9), 2) := by decide +kernel
theorem dX5_fault_38 : decode cX5_fault 38 = .ok (.goto 7, 3) := by decide +kernel
theorem dX5_fault_41 : decode cX5_fault 41 = .ok (.iload_n 2, 1) := by decide +kernel
theorem dX5_fault_42 : decode cX5_fault 42 = .ok (.bipush 100, 2) := by decide +kernel
theorem dX5_fault_44 : decode cX5_fault 44 = .ok (.isub, 1) := by decide +kernel
theorem dX5_fault_45 : decode cX5_fault 45 = .ok (.ireturn, 1) := by decide +kernel
theorem dX5_board_0 : decode cX5_board 0 = .ok (.iload_n 1, 1) := by decide +kernel
theorem dX5_board_1 : decode cX5_board 1 = .ok (.invokestatic 103, 3) := by decide +kernel
theorem dX5_board_4 : decode cX5_board 4 = .ok (.ifCond .ne 5, 3) := by decide +kernel
theorem dX5_board_7 : decode cX5_board 7 = .ok (.iconst (-1), 1) := by decide +kernel
theorem dX5_board_8 : decode cX5_board 8 = .ok (.ireturn, 1) := by decide +kernel
theorem dX5_board_9 : decode cX5_board 9 = .ok (.aload_n 0, 1) := by decide +kernel
theorem dX5_board_10 : decode cX5_board 10 = .ok (.getfield 23, 3) := by decide +kernel
theorem dX5_board_13 : decode cX5_board 13 = .ok (.iload_n 1, 1) := by decide +kernel
theorem dX5_board_14 : decode cX5_board 14 = .ok (.iaload, 1) := by decide +kernel
theorem dX5_board_15 : decode cX5_board 15 = .ok (.ifCond .ge 9, 3) := by decide +kernel
theorem dX5_board_18 : decode cX5_board 18 = .ok (.aload_n 0, 1) := by decide +kernel
theorem dX5_board_19 : decode cX5_board 19 = .ok (.iconst 1, 1) := by decide +kernel
theorem dX5_board_20 : decode cX5_board 20 = .ok (.invokevirtual 96, 3) := by decide +kernel
theorem dX5_board_23 : decode cX5_board 23 = .ok (.ireturn, 1) := by decide +kernel
theorem dX5_board_24 : decode cX5_board 24 = .ok (.aload_n 0, 1) := by decide +kernel
theorem dX5_board_25 : decode cX5_board 25 = .ok (.iload_n 1, 1) := by decide +kernel
theorem dX5_board_26 : decode cX5_board 26 = .ok (.invokevirtual 113, 3) := by decide +kernel
theorem dX5_board_29 : decode cX5_board 29 = .ok (.istore_n 2, 1) := by decide +kernel
theorem dX5_board_30 : decode cX5_board 30 = .ok (.iload_n 2, 1) := by decide +kernel
theorem dX5_board_31 : decode cX5_board 31 = .ok (.bipush 100, 2) := by decide +kernel
theorem dX5_board_33 : decode cX5_board 33 = .ok (.if_icmp .lt 6, 3) := by decide +kernel
theorem dX5_board_36 : decode cX5_board 36 = .ok (.bipush (-4), 2) := by decide +kernel
theorem dX5_board_38 : decode cX5_board 38 = .ok (.ireturn, 1) := by decide +kernel
theorem dX5_board_39 : decode cX5_board 39 = .ok (.aload_n 0, 1) := by decide +kernel
theorem dX5_board_40 : decode cX5_board 40 = .ok (.iload_n 2, 1) := by decide +kernel
theorem dX5_board_41 : decode cX5_board 41 = .ok (.putfield 116, 3) := by decide +kernel
theorem dX5_board_44 : decode cX5_board 44 = .ok (.iconst 0, 1) := by decide +kernel
theorem dX5_board_45 : decode cX5_board 45 = .ok (.istore_n 3, 1) := by decide +kernel
theorem dX5_board_46 : decode cX5_board 46 = .ok (.iload_n 3, 1) := by decide +kernel
theorem dX5_board_47 : decode cX5_board 47 = .ok (.aload_n 0, 1) := by decide +kernel
theorem dX5_board_48 : decode cX5_board 48 = .ok (.getfield 116, 3) := by decide +kernel
theorem dX5_board_51 : decode cX5_board 51 = .ok (.if_icmp .ge 69, 3) := by decide +kernel
theorem dX5_board_54 : decode cX5_board 54 = .ok (.aload_n 0, 1) := by decide +kernel
theorem dX5_board_55 : decode cX5_board 55 = .ok (.getfield 33, 3) := by decide +kernel
theorem dX5_board_58 : decode cX5_board 58 = .ok (.iload_n 3, 1) := by decide +kernel
theorem dX5_board_59 : decode cX5_board 59 = .ok (.aload_n 0, 1) := by decide +kernel
theorem dX5_board_60 : decode cX5_board 60 = .ok (.getfield 33, 3) := by decide +kernel
theorem dX5_board_63 : decode cX5_board 63 = .ok (.bipush 7, 2) := by decide +kernel
theorem dX5_board_65 : decode cX5_board 65 = .ok (.iload_n 3, 1) := by decide +kernel
theorem dX5_board_66 : decode cX5_board 66 = .ok (.iadd, 1) := by decide +kernel
theorem dX5_board_67 : decode cX5_board 67 = .ok (.iaload, 1) := by decide +kernel
theorem dX5_board_68 : decode cX5_board 68 = .ok (.iastore, 1) := by decide +kernel
theorem dX5_board_69 : decode cX5_board 69 = .ok (.aload_n 0, 1) := by decide +kernel
theorem dX5_board_70 : decode cX5_board 70 = .ok (.getfield 36, 3) := by decide +kernel
theorem dX5_board_73 : decode cX5_board 73 = .ok (.iload_n 3, 1) := by decide +kernel
theorem dX5_board_74 : decode cX5_board 74 = .ok (.aload_n 0, 1) := by decide +kernel
theorem dX5_board_75 : decode cX5_board 75 = .ok (.getfield 36, 3) := by decide +kernel
theorem dX5_board_78 : decode cX5_board 78 = .ok (.bipush 7, 2) := by decide +kernel
theorem dX5_board_80 : decode cX5_board 80 = .ok (.iload_n 3, 1) := by decide +kernel
theorem dX5_board_81 : decode cX5_board 81 = .ok (.iadd, 1) := by decide +kernel
theorem dX5_board_82 : decode cX5_board 82 = .ok (.iaload, 1) := by decide +kernel
theorem dX5_board_83 : decode cX5_board 83 = .ok (.iastore, 1) := by decide +kernel
theorem dX5_board_84 : decode cX5_board 84 = .ok (.aload_n 0, 1) := by decide +kernel
theorem dX5_board_85 : decode cX5_board 85 = .ok (.getfield 39, 3) := by decide +kernel
theorem dX5_board_88 : decode cX5_board 88 = .ok (.iload_n 3, 1) := by decide +kernel
theorem dX5_board_89 : decode cX5_board 89 = .ok (.aload_n 0, 1) := by decide +kernel
theorem dX5_board_90 : decode cX5_board 90 = .ok (.getfield 39, 3) := by decide +kernel
theorem dX5_board_93 : decode cX5_board 93 = .ok (.bipush 7, 2) := by decide +kernel
theorem dX5_board_95 : decode cX5_board 95 = .ok (.iload_n 3, 1) := by decide +kernel
theorem dX5_board_96 : decode cX5_board 96 = .ok (.iadd, 1) := by decide +kernel
theorem dX5_board_97 : decode cX5_board 97 = .ok (.iaload, 1) := by decide +kernel
theorem dX5_board_98 : decode cX5_board 98 = .ok (.iastore, 1) := by decide +kernel
theorem dX5_board_99 : decode cX5_board 99 = .ok (.aload_n 0, 1) := by decide +kernel
theorem dX5_board_100 : decode cX5_board 100 = .ok (.getfield 42, 3) := by decide +kernel
theorem dX5_board_103 : decode cX5_board 103 = .ok (.iload_n 3, 1) := by decide +kernel
theorem dX5_board_104 : decode cX5_board 104 = .ok (.aload_n 0, 1) := by decide +kernel
theorem dX5_board_105 : decode cX5_board 105 = .ok (.getfield 42, 3) := by decide +kernel
theorem dX5_board_108 : decode cX5_board 108 = .ok (.bipush 7, 2) := by decide +kernel
theorem dX5_board_110 : decode cX5_board 110 = .ok (.iload_n 3, 1) := by decide +kernel
theorem dX5_board_111 : decode cX5_board 111 = .ok (.iadd, 1) := by decide +kernel
theorem dX5_board_112 : decode cX5_board 112 = .ok (.iaload, 1) := by decide +kernel
theorem dX5_board_113 : decode cX5_board 113 = .ok (.iastore, 1) := by decide +kernel
theorem dX5_board_114 : decode cX5_board 114 = .ok (.iinc 3 1, 3) := by decide +kernel
theorem dX5_board_117 : decode cX5_board 117 = .ok (.goto (-71), 3) := by decide +kernel
theorem dX5_board_120 : decode cX5_board 120 = .ok (.aload_n 0, 1) := by decide +kernel
theorem dX5_board_121 : decode cX5_board 121 = .ok (.iconst 0, 1) := by decide +kernel
theorem dX5_board_122 : decode cX5_board 122 = .ok (.putfield 119, 3) := by decide +kernel
theorem dX5_board_125 : decode cX5_board 125 = .ok (.iconst 0, 1) := by decide +kernel
theorem dX5_board_126 : decode cX5_board 126 = .ok (.istore_n 3, 1) := by decide +kernel
theorem dX5_board_127 : decode cX5_board 127 = .ok (.iload_n 3, 1) := by decide +kernel
theorem dX5_board_128 : decode cX5_board 128 = .ok (.bipush 10, 2) := by decide +kernel
theorem dX5_board_130 : decode cX5_board 130 = .ok (.if_icmp .ge 16, 3) := by decide +kernel
theorem dX5_board_133 : decode cX5_board 133 = .ok (.aload_n 0, 1) := by decide +kernel
theorem dX5_board_134 : decode cX5_board 134 = .ok (.getfield 45, 3) := by decide +kernel
theorem dX5_board_137 : decode cX5_board 137 = .ok (.iload_n 3, 1) := by decide +kernel
theorem dX5_board_138 : decode cX5_board 138 = .ok (.iconst 0, 1) := by decide +kernel
theorem dX5_board_139 : decode cX5_board 139 = .ok (.iastore, 1) := by decide +kernel
theorem dX5_board_140 : decode cX5_board 140 = .ok (.iinc 3 1, 3) := by decide +kernel
theorem dX5_board_143 : decode cX5_board 143 = .ok (.goto (-16), 3) := by decide +kernel
theorem dX5_board_146 : decode cX5_board 146 = .ok (.iconst 0, 1) := by decide +kernel
theorem dX5_board_147 : decode cX5_board 147 = .ok (.istore_n 3, 1) := by decide +kernel
theorem dX5_board_148 : decode cX5_board 148 = .ok (.iload_n 3, 1) := by decide +kernel
theorem dX5_board_149 : decode cX5_board 149 = .ok (.iconst 3, 1) := by decide +kernel
theorem dX5_board_150 : decode cX5_board 150 = .ok (.if_icmp .ge 16, 3) := by decide +kernel
theorem dX5_board_153 : decode cX5_board 153 = .ok (.aload_n 0, 1) := by decide +kernel
theorem dX5_board_154 : decode cX5_board 154 = .ok (.getfield 51, 3) := by decide +kernel
theorem dX5_board_157 : decode cX5_board 157 = .ok (.iload_n 3, 1) := by decide +kernel
theorem dX5_board_158 : decode cX5_board 158 = .ok (.iconst (-1), 1) := by decide +kernel
theorem dX5_board_159 : decode cX5_board 159 = .ok (.iastore, 1) := by decide +kernel
theorem dX5_board_160 : decode cX5_board 160 = .ok (.iinc 3 1, 3) := by decide +kernel
theorem dX5_board_163 : decode cX5_board 163 = .ok (.goto (-15), 3) := by decide +kernel
theorem dX5_board_166 : decode cX5_board 166 = .ok (.aload_n 0, 1) := by decide +kernel
theorem dX5_board_167 : decode cX5_board 167 = .ok (.getfield 116, 3) := by decide +kernel
theorem dX5_board_170 : decode cX5_board 170 = .ok (.ireturn, 1) := by decide +kernel
theorem dX5_now_0 : decode cX5_now 0 = .ok (.aload_n 0, 1) := by decide +kernel
theorem dX5_now_1 : decode cX5_now 1 = .ok (.getfield 45, 3) := by decide +kernel
theorem dX5_now_4 : decode cX5_now 4 = .ok (.bipush 10, 2) := by decide +kernel
theorem dX5_now_6 : decode cX5_now 6 = .ok (.aload_n 0, 1) := by decide +kernel
theorem dX5_now_7 : decode cX5_now 7 = .ok (.getfield 119, 3) := by decide +kernel
theorem dX5_now_10 : decode cX5_now 10 = .ok (.imul, 1) := by decide +kernel
theorem dX5_now_11 : decode cX5_now 11 = .ok (.iload_n 1, 1) := by decide +kernel
theorem dX5_now_12 : decode cX5_now 12 = .ok (.iadd, 1) := by decide +kernel
theorem dX5_now_13 : decode cX5_now 13 = .ok (.iaload, 1) := by decide +kernel
theorem dX5_now_14 : decode cX5_now 14 = .ok (.ireturn, 1) := by decide +kernel
theorem dX5_take_0 : decode cX5_take 0 = .ok (.iconst 0, 1) := by decide +kernel
theorem dX5_take_1 : decode cX5_take 1 = .ok (.istore_n 1, 1) := by decide +kernel
theorem dX5_take_2 : decode cX5_take 2 = .ok (.iload_n 1, 1) := by decide +kernel
theorem dX5_take_3 : decode cX5_take 3 = .ok (.bipush 10, 2) := by decide +kernel
theorem dX5_take_5 : decode cX5_take 5 = .ok (.if_icmp .ge 20, 3) := by decide +kernel
theorem dX5_take_8 : decode cX5_take 8 = .ok (.aload_n 0, 1) := by decide +kernel
theorem dX5_take_9 : decode cX5_take 9 = .ok (.getfield 54, 3) := by decide +kernel
theorem dX5_take_12 : decode cX5_take 12 = .ok (.iload_n 1, 1) := by decide +kernel
theorem dX5_take_13 : decode cX5_take 13 = .ok (.aload_n 0, 1) := by decide +kernel
theorem dX5_take_14 : decode cX5_take 14 = .ok (.iload_n 1, 1) := by decide +kernel
theorem dX5_take_15 : decode cX5_take 15 = .ok (.invokevirtual 122, 3) := by decide +kernel
theorem dX5_take_18 : decode cX5_take 18 = .ok (.iastore, 1) := by decide +kernel
theorem dX5_take_19 : decode cX5_take 19 = .ok (.iinc 1 1, 3) := by decide +kernel
theorem dX5_take_22 : decode cX5_take 22 = .ok (.goto (-20), 3) := by decide +kernel
theorem dX5_take_25 : decode cX5_take 25 = .ok (.iconst 0, 1) := by decide +kernel
theorem dX5_take_26 : decode cX5_take 26 = .ok (.istore_n 1, 1) := by decide +kernel
theorem dX5_take_27 : decode cX5_take 27 = .ok (.iload_n 1, 1) := by decide +kernel
theorem dX5_take_28 : decode cX5_take 28 = .ok (.aload_n 0, 1) := by decide +kernel
theorem dX5_take_29 : decode cX5_take 29 = .ok (.getfield 116, 3) := by decide +kernel
theorem dX5_take_32 : decode cX5_take 32 = .ok (.if_icmp .ge 45, 3) := by decide +kernel
theorem dX5_take_35 : decode cX5_take 35 = .ok (.aload_n 0, 1) := by decide +kernel
theorem dX5_take_36 : decode cX5_take 36 = .ok (.getfield 57, 3) := by decide +kernel
theorem dX5_take_39 : decode cX5_take 39 = .ok (.iload_n 1, 1) := by decide +kernel
theorem dX5_take_40 : decode cX5_take 40 = .ok (.aload_n 0, 1) := by decide +kernel
theorem dX5_take_41 : decode cX5_take 41 = .ok (.getfield 33, 3) := by decide +kernel
theorem dX5_take_44 : decode cX5_take 44 = .ok (.iload_n 1, 1) := by decide +kernel
theorem dX5_take_45 : decode cX5_take 45 = .ok (.iaload, 1) := by decide +kernel
theorem dX5_take_46 : decode cX5_take 46 = .ok (.iastore, 1) := by decide +kernel
theorem dX5_take_47 : decode cX5_take 47 = .ok (.aload_n 0, 1) := by decide +kernel
theorem dX5_take_48 : decode cX5_take 48 = .ok (.getfield 60, 3) := by decide +kernel
theorem dX5_take_51 : decode cX5_take 51 = .ok (.iload_n 1, 1) := by decide +kernel
theorem dX5_take_52 : decode cX5_take 52 = .ok (.aload_n 0, 1) := by decide +kernel
theorem dX5_take_53 : decode cX5_take 53 = .ok (.getfield 36, 3) := by decide +kernel
theorem dX5_take_56 : decode cX5_take 56 = .ok (.iload_n 1, 1) := by decide +kernel
theorem dX5_take_57 : decode cX5_take 57 = .ok (.iaload, 1) := by decide +kernel
theorem dX5_take_58 : decode cX5_take 58 = .ok (.iastore, 1) := by decide +kernel
theorem dX5_take_59 : decode cX5_take 59 = .ok (.aload_n 0, 1) := by decide +kernel
theorem dX5_take_60 : decode cX5_take 60 = .ok (.getfield 63, 3) := by decide +kernel
theorem dX5_take_63 : decode cX5_take 63 = .ok (.iload_n 1, 1) := by decide +kernel
theorem dX5_take_64 : decode cX5_take 64 = .ok (.aload_n 0, 1) := by decide +kernel
theorem dX5_take_65 : decode cX5_take 65 = .ok (.getfield 39, 3) := by decide +kernel
theorem dX5_take_68 : decode cX5_take 68 = .ok (.iload_n 1, 1) := by decide +kernel
theorem dX5_take_69 : decode cX5_take 69 = .ok (.iaload, 1) := by decide +kernel
theorem dX5_take_70 : decode cX5_take 70 = .ok (.iastore, 1) := by decide +kernel
theorem dX5_take_71 : decode cX5_take 71 = .ok (.iinc 1 1, 3) := by decide +kernel
theorem dX5_take_74 : decode cX5_take 74 = .ok (.goto (-47), 3) := by decide +kernel
theorem dX5_take_77 : decode cX5_take 77 = .ok (.return_, 1) := by decide +kernel
theorem dX5_isKey_0 : decode cX5_isKey 0 = .ok (.iload_n 1, 1) := by decide +kernel
theorem dX5_isKey_1 : decode cX5_isKey 1 = .ok (.iconst 0, 1) := by decide +kernel
theorem dX5_isKey_2 : decode cX5_isKey 2 = .ok (.aload_n 0, 1) := by decide +kernel
theorem dX5_isKey_3 : decode cX5_isKey 3 = .ok (.getfield 116, 3) := by decide +kernel
theorem dX5_isKey_6 : decode cX5_isKey 6 = .ok (.iconst 1, 1) := by decide +kernel
theorem dX5_isKey_7 : decode cX5_isKey 7 = .ok (.isub, 1) := by decide +kernel
theorem dX5_isKey_8 : decode cX5_isKey 8 = .ok (.invokestatic 88, 3) := by decide +kernel
theorem dX5_isKey_11 : decode cX5_isKey 11 = .ok (.ireturn, 1) := by decide +kernel
theorem dX5_isSet_0 : decode cX5_isSet 0 = .ok (.iload_n 1, 1) := by decide +kernel
theorem dX5_isSet_1 : decode cX5_isSet 1 = .ok (.iconst 0, 1) := by decide +kernel
theorem dX5_isSet_2 : decode cX5_isSet 2 = .ok (.iconst 1, 1) := by decide +kernel
theorem dX5_isSet_3 : decode cX5_isSet 3 = .ok (.aload_n 0, 1) := by decide +kernel
theorem dX5_isSet_4 : decode cX5_isSet 4 = .ok (.getfield 116, 3) := by decide +kernel
theorem dX5_isSet_7 : decode cX5_isSet 7 = .ok (.ishl, 1) := by decide +kernel
theorem dX5_isSet_8 : decode cX5_isSet 8 = .ok (.iconst 1, 1) := by decide +kernel
theorem dX5_isSet_9 : decode cX5_isSet 9 = .ok (.isub, 1) := by decide +kernel
theorem dX5_isSet_10 : decode cX5_isSet 10 = .ok (.invokestatic 88, 3) := by decide +kernel
theorem dX5_isSet_13 : decode cX5_isSet 13 = .ok (.ireturn, 1) := by decide +kernel
theorem dX5_isLine_0 : decode cX5_isLine 0 = .ok (.iload_n 0, 1) := by decide +kernel
theorem dX5_isLine_1 : decode cX5_isLine 1 = .ok (.iconst 0, 1) := by decide +kernel
theorem dX5_isLine_2 : decode cX5_isLine 2 = .ok (.iconst 3, 1) := by decide +kernel
theorem dX5_isLine_3 : decode cX5_isLine 3 = .ok (.invokestatic 88, 3) := by decide +kernel
theorem dX5_isLine_6 : decode cX5_isLine 6 = .ok (.ireturn, 1) := by decide +kernel
theorem dX5_doesBy_0 : decode cX5_doesBy 0 = .ok (.iload_n 0, 1) := by decide +kernel
theorem dX5_doesBy_1 : decode cX5_doesBy 1 = .ok (.tableswitch 74 2 5 #[31, 74, 43, 54], 31) := by decide +kernel
theorem dX5_doesBy_32 : decode cX5_doesBy 32 = .ok (.iload_n 2, 1) := by decide +kernel
theorem dX5_doesBy_33 : decode cX5_doesBy 33 = .ok (.iconst 2, 1) := by decide +kernel
theorem dX5_doesBy_34 : decode cX5_doesBy 34 = .ok (.irem, 1) := by decide +kernel
theorem dX5_doesBy_35 : decode cX5_doesBy 35 = .ok (.ifCond .ne 7, 3) := by decide +kernel
theorem dX5_doesBy_38 : decode cX5_doesBy 38 = .ok (.iconst 1, 1) := by decide +kernel
theorem dX5_doesBy_39 : decode cX5_doesBy 39 = .ok (.goto 4, 3) := by decide +kernel
theorem dX5_doesBy_42 : decode cX5_doesBy 42 = .ok (.iconst 0, 1) := by decide +kernel
theorem dX5_doesBy_43 : decode cX5_doesBy 43 = .ok (.ireturn, 1) := by decide +kernel
theorem dX5_doesBy_44 : decode cX5_doesBy 44 = .ok (.iload_n 1, 1) := by decide +kernel
theorem dX5_doesBy_45 : decode cX5_doesBy 45 = .ok (.iload_n 3, 1) := by decide +kernel
theorem dX5_doesBy_46 : decode cX5_doesBy 46 = .ok (.if_icmp .lt 7, 3) := by decide +kernel
theorem dX5_doesBy_49 : decode cX5_doesBy 49 = .ok (.iconst 1, 1) := by decide +kernel
theorem dX5_doesBy_50 : decode cX5_doesBy 50 = .ok (.goto 4, 3) := by decide +kernel
theorem dX5_doesBy_53 : decode cX5_doesBy 53 = .ok (.iconst 0, 1) := by decide +kernel
theorem dX5_doesBy_54 : decode cX5_doesBy 54 = .ok (.ireturn, 1) := by decide +kernel
theorem dX5_doesBy_55 : decode cX5_doesBy 55 = .ok (.iload_n 2, 1) := by decide +kernel
theorem dX5_doesBy_56 : decode cX5_doesBy 56 = .ok (.iconst 2, 1) := by decide +kernel
theorem dX5_doesBy_57 : decode cX5_doesBy 57 = .ok (.irem, 1) := by decide +kernel
theorem dX5_doesBy_58 : decode cX5_doesBy 58 = .ok (.ifCond .ne 15, 3) := by decide +kernel
theorem dX5_doesBy_61 : decode cX5_doesBy 61 = .ok (.iload_n 2, 1) := by decide +kernel
theorem dX5_doesBy_62 : decode cX5_doesBy 62 = .ok (.iload_n 3, 1) := by decide +kernel
theorem dX5_doesBy_63 : decode cX5_doesBy 63 = .ok (.iconst 1, 1) := by decide +kernel
theorem dX5_doesBy_64 : decode cX5_doesBy 64 = .ok (.iadd, 1) := by decide +kernel
theorem dX5_doesBy_65 : decode cX5_doesBy 65 = .ok (.irem, 1) := by decide +kernel
theorem dX5_doesBy_66 : decode cX5_doesBy 66 = .ok (.ifCond .ne 7, 3) := by decide +kernel
theorem dX5_doesBy_69 : decode cX5_doesBy 69 = .ok (.iconst 1, 1) := by decide +kernel
theorem dX5_doesBy_70 : decode cX5_doesBy 70 = .ok (.goto 4, 3) := by decide +kernel
theorem dX5_doesBy_73 : decode cX5_doesBy 73 = .ok (.iconst 0, 1) := by decide +kernel
theorem dX5_doesBy_74 : decode cX5_doesBy 74 = .ok (.ireturn, 1) := by decide +kernel
theorem dX5_doesBy_75 : decode cX5_doesBy 75 = .ok (.iconst 1, 1) := by decide +kernel
theorem dX5_doesBy_76 : decode cX5_doesBy 76 = .ok (.ireturn, 1) := by decide +kernel
theorem dX5_conducts_0 : decode cX5_conducts 0 = .ok (.aload_n 0, 1) := by decide +kernel
theorem dX5_conducts_1 : decode cX5_conducts 1 = .ok (.getfield 57, 3) := by decide +kernel
theorem dX5_conducts_4 : decode cX5_conducts 4 = .ok (.iload_n 1, 1) := by decide +kernel
theorem dX5_conducts_5 : decode cX5_conducts 5 = .ok (.iaload, 1) := by decide +kernel
theorem dX5_conducts_6 : decode cX5_conducts 6 = .ok (.iconst 3, 1) := by decide +kernel
theorem dX5_conducts_7 : decode cX5_conducts 7 = .ok (.if_icmp .eq 48, 3) := by decide +kernel
theorem dX5_conducts_10 : decode cX5_conducts 10 = .ok (.aload_n 0, 1) := by decide +kernel
theorem dX5_conducts_11 : decode cX5_conducts 11 = .ok (.getfield 54, 3) := by decide +kernel
theorem dX5_conducts_14 : decode cX5_conducts 14 = .ok (.iconst 0, 1) := by decide +kernel
theorem dX5_conducts_15 : decode cX5_conducts 15 = .ok (.iaload, 1) := by decide +kernel
theorem dX5_conducts_16 : decode cX5_conducts 16 = .ok (.iload_n 1, 1) := by decide +kernel
theorem dX5_conducts_17 : decode cX5_conducts 17 = .ok (.invokestatic 125, 3) := by decide +kernel
theorem dX5_conducts_20 : decode cX5_conducts 20 = .ok (.ifCond .eq 39, 3) := by decide +kernel
theorem dX5_conducts_23 : decode cX5_conducts 23 = .ok (.aload_n 0, 1) := by decide +kernel
theorem dX5_conducts_24 : decode cX5_conducts 24 = .ok (.getfield 57, 3) := by decide +kernel
theorem dX5_conducts_27 : decode cX5_conducts 27 = .ok (.iload_n 1, 1) := by decide +kernel
theorem dX5_conducts_28 : decode cX5_conducts 28 = .ok (.iaload, 1) := by decide +kernel
theorem dX5_conducts_29 : decode cX5_conducts 29 = .ok (.aload_n 0, 1) := by decide +kernel
theorem dX5_conducts_30 : decode cX5_conducts 30 = .ok (.getfield 54, 3) := by decide +kernel
theorem dX5_conducts_33 : decode cX5_conducts 33 = .ok (.iconst 3, 1) := by decide +kernel
theorem dX5_conducts_34 : decode cX5_conducts 34 = .ok (.iload_n 1, 1) := by decide +kernel
theorem dX5_conducts_35 : decode cX5_conducts 35 = .ok (.iadd, 1) := by decide +kernel
theorem dX5_conducts_36 : decode cX5_conducts 36 = .ok (.iaload, 1) := by decide +kernel
theorem dX5_conducts_37 : decode cX5_conducts 37 = .ok (.aload_n 0, 1) := by decide +kernel
theorem dX5_conducts_38 : decode cX5_conducts 38 = .ok (.getfield 54, 3) := by decide +kernel
theorem dX5_conducts_41 : decode cX5_conducts 41 = .ok (.iconst 1, 1) := by decide +kernel
theorem dX5_conducts_42 : decode cX5_conducts 42 = .ok (.iaload, 1) := by decide +kernel
theorem dX5_conducts_43 : decode cX5_conducts 43 = .ok (.aload_n 0, 1) := by decide +kernel
theorem dX5_conducts_44 : decode cX5_conducts 44 = .ok (.getfield 42, 3) := by decide +kernel
theorem dX5_conducts_47 : decode cX5_conducts 47 = .ok (.iload_n 1, 1) := by decide +kernel
theorem dX5_conducts_48 : decode cX5_conducts 48 = .ok (.iaload, 1) := by decide +kernel
theorem dX5_conducts_49 : decode cX5_conducts 49 = .ok (.invokestatic 129, 3) := by decide +kernel
theorem dX5_conducts_52 : decode cX5_conducts 52 = .ok (.ifCond .eq 7, 3) := by decide +kernel
theorem dX5_conducts_55 : decode cX5_conducts 55 = .ok (.iconst 1, 1) := by decide +kernel
theorem dX5_conducts_56 : decode cX5_conducts 56 = .ok (.goto 4, 3) := by decide +kernel
theorem dX5_conducts_59 : decode cX5_conducts 59 = .ok (.iconst 0, 1) := by decide +kernel
theorem dX5_conducts_60 : decode cX5_conducts 60 = .ok (.ireturn, 1) := by decide +kernel
theorem dX5_readBy_0 : decode cX5_readBy 0 = .ok (.iconst 1, 1) := by decide +kernel
theorem dX5_readBy_1 : decode cX5_readBy 1 = .ok (.iload_n 1, 1) := by decide +kernel
theorem dX5_readBy_2 : decode cX5_readBy 2 = .ok (.ishl, 1) := by decide +kernel
theorem dX5_readBy_3 : decode cX5_readBy 3 = .ok (.istore_n 2, 1) := by decide +kernel
theorem dX5_readBy_4 : decode cX5_readBy 4 = .ok (.iconst 0, 1) := by decide +kernel
theorem dX5_readBy_5 : decode cX5_readBy 5 = .ok (.istore_n 3, 1) := by decide +kernel
theorem dX5_readBy_6 : decode cX5_readBy 6 = .ok (.iconst 1, 1) := by decide +kernel
theorem dX5_readBy_7 : decode cX5_readBy 7 = .ok (.istore 4, 2) := by decide +kernel
theorem dX5_readBy_9 : decode cX5_readBy 9 = .ok (.iload 4, 2) := by decide +kernel
theorem dX5_readBy_11 : decode cX5_readBy 11 = .ok (.ifCond .eq 175, 3) := by decide +kernel
theorem dX5_readBy_14 : decode cX5_readBy 14 = .ok (.iconst 0, 1) := by decide +kernel
theorem dX5_readBy_15 : decode cX5_readBy 15 = .ok (.istore 4, 2) := by decide +kernel
theorem dX5_readBy_17 : decode cX5_readBy 17 = .ok (.iconst 0, 1) := by decide +kernel
theorem dX5_readBy_18 : decode cX5_readBy 18 = .ok (.istore 5, 2) := by decide +kernel
theorem dX5_readBy_20 : decode cX5_readBy 20 = .ok (.iload 5, 2) := by decide +kernel
theorem dX5_readBy_22 : decode cX5_readBy 22 = .ok (.aload_n 0, 1) := by decide +kernel
theorem dX5_readBy_23 : decode cX5_readBy 23 = .ok (.getfield 116, 3) := by decide +kernel
theorem dX5_readBy_26 : decode cX5_readBy 26 = .ok (.if_icmp .ge 157, 3) := by decide +kernel
theorem dX5_readBy_29 : decode cX5_readBy 29 = .ok (.aload_n 0, 1) := by decide +kernel
theorem dX5_readBy_30 : decode cX5_readBy 30 = .ok (.getfield 54, 3) := by decide +kernel
theorem dX5_readBy_33 : decode cX5_readBy 33 = .ok (.iconst 2, 1) := by decide +kernel
theorem dX5_readBy_34 : decode cX5_readBy 34 = .ok (.iaload, 1) := by decide +kernel
theorem dX5_readBy_35 : decode cX5_readBy 35 = .ok (.aload_n 0, 1) := by decide +kernel
theorem dX5_readBy_36 : decode cX5_readBy 36 = .ok (.getfield 60, 3) := by decide +kernel
theorem dX5_readBy_39 : decode cX5_readBy 39 = .ok (.iload 5, 2) := by decide +kernel
theorem dX5_readBy_41 : decode cX5_readBy 41 = .ok (.iaload, 1) := by decide +kernel
theorem dX5_readBy_42 : decode cX5_readBy 42 = .ok (.invokestatic 125, 3) := by decide +kernel
theorem dX5_readBy_45 : decode cX5_readBy 45 = .ok (.ifCond .ne 132, 3) := by decide +kernel
theorem dX5_readBy_48 : decode cX5_readBy 48 = .ok (.aload_n 0, 1) := by decide +kernel
theorem dX5_readBy_49 : decode cX5_readBy 49 = .ok (.iload 5, 2) := by decide +kernel
theorem dX5_readBy_51 : decode cX5_readBy 51 = .ok (.invokevirtual 133, 3) := by decide +kernel
theorem dX5_readBy_54 : decode cX5_readBy 54 = .ok (.ifCond .eq 123, 3) := by decide +kernel
theorem dX5_readBy_57 : decode cX5_readBy 57 = .ok (.iload_n 2, 1) := by decide +kernel
theorem dX5_readBy_58 : decode cX5_readBy 58 = .ok (.aload_n 0, 1) := by decide +kernel
theorem dX5_readBy_59 : decode cX5_readBy 59 = .ok (.getfield 60, 3) := by decide +kernel
theorem dX5_readBy_62 : decode cX5_readBy 62 = .ok (.iload 5, 2) := by decide +kernel
theorem dX5_readBy_64 : decode cX5_readBy 64 = .ok (.iaload, 1) := by decide +kernel
theorem dX5_readBy_65 : decode cX5_readBy 65 = .ok (.invokestatic 125, 3) := by decide +kernel
theorem dX5_readBy_68 : decode cX5_readBy 68 = .ok (.ifCond .eq 32, 3) := by decide +kernel
theorem dX5_readBy_71 : decode cX5_readBy 71 = .ok (.iload_n 3, 1) := by decide +kernel
theorem dX5_readBy_72 : decode cX5_readBy 72 = .ok (.aload_n 0, 1) := by decide +kernel
theorem dX5_readBy_73 : decode cX5_readBy 73 = .ok (.getfield 63, 3) := by decide +kernel
theorem dX5_readBy_76 : decode cX5_readBy 76 = .ok (.iload 5, 2) := by decide +kernel
theorem dX5_readBy_78 : decode cX5_readBy 78 = .ok (.iaload, 1) := by decide +kernel
theorem dX5_readBy_79 : decode cX5_readBy 79 = .ok (.invokestatic 125, 3) := by decide +kernel
theorem dX5_readBy_82 : decode cX5_readBy 82 = .ok (.ifCond .ne 18, 3) := by decide +kernel
theorem dX5_readBy_85 : decode cX5_readBy 85 = .ok (.iload_n 3, 1) := by decide +kernel
theorem dX5_readBy_86 : decode cX5_readBy 86 = .ok (.iconst 1, 1) := by decide +kernel
theorem dX5_readBy_87 : decode cX5_readBy 87 = .ok (.aload_n 0, 1) := by decide +kernel
theorem dX5_readBy_88 : decode cX5_readBy 88 = .ok (.getfield 63, 3) := by decide +kernel
theorem dX5_readBy_91 : decode cX5_readBy 91 = .ok (.iload 5, 2) := by decide +kernel
theorem dX5_readBy_93 : decode cX5_readBy 93 = .ok (.iaload, 1) := by decide +kernel
theorem dX5_readBy_94 : decode cX5_readBy 94 = .ok (.ishl, 1) := by decide +kernel
theorem dX5_readBy_95 : decode cX5_readBy 95 = .ok (.ior, 1) := by decide +kernel
theorem dX5_readBy_96 : decode cX5_readBy 96 = .ok (.istore_n 3, 1) := by decide +kernel
theorem dX5_readBy_97 : decode cX5_readBy 97 = .ok (.iconst 1, 1) := by decide +kernel
theorem dX5_readBy_98 : decode cX5_readBy 98 = .ok (.istore 4, 2) := by decide +kernel
theorem dX5_readBy_100 : decode cX5_readBy 100 = .ok (.aload_n 0, 1) := by decide +kernel
theorem dX5_readBy_101 : decode cX5_readBy 101 = .ok (.getfield 57, 3) := by decide +kernel
theorem dX5_readBy_104 : decode cX5_readBy 104 = .ok (.iload 5, 2) := by decide +kernel
theorem dX5_readBy_106 : decode cX5_readBy 106 = .ok (.iaload, 1) := by decide +kernel
theorem dX5_readBy_107 : decode cX5_readBy 107 = .ok (.iconst 1, 1) := by decide +kernel
theorem dX5_readBy_108 : decode cX5_readBy 108 = .ok (.if_icmp .eq 18, 3) := by decide +kernel
theorem dX5_readBy_111 : decode cX5_readBy 111 = .ok (.aload_n 0, 1) := by decide +kernel
theorem dX5_readBy_112 : decode cX5_readBy 112 = .ok (.getfield 57, 3) := by decide +kernel
theorem dX5_readBy_115 : decode cX5_readBy 115 = .ok (.iload 5, 2) := by decide +kernel
theorem dX5_readBy_117 : decode cX5_readBy 117 = .ok (.iaload, 1) := by decide +kernel
theorem dX5_readBy_118 : decode cX5_readBy 118 = .ok (.iconst 4, 1) := by decide +kernel
theorem dX5_readBy_119 : decode cX5_readBy 119 = .ok (.if_icmp .eq 7, 3) := by decide +kernel
theorem dX5_readBy_122 : decode cX5_readBy 122 = .ok (.iconst 1, 1) := by decide +kernel
theorem dX5_readBy_123 : decode cX5_readBy 123 = .ok (.goto 4, 3) := by decide +kernel
theorem dX5_readBy_126 : decode cX5_readBy 126 = .ok (.iconst 0, 1) := by decide +kernel
theorem dX5_readBy_127 : decode cX5_readBy 127 = .ok (.istore 6, 2) := by decide +kernel
theorem dX5_readBy_129 : decode cX5_readBy 129 = .ok (.iload 6, 2) := by decide +kernel
theorem dX5_readBy_131 : decode cX5_readBy 131 = .ok (.ifCond .eq 46, 3) := by decide +kernel
theorem dX5_readBy_134 : decode cX5_readBy 134 = .ok (.iload_n 3, 1) := by decide +kernel
theorem dX5_readBy_135 : decode cX5_readBy 135 = .ok (.aload_n 0, 1) := by decide +kernel
theorem dX5_readBy_136 : decode cX5_readBy 136 = .ok (.getfield 63, 3) := by decide +kernel
theorem dX5_readBy_139 : decode cX5_readBy 139 = .ok (.iload 5, 2) := by decide +kernel
theorem dX5_readBy_141 : decode cX5_readBy 141 = .ok (.iaload, 1) := by decide +kernel
theorem dX5_readBy_142 : decode cX5_readBy 142 = .ok (.invokestatic 125, 3) := by decide +kernel
theorem dX5_readBy_145 : decode cX5_readBy 145 = .ok (.ifCond .eq 32, 3) := by decide +kernel
theorem dX5_readBy_148 : decode cX5_readBy 148 = .ok (.iload_n 2, 1) := by decide +kernel
theorem dX5_readBy_149 : decode cX5_readBy 149 = .ok (.aload_n 0, 1) := by decide +kernel
theorem dX5_readBy_150 : decode cX5_readBy 150 = .ok (.getfield 60, 3) := by decide +kernel
theorem dX5_readBy_153 : decode cX5_readBy 153 = .ok (.iload 5, 2) := by decide +kernel
theorem dX5_readBy_155 : decode cX5_readBy 155 = .ok (.iaload, 1) := by decide +kernel
theorem dX5_readBy_156 : decode cX5_readBy 156 = .ok (.invokestatic 125, 3) := by decide +kernel
theorem dX5_readBy_159 : decode cX5_readBy 159 = .ok (.ifCond .ne 18, 3) := by decide +kernel
theorem dX5_readBy_162 : decode cX5_readBy 162 = .ok (.iload_n 2, 1) := by decide +kernel
theorem dX5_readBy_163 : decode cX5_readBy 163 = .ok (.iconst 1, 1) := by decide +kernel
theorem dX5_readBy_164 : decode cX5_readBy 164 = .ok (.aload_n 0, 1) := by decide +kernel
theorem dX5_readBy_165 : decode cX5_readBy 165 = .ok (.getfield 60, 3) := by decide +kernel
theorem dX5_readBy_168 : decode cX5_readBy 168 = .ok (.iload 5, 2) := by decide +kernel
theorem dX5_readBy_170 : decode cX5_readBy 170 = .ok (.iaload, 1) := by decide +kernel
theorem dX5_readBy_171 : decode cX5_readBy 171 = .ok (.ishl, 1) := by decide +kernel
theorem dX5_readBy_172 : decode cX5_readBy 172 = .ok (.ior, 1) := by decide +kernel
theorem dX5_readBy_173 : decode cX5_readBy 173 = .ok (.istore_n 2, 1) := by decide +kernel
theorem dX5_readBy_174 : decode cX5_readBy 174 = .ok (.iconst 1, 1) := by decide +kernel
theorem dX5_readBy_175 : decode cX5_readBy 175 = .ok (.istore 4, 2) := by decide +kernel
theorem dX5_readBy_177 : decode cX5_readBy 177 = .ok (.iinc 5 1, 3) := by decide +kernel
theorem dX5_readBy_180 : decode cX5_readBy 180 = .ok (.goto (-160), 3) := by decide +kernel
theorem dX5_readBy_183 : decode cX5_readBy 183 = .ok (.goto (-174), 3) := by decide +kernel
theorem dX5_readBy_186 : decode cX5_readBy 186 = .ok (.iload_n 3, 1) := by decide +kernel
theorem dX5_readBy_187 : decode cX5_readBy 187 = .ok (.ireturn, 1) := by decide +kernel
theorem dX5_toldBy_0 : decode cX5_toldBy 0 = .ok (.iconst 0, 1) := by decide +kernel
theorem dX5_toldBy_1 : decode cX5_toldBy 1 = .ok (.istore_n 1, 1) := by decide +kernel
theorem dX5_toldBy_2 : decode cX5_toldBy 2 = .ok (.iload_n 1, 1) := by decide +kernel
theorem dX5_toldBy_3 : decode cX5_toldBy 3 = .ok (.iconst 4, 1) := by decide +kernel
theorem dX5_toldBy_4 : decode cX5_toldBy 4 = .ok (.if_icmp .ge 20, 3) := by decide +kernel
theorem dX5_toldBy_7 : decode cX5_toldBy 7 = .ok (.aload_n 0, 1) := by decide +kernel
theorem dX5_toldBy_8 : decode cX5_toldBy 8 = .ok (.getfield 66, 3) := by decide +kernel
theorem dX5_toldBy_11 : decode cX5_toldBy 11 = .ok (.iload_n 1, 1) := by decide +kernel
theorem dX5_toldBy_12 : decode cX5_toldBy 12 = .ok (.aload_n 0, 1) := by decide +kernel
theorem dX5_toldBy_13 : decode cX5_toldBy 13 = .ok (.iload_n 1, 1) := by decide +kernel
theorem dX5_toldBy_14 : decode cX5_toldBy 14 = .ok (.invokevirtual 136, 3) := by decide +kernel
theorem dX5_toldBy_17 : decode cX5_toldBy 17 = .ok (.iastore, 1) := by decide +kernel
theorem dX5_toldBy_18 : decode cX5_toldBy 18 = .ok (.iinc 1 1, 3) := by decide +kernel
theorem dX5_toldBy_21 : decode cX5_toldBy 21 = .ok (.goto (-19), 3) := by decide +kernel
theorem dX5_toldBy_24 : decode cX5_toldBy 24 = .ok (.iconst 0, 1) := by decide +kernel
theorem dX5_toldBy_25 : decode cX5_toldBy 25 = .ok (.istore_n 1, 1) := by decide +kernel
theorem dX5_toldBy_26 : decode cX5_toldBy 26 = .ok (.iconst 0, 1) := by decide +kernel
theorem dX5_toldBy_27 : decode cX5_toldBy 27 = .ok (.istore_n 2, 1) := by decide +kernel
theorem dX5_toldBy_28 : decode cX5_toldBy 28 = .ok (.iload_n 2, 1) := by decide +kernel
theorem dX5_toldBy_29 : decode cX5_toldBy 29 = .ok (.aload_n 0, 1) := by decide +kernel
theorem dX5_toldBy_30 : decode cX5_toldBy 30 = .ok (.getfield 116, 3) := by decide +kernel
theorem dX5_toldBy_33 : decode cX5_toldBy 33 = .ok (.if_icmp .ge 42, 3) := by decide +kernel
theorem dX5_toldBy_36 : decode cX5_toldBy 36 = .ok (.iload_n 1, 1) := by decide +kernel
theorem dX5_toldBy_37 : decode cX5_toldBy 37 = .ok (.aload_n 0, 1) := by decide +kernel
theorem dX5_toldBy_38 : decode cX5_toldBy 38 = .ok (.getfield 66, 3) := by decide +kernel
theorem dX5_toldBy_41 : decode cX5_toldBy 41 = .ok (.aload_n 0, 1) := by decide +kernel
theorem dX5_toldBy_42 : decode cX5_toldBy 42 = .ok (.getfield 60, 3) := by decide +kernel
theorem dX5_toldBy_45 : decode cX5_toldBy 45 = .ok (.iload_n 2, 1) := by decide +kernel
theorem dX5_toldBy_46 : decode cX5_toldBy 46 = .ok (.iaload, 1) := by decide +kernel
theorem dX5_toldBy_47 : decode cX5_toldBy 47 = .ok (.iaload, 1) := by decide +kernel
theorem dX5_toldBy_48 : decode cX5_toldBy 48 = .ok (.aload_n 0, 1) := by decide +kernel
theorem dX5_toldBy_49 : decode cX5_toldBy 49 = .ok (.getfield 63, 3) := by decide +kernel
theorem dX5_toldBy_52 : decode cX5_toldBy 52 = .ok (.iload_n 2, 1) := by decide +kernel
theorem dX5_toldBy_53 : decode cX5_toldBy 53 = .ok (.iaload, 1) := by decide +kernel
theorem dX5_toldBy_54 : decode cX5_toldBy 54 = .ok (.invokestatic 125, 3) := by decide +kernel
theorem dX5_toldBy_57 : decode cX5_toldBy 57 = .ok (.ifCond .eq 9, 3) := by decide +kernel
theorem dX5_toldBy_60 : decode cX5_toldBy 60 = .ok (.iconst 1, 1) := by decide +kernel
theorem dX5_toldBy_61 : decode cX5_toldBy 61 = .ok (.iload_n 2, 1) := by decide +kernel
theorem dX5_toldBy_62 : decode cX5_toldBy 62 = .ok (.ishl, 1) := by decide +kernel
theorem dX5_toldBy_63 : decode cX5_toldBy 63 = .ok (.goto 4, 3) := by decide +kernel
theorem dX5_toldBy_66 : decode cX5_toldBy 66 = .ok (.iconst 0, 1) := by decide +kernel
theorem dX5_toldBy_67 : decode cX5_toldBy 67 = .ok (.ior, 1) := by decide +kernel
theorem dX5_toldBy_68 : decode cX5_toldBy 68 = .ok (.istore_n 1, 1) := by decide +kernel
theorem dX5_toldBy_69 : decode cX5_toldBy 69 = .ok (.iinc 2 1, 3) := by decide +kernel
theorem dX5_toldBy_72 : decode cX5_toldBy 72 = .ok (.goto (-44), 3) := by decide +kernel
theorem dX5_toldBy_75 : decode cX5_toldBy 75 = .ok (.iload_n 1, 1) := by decide +kernel
theorem dX5_toldBy_76 : decode cX5_toldBy 76 = .ok (.ireturn, 1) := by decide +kernel
theorem dX5_toldNow_0 : decode cX5_toldNow 0 = .ok (.aload_n 0, 1) := by decide +kernel
theorem dX5_toldNow_1 : decode cX5_toldNow 1 = .ok (.invokevirtual 139, 3) := by decide +kernel
theorem dX5_toldNow_4 : decode cX5_toldNow 4 = .ok (.aload_n 0, 1) := by decide +kernel
theorem dX5_toldNow_5 : decode cX5_toldNow 5 = .ok (.invokevirtual 142, 3) := by decide +kernel
theorem dX5_toldNow_8 : decode cX5_toldNow 8 = .ok (.ireturn, 1) := by decide +kernel
theorem dX5_toldOf_0 : decode cX5_toldOf 0 = .ok (.aload_n 0, 1) := by decide +kernel
theorem dX5_toldOf_1 : decode cX5_toldOf 1 = .ok (.getfield 54, 3) := by decide +kernel
theorem dX5_toldOf_4 : decode cX5_toldOf 4 = .ok (.iconst 0, 1) := by decide +kernel
theorem dX5_toldOf_5 : decode cX5_toldOf 5 = .ok (.iload_n 1, 1) := by decide +kernel
theorem dX5_toldOf_6 : decode cX5_toldOf 6 = .ok (.iastore, 1) := by decide +kernel
theorem dX5_toldOf_7 : decode cX5_toldOf 7 = .ok (.aload_n 0, 1) := by decide +kernel
theorem dX5_toldOf_8 : decode cX5_toldOf 8 = .ok (.invokevirtual 142, 3) := by decide +kernel
theorem dX5_toldOf_11 : decode cX5_toldOf 11 = .ok (.ireturn, 1) := by decide +kernel
theorem dX5_factOf_0 : decode cX5_factOf 0 = .ok (.iload_n 2, 1) := by decide +kernel
theorem dX5_factOf_1 : decode cX5_factOf 1 = .ok (.tableswitch 115 0 6 #[43, 50, 57, 64, 71, 89, 97], 43) := by decide +kernel
theorem dX5_factOf_44 : decode cX5_factOf 44 = .ok (.aload_n 0, 1) := by decide +kernel
theorem dX5_factOf_45 : decode cX5_factOf 45 = .ok (.getfield 33, 3) := by decide +kernel
theorem dX5_factOf_48 : decode cX5_factOf 48 = .ok (.iload_n 1, 1) := by decide +kernel
theorem dX5_factOf_49 : decode cX5_factOf 49 = .ok (.iaload, 1) := by decide +kernel
theorem dX5_factOf_50 : decode cX5_factOf 50 = .ok (.ireturn, 1) := by decide +kernel
theorem dX5_factOf_51 : decode cX5_factOf 51 = .ok (.aload_n 0, 1) := by decide +kernel
theorem dX5_factOf_52 : decode cX5_factOf 52 = .ok (.getfield 36, 3) := by decide +kernel
theorem dX5_factOf_55 : decode cX5_factOf 55 = .ok (.iload_n 1, 1) := by decide +kernel
theorem dX5_factOf_56 : decode cX5_factOf 56 = .ok (.iaload, 1) := by decide +kernel
theorem dX5_factOf_57 : decode cX5_factOf 57 = .ok (.ireturn, 1) := by decide +kernel
theorem dX5_factOf_58 : decode cX5_factOf 58 = .ok (.aload_n 0, 1) := by decide +kernel
theorem dX5_factOf_59 : decode cX5_factOf 59 = .ok (.getfield 39, 3) := by decide +kernel
theorem dX5_factOf_62 : decode cX5_factOf 62 = .ok (.iload_n 1, 1) := by decide +kernel
theorem dX5_factOf_63 : decode cX5_factOf 63 = .ok (.iaload, 1) := by decide +kernel
theorem dX5_factOf_64 : decode cX5_factOf 64 = .ok (.ireturn, 1) := by decide +kernel
theorem dX5_factOf_65 : decode cX5_factOf 65 = .ok (.aload_n 0, 1) := by decide +kernel
theorem dX5_factOf_66 : decode cX5_factOf 66 = .ok (.getfield 42, 3) := by decide +kernel
theorem dX5_factOf_69 : decode cX5_factOf 69 = .ok (.iload_n 1, 1) := by decide +kernel
theorem dX5_factOf_70 : decode cX5_factOf 70 = .ok (.iaload, 1) := by decide +kernel
theorem dX5_factOf_71 : decode cX5_factOf 71 = .ok (.ireturn, 1) := by decide +kernel
theorem dX5_factOf_72 : decode cX5_factOf 72 = .ok (.aload_n 0, 1) := by decide +kernel
theorem dX5_factOf_73 : decode cX5_factOf 73 = .ok (.iconst 0, 1) := by decide +kernel
theorem dX5_factOf_74 : decode cX5_factOf 74 = .ok (.invokevirtual 122, 3) := by decide +kernel
theorem dX5_factOf_77 : decode cX5_factOf 77 = .ok (.iload_n 1, 1) := by decide +kernel
theorem dX5_factOf_78 : decode cX5_factOf 78 = .ok (.invokestatic 125, 3) := by decide +kernel
theorem dX5_factOf_81 : decode cX5_factOf 81 = .ok (.ifCond .eq 7, 3) := by decide +kernel
theorem dX5_factOf_84 : decode cX5_factOf 84 = .ok (.iconst 1, 1) := by decide +kernel
theorem dX5_factOf_85 : decode cX5_factOf 85 = .ok (.goto 4, 3) := by decide +kernel
theorem dX5_factOf_88 : decode cX5_factOf 88 = .ok (.iconst 0, 1) := by decide +kernel
theorem dX5_factOf_89 : decode cX5_factOf 89 = .ok (.ireturn, 1) := by decide +kernel
theorem dX5_factOf_90 : decode cX5_factOf 90 = .ok (.aload_n 0, 1) := by decide +kernel
theorem dX5_factOf_91 : decode cX5_factOf 91 = .ok (.iconst 3, 1) := by decide +kernel
theorem dX5_factOf_92 : decode cX5_factOf 92 = .ok (.iload_n 1, 1) := by decide +kernel
theorem dX5_factOf_93 : decode cX5_factOf 93 = .ok (.iadd, 1) := by decide +kernel
theorem dX5_factOf_94 : decode cX5_factOf 94 = .ok (.invokevirtual 122, 3) := by decide +kernel
theorem dX5_factOf_97 : decode cX5_factOf 97 = .ok (.ireturn, 1) := by decide +kernel
theorem dX5_factOf_98 : decode cX5_factOf 98 = .ok (.aload_n 0, 1) := by decide +kernel
theorem dX5_factOf_99 : decode cX5_factOf 99 = .ok (.invokevirtual 139, 3) := by decide +kernel
theorem dX5_factOf_102 : decode cX5_factOf 102 = .ok (.aload_n 0, 1) := by decide +kernel
theorem dX5_factOf_103 : decode cX5_factOf 103 = .ok (.iload_n 1, 1) := by decide +kernel
theorem dX5_factOf_104 : decode cX5_factOf 104 = .ok (.invokevirtual 133, 3) := by decide +kernel
theorem dX5_factOf_107 : decode cX5_factOf 107 = .ok (.ifCond .eq 7, 3) := by decide +kernel
theorem dX5_factOf_110 : decode cX5_factOf 110 = .ok (.iconst 1, 1) := by decide +kernel
theorem dX5_factOf_111 : decode cX5_factOf 111 = .ok (.goto 4, 3) := by decide +kernel
theorem dX5_factOf_114 : decode cX5_factOf 114 = .ok (.iconst 0, 1) := by decide +kernel
theorem dX5_factOf_115 : decode cX5_factOf 115 = .ok (.ireturn, 1) := by decide +kernel
theorem dX5_factOf_116 : decode cX5_factOf 116 = .ok (.aload_n 0, 1) := by decide +kernel
theorem dX5_factOf_117 : decode cX5_factOf 117 = .ok (.invokevirtual 146, 3) := by decide +kernel
theorem dX5_factOf_120 : decode cX5_factOf 120 = .ok (.iload_n 1, 1) := by decide +kernel
theorem dX5_factOf_121 : decode cX5_factOf 121 = .ok (.invokestatic 125, 3) := by decide +kernel
theorem dX5_factOf_124 : decode cX5_factOf 124 = .ok (.ifCond .eq 7, 3) := by decide +kernel
theorem dX5_factOf_127 : decode cX5_factOf 127 = .ok (.iconst 1, 1) := by decide +kernel
theorem dX5_factOf_128 : decode cX5_factOf 128 = .ok (.goto 4, 3) := by decide +kernel
theorem dX5_factOf_131 : decode cX5_factOf 131 = .ok (.iconst 0, 1) := by decide +kernel
theorem dX5_factOf_132 : decode cX5_factOf 132 = .ok (.ireturn, 1) := by decide +kernel
theorem dX5_key_0 : decode cX5_key 0 = .ok (.aload_n 0, 1) := by decide +kernel
theorem dX5_key_1 : decode cX5_key 1 = .ok (.iload_n 1, 1) := by decide +kernel
theorem dX5_key_2 : decode cX5_key 2 = .ok (.invokevirtual 149, 3) := by decide +kernel
theorem dX5_key_5 : decode cX5_key 5 = .ok (.ifCond .eq 26, 3) := by decide +kernel
theorem dX5_key_8 : decode cX5_key 8 = .ok (.iload_n 2, 1) := by decide +kernel
theorem dX5_key_9 : decode cX5_key 9 = .ok (.iconst 0, 1) := by decide +kernel
theorem dX5_key_10 : decode cX5_key 10 = .ok (.bipush 7, 2) := by decide +kernel
theorem dX5_key_12 : decode cX5_key 12 = .ok (.invokestatic 88, 3) := by decide +kernel
theorem dX5_key_15 : decode cX5_key 15 = .ok (.ifCond .eq 16, 3) := by decide +kernel
theorem dX5_key_18 : decode cX5_key 18 = .ok (.aload_n 0, 1) := by decide +kernel
theorem dX5_key_19 : decode cX5_key 19 = .ok (.aload_n 0, 1) := by decide +kernel
theorem dX5_key_20 : decode cX5_key 20 = .ok (.iload_n 1, 1) := by decide +kernel
theorem dX5_key_21 : decode cX5_key 21 = .ok (.iload_n 2, 1) := by decide +kernel
theorem dX5_key_22 : decode cX5_key 22 = .ok (.invokevirtual 152, 3) := by decide +kernel
theorem dX5_key_25 : decode cX5_key 25 = .ok (.invokevirtual 100, 3) := by decide +kernel
theorem dX5_key_28 : decode cX5_key 28 = .ok (.goto 4, 3) := by decide +kernel
theorem dX5_key_31 : decode cX5_key 31 = .ok (.iconst (-1), 1) := by decide +kernel
theorem dX5_key_32 : decode cX5_key 32 = .ok (.ireturn, 1) := by decide +kernel
theorem dX5_mark_0 : decode cX5_mark 0 = .ok (.aload_n 0, 1) := by decide +kernel
theorem dX5_mark_1 : decode cX5_mark 1 = .ok (.iload_n 1, 1) := by decide +kernel
theorem dX5_mark_2 : decode cX5_mark 2 = .ok (.invokevirtual 149, 3) := by decide +kernel
theorem dX5_mark_5 : decode cX5_mark 5 = .ok (.ifCond .eq 12, 3) := by decide +kernel
theorem dX5_mark_8 : decode cX5_mark 8 = .ok (.iload_n 2, 1) := by decide +kernel
theorem dX5_mark_9 : decode cX5_mark 9 = .ok (.iconst 1, 1) := by decide +kernel
theorem dX5_mark_10 : decode cX5_mark 10 = .ok (.iconst 5, 1) := by decide +kernel
theorem dX5_mark_11 : decode cX5_mark 11 = .ok (.invokestatic 88, 3) := by decide +kernel
theorem dX5_mark_14 : decode cX5_mark 14 = .ok (.ifCond .ne 5, 3) := by decide +kernel
theorem dX5_mark_17 : decode cX5_mark 17 = .ok (.iconst (-1), 1) := by decide +kernel
theorem dX5_mark_18 : decode cX5_mark 18 = .ok (.ireturn, 1) := by decide +kernel
theorem dX5_mark_19 : decode cX5_mark 19 = .ok (.aload_n 0, 1) := by decide +kernel
theorem dX5_mark_20 : decode cX5_mark 20 = .ok (.getfield 33, 3) := by decide +kernel
theorem dX5_mark_23 : decode cX5_mark 23 = .ok (.iload_n 1, 1) := by decide +kernel
theorem dX5_mark_24 : decode cX5_mark 24 = .ok (.iaload, 1) := by decide +kernel
theorem dX5_mark_25 : decode cX5_mark 25 = .ok (.iload_n 2, 1) := by decide +kernel
theorem dX5_mark_26 : decode cX5_mark 26 = .ok (.if_icmp .eq 39, 3) := by decide +kernel
theorem dX5_mark_29 : decode cX5_mark 29 = .ok (.iload_n 2, 1) := by decide +kernel
theorem dX5_mark_30 : decode cX5_mark 30 = .ok (.iconst 1, 1) := by decide +kernel
theorem dX5_mark_31 : decode cX5_mark 31 = .ok (.if_icmp .ne 13, 3) := by decide +kernel
theorem dX5_mark_34 : decode cX5_mark 34 = .ok (.aload_n 0, 1) := by decide +kernel
theorem dX5_mark_35 : decode cX5_mark 35 = .ok (.getfield 33, 3) := by decide +kernel
theorem dX5_mark_38 : decode cX5_mark 38 = .ok (.iload_n 1, 1) := by decide +kernel
theorem dX5_mark_39 : decode cX5_mark 39 = .ok (.iaload, 1) := by decide +kernel
theorem dX5_mark_40 : decode cX5_mark 40 = .ok (.iconst 4, 1) := by decide +kernel
theorem dX5_mark_41 : decode cX5_mark 41 = .ok (.if_icmp .eq 24, 3) := by decide +kernel
theorem dX5_mark_44 : decode cX5_mark 44 = .ok (.iload_n 2, 1) := by decide +kernel
theorem dX5_mark_45 : decode cX5_mark 45 = .ok (.iconst 2, 1) := by decide +kernel
theorem dX5_mark_46 : decode cX5_mark 46 = .ok (.if_icmp .ne 13, 3) := by decide +kernel
theorem dX5_mark_49 : decode cX5_mark 49 = .ok (.aload_n 0, 1) := by decide +kernel
theorem dX5_mark_50 : decode cX5_mark 50 = .ok (.getfield 33, 3) := by decide +kernel
theorem dX5_mark_53 : decode cX5_mark 53 = .ok (.iload_n 1, 1) := by decide +kernel
theorem dX5_mark_54 : decode cX5_mark 54 = .ok (.iaload, 1) := by decide +kernel
theorem dX5_mark_55 : decode cX5_mark 55 = .ok (.iconst 5, 1) := by decide +kernel
theorem dX5_mark_56 : decode cX5_mark 56 = .ok (.if_icmp .eq 9, 3) := by decide +kernel
theorem dX5_mark_59 : decode cX5_mark 59 = .ok (.aload_n 0, 1) := by decide +kernel
theorem dX5_mark_60 : decode cX5_mark 60 = .ok (.iconst 3, 1) := by decide +kernel
theorem dX5_mark_61 : decode cX5_mark 61 = .ok (.invokevirtual 96, 3) := by decide +kernel
theorem dX5_mark_64 : decode cX5_mark 64 = .ok (.ireturn, 1) := by decide +kernel
theorem dX5_mark_65 : decode cX5_mark 65 = .ok (.iload_n 2, 1) := by decide +kernel
theorem dX5_mark_66 : decode cX5_mark 66 = .ok (.iconst 1, 1) := by decide +kernel
theorem dX5_mark_67 : decode cX5_mark 67 = .ok (.if_icmp .eq 8, 3) := by decide +kernel
theorem dX5_mark_70 : decode cX5_mark 70 = .ok (.iload_n 2, 1) := by decide +kernel
theorem dX5_mark_71 : decode cX5_mark 71 = .ok (.iconst 3, 1) := by decide +kernel
theorem dX5_mark_72 : decode cX5_mark 72 = .ok (.if_icmp .ne 47, 3) := by decide +kernel
theorem dX5_mark_75 : decode cX5_mark 75 = .ok (.aload_n 0, 1) := by decide +kernel
theorem dX5_mark_76 : decode cX5_mark 76 = .ok (.invokevirtual 146, 3) := by decide +kernel
theorem dX5_mark_79 : decode cX5_mark 79 = .ok (.invokestatic 156, 3) := by decide +kernel
theorem dX5_mark_82 : decode cX5_mark 82 = .ok (.istore_n 3, 1) := by decide +kernel
theorem dX5_mark_83 : decode cX5_mark 83 = .ok (.aload_n 0, 1) := by decide +kernel
theorem dX5_mark_84 : decode cX5_mark 84 = .ok (.getfield 57, 3) := by decide +kernel
theorem dX5_mark_87 : decode cX5_mark 87 = .ok (.iload_n 1, 1) := by decide +kernel
theorem dX5_mark_88 : decode cX5_mark 88 = .ok (.iconst 0, 1) := by decide +kernel
theorem dX5_mark_89 : decode cX5_mark 89 = .ok (.iastore, 1) := by decide +kernel
theorem dX5_mark_90 : decode cX5_mark 90 = .ok (.aload_n 0, 1) := by decide +kernel
theorem dX5_mark_91 : decode cX5_mark 91 = .ok (.invokevirtual 142, 3) := by decide +kernel
theorem dX5_mark_94 : decode cX5_mark 94 = .ok (.invokestatic 156, 3) := by decide +kernel
theorem dX5_mark_97 : decode cX5_mark 97 = .ok (.istore 4, 2) := by decide +kernel
theorem dX5_mark_99 : decode cX5_mark 99 = .ok (.bipush 10, 2) := by decide +kernel
theorem dX5_mark_101 : decode cX5_mark 101 = .ok (.iload_n 2, 1) := by decide +kernel
theorem dX5_mark_102 : decode cX5_mark 102 = .ok (.iconst 1, 1) := by decide +kernel
theorem dX5_mark_103 : decode cX5_mark 103 = .ok (.if_icmp .ne 10, 3) := by decide +kernel
theorem dX5_mark_106 : decode cX5_mark 106 = .ok (.iload 4, 2) := by decide +kernel
theorem dX5_mark_108 : decode cX5_mark 108 = .ok (.iload_n 3, 1) := by decide +kernel
theorem dX5_mark_109 : decode cX5_mark 109 = .ok (.isub, 1) := by decide +kernel
theorem dX5_mark_110 : decode cX5_mark 110 = .ok (.goto 7, 3) := by decide +kernel
theorem dX5_mark_113 : decode cX5_mark 113 = .ok (.iload_n 3, 1) := by decide +kernel
theorem dX5_mark_114 : decode cX5_mark 114 = .ok (.iload 4, 2) := by decide +kernel
theorem dX5_mark_116 : decode cX5_mark 116 = .ok (.isub, 1) := by decide +kernel
theorem dX5_mark_117 : decode cX5_mark 117 = .ok (.iadd, 1) := by decide +kernel
theorem dX5_mark_118 : decode cX5_mark 118 = .ok (.ireturn, 1) := by decide +kernel
theorem dX5_mark_119 : decode cX5_mark 119 = .ok (.iload_n 2, 1) := by decide +kernel
theorem dX5_mark_120 : decode cX5_mark 120 = .ok (.iconst 4, 1) := by decide +kernel
theorem dX5_mark_121 : decode cX5_mark 121 = .ok (.if_icmp .ne 28, 3) := by decide +kernel
theorem dX5_mark_124 : decode cX5_mark 124 = .ok (.aload_n 0, 1) := by decide +kernel
theorem dX5_mark_125 : decode cX5_mark 125 = .ok (.getfield 42, 3) := by decide +kernel
theorem dX5_mark_128 : decode cX5_mark 128 = .ok (.iload_n 1, 1) := by decide +kernel
theorem dX5_mark_129 : decode cX5_mark 129 = .ok (.iaload, 1) := by decide +kernel
theorem dX5_mark_130 : decode cX5_mark 130 = .ok (.aload_n 0, 1) := by decide +kernel
theorem dX5_mark_131 : decode cX5_mark 131 = .ok (.iconst 3, 1) := by decide +kernel
theorem dX5_mark_132 : decode cX5_mark 132 = .ok (.iload_n 1, 1) := by decide +kernel
theorem dX5_mark_133 : decode cX5_mark 133 = .ok (.iadd, 1) := by decide +kernel
theorem dX5_mark_134 : decode cX5_mark 134 = .ok (.invokevirtual 122, 3) := by decide +kernel
theorem dX5_mark_137 : decode cX5_mark 137 = .ok (.isub, 1) := by decide +kernel
theorem dX5_mark_138 : decode cX5_mark 138 = .ok (.istore_n 3, 1) := by decide +kernel
theorem dX5_mark_139 : decode cX5_mark 139 = .ok (.iload_n 3, 1) := by decide +kernel
theorem dX5_mark_140 : decode cX5_mark 140 = .ok (.ifCond .ge 7, 3) := by decide +kernel
theorem dX5_mark_143 : decode cX5_mark 143 = .ok (.iconst 0, 1) := by decide +kernel
theorem dX5_mark_144 : decode cX5_mark 144 = .ok (.goto 4, 3) := by decide +kernel
theorem dX5_mark_147 : decode cX5_mark 147 = .ok (.iload_n 3, 1) := by decide +kernel
theorem dX5_mark_148 : decode cX5_mark 148 = .ok (.ireturn, 1) := by decide +kernel
theorem dX5_mark_149 : decode cX5_mark 149 = .ok (.iconst 0, 1) := by decide +kernel
theorem dX5_mark_150 : decode cX5_mark 150 = .ok (.istore_n 3, 1) := by decide +kernel
theorem dX5_mark_151 : decode cX5_mark 151 = .ok (.aload_n 0, 1) := by decide +kernel
theorem dX5_mark_152 : decode cX5_mark 152 = .ok (.iconst 1, 1) := by decide +kernel
theorem dX5_mark_153 : decode cX5_mark 153 = .ok (.invokevirtual 122, 3) := by decide +kernel
theorem dX5_mark_156 : decode cX5_mark 156 = .ok (.istore 4, 2) := by decide +kernel
theorem dX5_mark_158 : decode cX5_mark 158 = .ok (.iload 4, 2) := by decide +kernel
theorem dX5_mark_160 : decode cX5_mark 160 = .ok (.aload_n 0, 1) := by decide +kernel
theorem dX5_mark_161 : decode cX5_mark 161 = .ok (.iconst 1, 1) := by decide +kernel
theorem dX5_mark_162 : decode cX5_mark 162 = .ok (.invokevirtual 122, 3) := by decide +kernel
theorem dX5_mark_165 : decode cX5_mark 165 = .ok (.bipush 8, 2) := by decide +kernel
theorem dX5_mark_167 : decode cX5_mark 167 = .ok (.iadd, 1) := by decide +kernel
theorem dX5_mark_168 : decode cX5_mark 168 = .ok (.if_icmp .ge 71, 3) := by decide +kernel
theorem dX5_mark_171 : decode cX5_mark 171 = .ok (.aload_n 0, 1) := by decide +kernel
theorem dX5_mark_172 : decode cX5_mark 172 = .ok (.getfield 33, 3) := by decide +kernel
theorem dX5_mark_175 : decode cX5_mark 175 = .ok (.iload_n 1, 1) := by decide +kernel
theorem dX5_mark_176 : decode cX5_mark 176 = .ok (.iaload, 1) := by decide +kernel
theorem dX5_mark_177 : decode cX5_mark 177 = .ok (.iconst 0, 1) := by decide +kernel
theorem dX5_mark_178 : decode cX5_mark 178 = .ok (.iload 4, 2) := by decide +kernel
theorem dX5_mark_180 : decode cX5_mark 180 = .ok (.aload_n 0, 1) := by decide +kernel
theorem dX5_mark_181 : decode cX5_mark 181 = .ok (.getfield 42, 3) := by decide +kernel
theorem dX5_mark_184 : decode cX5_mark 184 = .ok (.iload_n 1, 1) := by decide +kernel
theorem dX5_mark_185 : decode cX5_mark 185 = .ok (.iaload, 1) := by decide +kernel
theorem dX5_mark_186 : decode cX5_mark 186 = .ok (.invokestatic 129, 3) := by decide +kernel
theorem dX5_mark_189 : decode cX5_mark 189 = .ok (.istore 5, 2) := by decide +kernel
theorem dX5_mark_191 : decode cX5_mark 191 = .ok (.iload_n 3, 1) := by decide +kernel
theorem dX5_mark_192 : decode cX5_mark 192 = .ok (.iload_n 2, 1) := by decide +kernel
theorem dX5_mark_193 : decode cX5_mark 193 = .ok (.iconst 2, 1) := by decide +kernel
theorem dX5_mark_194 : decode cX5_mark 194 = .ok (.if_icmp .ne 16, 3) := by decide +kernel
theorem dX5_mark_197 : decode cX5_mark 197 = .ok (.iload 5, 2) := by decide +kernel
theorem dX5_mark_199 : decode cX5_mark 199 = .ok (.ifCond .eq 7, 3) := by decide +kernel
theorem dX5_mark_202 : decode cX5_mark 202 = .ok (.iconst 1, 1) := by decide +kernel
theorem dX5_mark_203 : decode cX5_mark 203 = .ok (.goto 28, 3) := by decide +kernel
theorem dX5_mark_206 : decode cX5_mark 206 = .ok (.iconst 0, 1) := by decide +kernel
theorem dX5_mark_207 : decode cX5_mark 207 = .ok (.goto 24, 3) := by decide +kernel
theorem dX5_mark_210 : decode cX5_mark 210 = .ok (.iconst 2, 1) := by decide +kernel
theorem dX5_mark_211 : decode cX5_mark 211 = .ok (.iconst 0, 1) := by decide +kernel
theorem dX5_mark_212 : decode cX5_mark 212 = .ok (.iload 4, 2) := by decide +kernel
theorem dX5_mark_214 : decode cX5_mark 214 = .ok (.iconst 0, 1) := by decide +kernel
theorem dX5_mark_215 : decode cX5_mark 215 = .ok (.invokestatic 129, 3) := by decide +kernel
theorem dX5_mark_218 : decode cX5_mark 218 = .ok (.ifCond .eq 12, 3) := by decide +kernel
theorem dX5_mark_221 : decode cX5_mark 221 = .ok (.iload 5, 2) := by decide +kernel
theorem dX5_mark_223 : decode cX5_mark 223 = .ok (.ifCond .ne 7, 3) := by decide +kernel
theorem dX5_mark_226 : decode cX5_mark 226 = .ok (.iconst 1, 1) := by decide +kernel
theorem dX5_mark_227 : decode cX5_mark 227 = .ok (.goto 4, 3) := by decide +kernel
theorem dX5_mark_230 : decode cX5_mark 230 = .ok (.iconst 0, 1) := by decide +kernel
theorem dX5_mark_231 : decode cX5_mark 231 = .ok (.iadd, 1) := by decide +kernel
theorem dX5_mark_232 : decode cX5_mark 232 = .ok (.istore_n 3, 1) := by decide +kernel
theorem dX5_mark_233 : decode cX5_mark 233 = .ok (.iinc 4 1, 3) := by decide +kernel
theorem dX5_mark_236 : decode cX5_mark 236 = .ok (.goto (-78), 3) := by decide +kernel
theorem dX5_mark_239 : decode cX5_mark 239 = .ok (.iload_n 3, 1) := by decide +kernel
theorem dX5_mark_240 : decode cX5_mark 240 = .ok (.ireturn, 1) := by decide +kernel
theorem dX5_reads_0 : decode cX5_reads 0 = .ok (.iload_n 1, 1) := by decide +kernel
theorem dX5_reads_1 : decode cX5_reads 1 = .ok (.invokestatic 159, 3) := by decide +kernel
theorem dX5_reads_4 : decode cX5_reads 4 = .ok (.ifCond .ne 5, 3) := by decide +kernel
theorem dX5_reads_7 : decode cX5_reads 7 = .ok (.iconst (-1), 1) := by decide +kernel
theorem dX5_reads_8 : decode cX5_reads 8 = .ok (.ireturn, 1) := by decide +kernel
theorem dX5_reads_9 : decode cX5_reads 9 = .ok (.aload_n 0, 1) := by decide +kernel
theorem dX5_reads_10 : decode cX5_reads 10 = .ok (.invokevirtual 139, 3) := by decide +kernel
theorem dX5_reads_13 : decode cX5_reads 13 = .ok (.aload_n 0, 1) := by decide +kernel
theorem dX5_reads_14 : decode cX5_reads 14 = .ok (.iload_n 1, 1) := by decide +kernel
theorem dX5_reads_15 : decode cX5_reads 15 = .ok (.invokevirtual 136, 3) := by decide +kernel
theorem dX5_reads_18 : decode cX5_reads 18 = .ok (.ireturn, 1) := by decide +kernel
theorem dX5_begin_0 : decode cX5_begin 0 = .ok (.iconst 0, 1) := by decide +kernel
theorem dX5_begin_1 : decode cX5_begin 1 = .ok (.istore_n 1, 1) := by decide +kernel
theorem dX5_begin_2 : decode cX5_begin 2 = .ok (.iload_n 1, 1) := by decide +kernel
theorem dX5_begin_3 : decode cX5_begin 3 = .ok (.bipush 10, 2) := by decide +kernel
theorem dX5_begin_5 : decode cX5_begin 5 = .ok (.if_icmp .ge 39, 3) := by decide +kernel
theorem dX5_begin_8 : decode cX5_begin 8 = .ok (.aload_n 0, 1) := by decide +kernel
theorem dX5_begin_9 : decode cX5_begin 9 = .ok (.getfield 45, 3) := by decide +kernel
theorem dX5_begin_12 : decode cX5_begin 12 = .ok (.bipush 10, 2) := by decide +kernel
theorem dX5_begin_14 : decode cX5_begin 14 = .ok (.aload_n 0, 1) := by decide +kernel
theorem dX5_begin_15 : decode cX5_begin 15 = .ok (.getfield 119, 3) := by decide +kernel
theorem dX5_begin_18 : decode cX5_begin 18 = .ok (.iconst 1, 1) := by decide +kernel
theorem dX5_begin_19 : decode cX5_begin 19 = .ok (.iadd, 1) := by decide +kernel
theorem dX5_begin_20 : decode cX5_begin 20 = .ok (.imul, 1) := by decide +kernel
theorem dX5_begin_21 : decode cX5_begin 21 = .ok (.iload_n 1, 1) := by decide +kernel
theorem dX5_begin_22 : decode cX5_begin 22 = .ok (.iadd, 1) := by decide +kernel
theorem dX5_begin_23 : decode cX5_begin 23 = .ok (.aload_n 0, 1) := by decide +kernel
theorem dX5_begin_24 : decode cX5_begin 24 = .ok (.getfield 45, 3) := by decide +kernel
theorem dX5_begin_27 : decode cX5_begin 27 = .ok (.bipush 10, 2) := by decide +kernel
theorem dX5_begin_29 : decode cX5_begin 29 = .ok (.aload_n 0, 1) := by decide +kernel
theorem dX5_begin_30 : decode cX5_begin 30 = .ok (.getfield 119, 3) := by decide +kernel
theorem dX5_begin_33 : decode cX5_begin 33 = .ok (.imul, 1) := by decide +kernel
theorem dX5_begin_34 : decode cX5_begin 34 = .ok (.iload_n 1, 1) := by decide +kernel
theorem dX5_begin_35 : decode cX5_begin 35 = .ok (.iadd, 1) := by decide +kernel
theorem dX5_begin_36 : decode cX5_begin 36 = .ok (.iaload, 1) := by decide +kernel
theorem dX5_begin_37 : decode cX5_begin 37 = .ok (.iastore, 1) := by decide +kernel
theorem dX5_begin_38 : decode cX5_begin 38 = .ok (.iinc 1 1, 3) := by decide +kernel
theorem dX5_begin_41 : decode cX5_begin 41 = .ok (.goto (-39), 3) := by decide +kernel
theorem dX5_begin_44 : decode cX5_begin 44 = .ok (.aload_n 0, 1) := by decide +kernel
theorem dX5_begin_45 : decode cX5_begin 45 = .ok (.dup, 1) := by decide +kernel
theorem dX5_begin_46 : decode cX5_begin 46 = .ok (.getfield 119, 3) := by decide +kernel
theorem dX5_begin_49 : decode cX5_begin 49 = .ok (.iconst 1, 1) := by decide +kernel
theorem dX5_begin_50 : decode cX5_begin 50 = .ok (.iadd, 1) := by decide +kernel
theorem dX5_begin_51 : decode cX5_begin 51 = .ok (.putfield 119, 3) := by decide +kernel
theorem dX5_begin_54 : decode cX5_begin 54 = .ok (.return_, 1) := by decide +kernel
theorem dX5_flipped_0 : decode cX5_flipped 0 = .ok (.iload_n 0, 1) := by decide +kernel
theorem dX5_flipped_1 : decode cX5_flipped 1 = .ok (.iload_n 1, 1) := by decide +kernel
theorem dX5_flipped_2 : decode cX5_flipped 2 = .ok (.invokestatic 125, 3) := by decide +kernel
theorem dX5_flipped_5 : decode cX5_flipped 5 = .ok (.ifCond .eq 13, 3) := by decide +kernel
theorem dX5_flipped_8 : decode cX5_flipped 8 = .ok (.iload_n 0, 1) := by decide +kernel
theorem dX5_flipped_9 : decode cX5_flipped 9 = .ok (.iconst 1, 1) := by decide +kernel
theorem dX5_flipped_10 : decode cX5_flipped 10 = .ok (.iload_n 1, 1) := by decide +kernel
theorem dX5_flipped_11 : decode cX5_flipped 11 = .ok (.ishl, 1) := by decide +kernel
theorem dX5_flipped_12 : decode cX5_flipped 12 = .ok (.iconst (-1), 1) := by decide +kernel
theorem dX5_flipped_13 : decode cX5_flipped 13 = .ok (.ixor, 1) := by decide +kernel
theorem dX5_flipped_14 : decode cX5_flipped 14 = .ok (.iand, 1) := by decide +kernel
theorem dX5_flipped_15 : decode cX5_flipped 15 = .ok (.goto 8, 3) := by decide +kernel
theorem dX5_flipped_18 : decode cX5_flipped 18 = .ok (.iload_n 0, 1) := by decide +kernel
theorem dX5_flipped_19 : decode cX5_flipped 19 = .ok (.iconst 1, 1) := by decide +kernel
theorem dX5_flipped_20 : decode cX5_flipped 20 = .ok (.iload_n 1, 1) := by decide +kernel
theorem dX5_flipped_21 : decode cX5_flipped 21 = .ok (.ishl, 1) := by decide +kernel
theorem dX5_flipped_22 : decode cX5_flipped 22 = .ok (.ior, 1) := by decide +kernel
theorem dX5_flipped_23 : decode cX5_flipped 23 = .ok (.ireturn, 1) := by decide +kernel
theorem dX5_pressNow_0 : decode cX5_pressNow 0 = .ok (.aload_n 0, 1) := by decide +kernel
theorem dX5_pressNow_1 : decode cX5_pressNow 1 = .ok (.getfield 45, 3) := by decide +kernel
theorem dX5_pressNow_4 : decode cX5_pressNow 4 = .ok (.bipush 10, 2) := by decide +kernel
theorem dX5_pressNow_6 : decode cX5_pressNow 6 = .ok (.aload_n 0, 1) := by decide +kernel
theorem dX5_pressNow_7 : decode cX5_pressNow 7 = .ok (.getfield 119, 3) := by decide +kernel
theorem dX5_pressNow_10 : decode cX5_pressNow 10 = .ok (.imul, 1) := by decide +kernel
theorem dX5_pressNow_11 : decode cX5_pressNow 11 = .ok (.iconst 0, 1) := by decide +kernel
theorem dX5_pressNow_12 : decode cX5_pressNow 12 = .ok (.iadd, 1) := by decide +kernel
theorem dX5_pressNow_13 : decode cX5_pressNow 13 = .ok (.aload_n 0, 1) := by decide +kernel
theorem dX5_pressNow_14 : decode cX5_pressNow 14 = .ok (.iconst 0, 1) := by decide +kernel
theorem dX5_pressNow_15 : decode cX5_pressNow 15 = .ok (.invokevirtual 122, 3) := by decide +kernel
theorem dX5_pressNow_18 : decode cX5_pressNow 18 = .ok (.iload_n 1, 1) := by decide +kernel
theorem dX5_pressNow_19 : decode cX5_pressNow 19 = .ok (.invokestatic 162, 3) := by decide +kernel
theorem dX5_pressNow_22 : decode cX5_pressNow 22 = .ok (.iastore, 1) := by decide +kernel
theorem dX5_pressNow_23 : decode cX5_pressNow 23 = .ok (.aload_n 0, 1) := by decide +kernel
theorem dX5_pressNow_24 : decode cX5_pressNow 24 = .ok (.getfield 45, 3) := by decide +kernel
theorem dX5_pressNow_27 : decode cX5_pressNow 27 = .ok (.bipush 10, 2) := by decide +kernel
theorem dX5_pressNow_29 : decode cX5_pressNow 29 = .ok (.aload_n 0, 1) := by decide +kernel
theorem dX5_pressNow_30 : decode cX5_pressNow 30 = .ok (.getfield 119, 3) := by decide +kernel
theorem dX5_pressNow_33 : decode cX5_pressNow 33 = .ok (.imul, 1) := by decide +kernel
theorem dX5_pressNow_34 : decode cX5_pressNow 34 = .ok (.iconst 3, 1) := by decide +kernel
theorem dX5_pressNow_35 : decode cX5_pressNow 35 = .ok (.iadd, 1) := by decide +kernel
theorem dX5_pressNow_36 : decode cX5_pressNow 36 = .ok (.iload_n 1, 1) := by decide +kernel
theorem dX5_pressNow_37 : decode cX5_pressNow 37 = .ok (.iadd, 1) := by decide +kernel
theorem dX5_pressNow_38 : decode cX5_pressNow 38 = .ok (.iconst 0, 1) := by decide +kernel
theorem dX5_pressNow_39 : decode cX5_pressNow 39 = .ok (.iastore, 1) := by decide +kernel
theorem dX5_pressNow_40 : decode cX5_pressNow 40 = .ok (.return_, 1) := by decide +kernel
theorem dX5_passOn_0 : decode cX5_passOn 0 = .ok (.iconst 0, 1) := by decide +kernel
theorem dX5_passOn_1 : decode cX5_passOn 1 = .ok (.istore_n 3, 1) := by decide +kernel
theorem dX5_passOn_2 : decode cX5_passOn 2 = .ok (.iload_n 3, 1) := by decide +kernel
theorem dX5_passOn_3 : decode cX5_passOn 3 = .ok (.aload_n 0, 1) := by decide +kernel
theorem dX5_passOn_4 : decode cX5_passOn 4 = .ok (.getfield 116, 3) := by decide +kernel
theorem dX5_passOn_7 : decode cX5_passOn 7 = .ok (.if_icmp .ge 48, 3) := by decide +kernel
theorem dX5_passOn_10 : decode cX5_passOn 10 = .ok (.aload_n 1, 1) := by decide +kernel
theorem dX5_passOn_11 : decode cX5_passOn 11 = .ok (.iload_n 2, 1) := by decide +kernel
theorem dX5_passOn_12 : decode cX5_passOn 12 = .ok (.iconst 3, 1) := by decide +kernel
theorem dX5_passOn_13 : decode cX5_passOn 13 = .ok (.iadd, 1) := by decide +kernel
theorem dX5_passOn_14 : decode cX5_passOn 14 = .ok (.iload_n 3, 1) := by decide +kernel
theorem dX5_passOn_15 : decode cX5_passOn 15 = .ok (.iadd, 1) := by decide +kernel
theorem dX5_passOn_16 : decode cX5_passOn 16 = .ok (.dup2, 1) := by decide +kernel
theorem dX5_passOn_17 : decode cX5_passOn 17 = .ok (.iaload, 1) := by decide +kernel
theorem dX5_passOn_18 : decode cX5_passOn 18 = .ok (.aload_n 1, 1) := by decide +kernel
theorem dX5_passOn_19 : decode cX5_passOn 19 = .ok (.iload_n 2, 1) := by decide +kernel
theorem dX5_passOn_20 : decode cX5_passOn 20 = .ok (.iconst 0, 1) := by decide +kernel
theorem dX5_passOn_21 : decode cX5_passOn 21 = .ok (.iadd, 1) := by decide +kernel
theorem dX5_passOn_22 : decode cX5_passOn 22 = .ok (.iaload, 1) := by decide +kernel
theorem dX5_passOn_23 : decode cX5_passOn 23 = .ok (.iload_n 3, 1) := by decide +kernel
theorem dX5_passOn_24 : decode cX5_passOn 24 = .ok (.invokestatic 125, 3) := by decide +kernel
theorem dX5_passOn_27 : decode cX5_passOn 27 = .ok (.ifCond .eq 19, 3) := by decide +kernel
theorem dX5_passOn_30 : decode cX5_passOn 30 = .ok (.aload_n 1, 1) := by decide +kernel
theorem dX5_passOn_31 : decode cX5_passOn 31 = .ok (.iload_n 2, 1) := by decide +kernel
theorem dX5_passOn_32 : decode cX5_passOn 32 = .ok (.iconst 3, 1) := by decide +kernel
theorem dX5_passOn_33 : decode cX5_passOn 33 = .ok (.iadd, 1) := by decide +kernel
theorem dX5_passOn_34 : decode cX5_passOn 34 = .ok (.iload_n 3, 1) := by decide +kernel
theorem dX5_passOn_35 : decode cX5_passOn 35 = .ok (.iadd, 1) := by decide +kernel
theorem dX5_passOn_36 : decode cX5_passOn 36 = .ok (.iaload, 1) := by decide +kernel
theorem dX5_passOn_37 : decode cX5_passOn 37 = .ok (.bipush 9, 2) := by decide +kernel
theorem dX5_passOn_39 : decode cX5_passOn 39 = .ok (.if_icmp .ge 7, 3) := by decide +kernel
theorem dX5_passOn_42 : decode cX5_passOn 42 = .ok (.iconst 1, 1) := by decide +kernel
theorem dX5_passOn_43 : decode cX5_passOn 43 = .ok (.goto 4, 3) := by decide +kernel
theorem dX5_passOn_46 : decode cX5_passOn 46 = .ok (.iconst 0, 1) := by decide +kernel
theorem dX5_passOn_47 : decode cX5_passOn 47 = .ok (.iadd, 1) := by decide +kernel
theorem dX5_passOn_48 : decode cX5_passOn 48 = .ok (.iastore, 1) := by decide +kernel
theorem dX5_passOn_49 : decode cX5_passOn 49 = .ok (.iinc 3 1, 3) := by decide +kernel
theorem dX5_passOn_52 : decode cX5_passOn 52 = .ok (.goto (-50), 3) := by decide +kernel
theorem dX5_passOn_55 : decode cX5_passOn 55 = .ok (.aload_n 1, 1) := by decide +kernel
theorem dX5_passOn_56 : decode cX5_passOn 56 = .ok (.iload_n 2, 1) := by decide +kernel
theorem dX5_passOn_57 : decode cX5_passOn 57 = .ok (.iconst 1, 1) := by decide +kernel
theorem dX5_passOn_58 : decode cX5_passOn 58 = .ok (.iadd, 1) := by decide +kernel
theorem dX5_passOn_59 : decode cX5_passOn 59 = .ok (.dup2, 1) := by decide +kernel
theorem dX5_passOn_60 : decode cX5_passOn 60 = .ok (.iaload, 1) := by decide +kernel
theorem dX5_passOn_61 : decode cX5_passOn 61 = .ok (.iconst 1, 1) := by decide +kernel
theorem dX5_passOn_62 : decode cX5_passOn 62 = .ok (.iadd, 1) := by decide +kernel
theorem dX5_passOn_63 : decode cX5_passOn 63 = .ok (.iastore, 1) := by decide +kernel
theorem dX5_passOn_64 : decode cX5_passOn 64 = .ok (.return_, 1) := by decide +kernel
theorem dX5_press_0 : decode cX5_press 0 = .ok (.aload_n 0, 1) := by decide +kernel
theorem dX5_press_1 : decode cX5_press 1 = .ok (.iload_n 1, 1) := by decide +kernel
theorem dX5_press_2 : decode cX5_press 2 = .ok (.invokevirtual 149, 3) := by decide +kernel
theorem dX5_press_5 : decode cX5_press 5 = .ok (.ifCond .ne 5, 3) := by decide +kernel
theorem dX5_press_8 : decode cX5_press 8 = .ok (.iconst (-1), 1) := by decide +kernel
theorem dX5_press_9 : decode cX5_press 9 = .ok (.ireturn, 1) := by decide +kernel
theorem dX5_press_10 : decode cX5_press 10 = .ok (.aload_n 0, 1) := by decide +kernel
theorem dX5_press_11 : decode cX5_press 11 = .ok (.getfield 119, 3) := by decide +kernel
theorem dX5_press_14 : decode cX5_press 14 = .ok (.bipush 40, 2) := by decide +kernel
theorem dX5_press_16 : decode cX5_press 16 = .ok (.if_icmp .ne 6, 3) := by decide +kernel
theorem dX5_press_19 : decode cX5_press 19 = .ok (.bipush (-2), 2) := by decide +kernel
theorem dX5_press_21 : decode cX5_press 21 = .ok (.ireturn, 1) := by decide +kernel
theorem dX5_press_22 : decode cX5_press 22 = .ok (.aload_n 0, 1) := by decide +kernel
theorem dX5_press_23 : decode cX5_press 23 = .ok (.invokevirtual 165, 3) := by decide +kernel
theorem dX5_press_26 : decode cX5_press 26 = .ok (.aload_n 0, 1) := by decide +kernel
theorem dX5_press_27 : decode cX5_press 27 = .ok (.iload_n 1, 1) := by decide +kernel
theorem dX5_press_28 : decode cX5_press 28 = .ok (.invokevirtual 168, 3) := by decide +kernel
theorem dX5_press_31 : decode cX5_press 31 = .ok (.aload_n 0, 1) := by decide +kernel
theorem dX5_press_32 : decode cX5_press 32 = .ok (.iconst 0, 1) := by decide +kernel
theorem dX5_press_33 : decode cX5_press 33 = .ok (.invokevirtual 122, 3) := by decide +kernel
theorem dX5_press_36 : decode cX5_press 36 = .ok (.invokestatic 156, 3) := by decide +kernel
theorem dX5_press_39 : decode cX5_press 39 = .ok (.ireturn, 1) := by decide +kernel
theorem dX5_scan_0 : decode cX5_scan 0 = .ok (.aload_n 0, 1) := by decide +kernel
theorem dX5_scan_1 : decode cX5_scan 1 = .ok (.getfield 116, 3) := by decide +kernel
theorem dX5_scan_4 : decode cX5_scan 4 = .ok (.ifCond .ne 6, 3) := by decide +kernel
theorem dX5_scan_7 : decode cX5_scan 7 = .ok (.bipush (-4), 2) := by decide +kernel
theorem dX5_scan_9 : decode cX5_scan 9 = .ok (.ireturn, 1) := by decide +kernel
theorem dX5_scan_10 : decode cX5_scan 10 = .ok (.aload_n 0, 1) := by decide +kernel
theorem dX5_scan_11 : decode cX5_scan 11 = .ok (.getfield 119, 3) := by decide +kernel
theorem dX5_scan_14 : decode cX5_scan 14 = .ok (.bipush 40, 2) := by decide +kernel
theorem dX5_scan_16 : decode cX5_scan 16 = .ok (.if_icmp .ne 6, 3) := by decide +kernel
theorem dX5_scan_19 : decode cX5_scan 19 = .ok (.bipush (-2), 2) := by decide +kernel
theorem dX5_scan_21 : decode cX5_scan 21 = .ok (.ireturn, 1) := by decide +kernel
theorem dX5_scan_22 : decode cX5_scan 22 = .ok (.aload_n 0, 1) := by decide +kernel
theorem dX5_scan_23 : decode cX5_scan 23 = .ok (.invokevirtual 146, 3) := by decide +kernel
theorem dX5_scan_26 : decode cX5_scan 26 = .ok (.invokestatic 156, 3) := by decide +kernel
theorem dX5_scan_29 : decode cX5_scan 29 = .ok (.istore_n 1, 1) := by decide +kernel
theorem dX5_scan_30 : decode cX5_scan 30 = .ok (.aload_n 0, 1) := by decide +kernel
theorem dX5_scan_31 : decode cX5_scan 31 = .ok (.invokevirtual 165, 3) := by decide +kernel
theorem dX5_scan_34 : decode cX5_scan 34 = .ok (.aload_n 0, 1) := by decide +kernel
theorem dX5_scan_35 : decode cX5_scan 35 = .ok (.aload_n 0, 1) := by decide +kernel
theorem dX5_scan_36 : decode cX5_scan 36 = .ok (.getfield 45, 3) := by decide +kernel
theorem dX5_scan_39 : decode cX5_scan 39 = .ok (.bipush 10, 2) := by decide +kernel
theorem dX5_scan_41 : decode cX5_scan 41 = .ok (.aload_n 0, 1) := by decide +kernel
theorem dX5_scan_42 : decode cX5_scan 42 = .ok (.getfield 119, 3) := by decide +kernel
theorem dX5_scan_45 : decode cX5_scan 45 = .ok (.imul, 1) := by decide +kernel
theorem dX5_scan_46 : decode cX5_scan 46 = .ok (.invokevirtual 172, 3) := by decide +kernel
theorem dX5_scan_49 : decode cX5_scan 49 = .ok (.iload_n 1, 1) := by decide +kernel
theorem dX5_scan_50 : decode cX5_scan 50 = .ok (.ireturn, 1) := by decide +kernel
theorem dX5_cut_0 : decode cX5_cut 0 = .ok (.iload_n 1, 1) := by decide +kernel
theorem dX5_cut_1 : decode cX5_cut 1 = .ok (.invokestatic 159, 3) := by decide +kernel
theorem dX5_cut_4 : decode cX5_cut 4 = .ok (.ifCond .ne 5, 3) := by decide +kernel
theorem dX5_cut_7 : decode cX5_cut 7 = .ok (.iconst (-1), 1) := by decide +kernel
theorem dX5_cut_8 : decode cX5_cut 8 = .ok (.ireturn, 1) := by decide +kernel
theorem dX5_cut_9 : decode cX5_cut 9 = .ok (.aload_n 0, 1) := by decide +kernel
theorem dX5_cut_10 : decode cX5_cut 10 = .ok (.getfield 116, 3) := by decide +kernel
theorem dX5_cut_13 : decode cX5_cut 13 = .ok (.ifCond .ne 6, 3) := by decide +kernel
theorem dX5_cut_16 : decode cX5_cut 16 = .ok (.bipush (-4), 2) := by decide +kernel
theorem dX5_cut_18 : decode cX5_cut 18 = .ok (.ireturn, 1) := by decide +kernel
theorem dX5_cut_19 : decode cX5_cut 19 = .ok (.aload_n 0, 1) := by decide +kernel
theorem dX5_cut_20 : decode cX5_cut 20 = .ok (.getfield 119, 3) := by decide +kernel
theorem dX5_cut_23 : decode cX5_cut 23 = .ok (.bipush 40, 2) := by decide +kernel
theorem dX5_cut_25 : decode cX5_cut 25 = .ok (.if_icmp .ne 6, 3) := by decide +kernel
theorem dX5_cut_28 : decode cX5_cut 28 = .ok (.bipush (-2), 2) := by decide +kernel
theorem dX5_cut_30 : decode cX5_cut 30 = .ok (.ireturn, 1) := by decide +kernel
theorem dX5_cut_31 : decode cX5_cut 31 = .ok (.aload_n 0, 1) := by decide +kernel
theorem dX5_cut_32 : decode cX5_cut 32 = .ok (.invokevirtual 165, 3) := by decide +kernel
theorem dX5_cut_35 : decode cX5_cut 35 = .ok (.aload_n 0, 1) := by decide +kernel
theorem dX5_cut_36 : decode cX5_cut 36 = .ok (.getfield 45, 3) := by decide +kernel
theorem dX5_cut_39 : decode cX5_cut 39 = .ok (.bipush 10, 2) := by decide +kernel
theorem dX5_cut_41 : decode cX5_cut 41 = .ok (.aload_n 0, 1) := by decide +kernel
theorem dX5_cut_42 : decode cX5_cut 42 = .ok (.getfield 119, 3) := by decide +kernel
theorem dX5_cut_45 : decode cX5_cut 45 = .ok (.imul, 1) := by decide +kernel
theorem dX5_cut_46 : decode cX5_cut 46 = .ok (.iconst 2, 1) := by decide +kernel
theorem dX5_cut_47 : decode cX5_cut 47 = .ok (.iadd, 1) := by decide +kernel
theorem dX5_cut_48 : decode cX5_cut 48 = .ok (.aload_n 0, 1) := by decide +kernel
theorem dX5_cut_49 : decode cX5_cut 49 = .ok (.iconst 2, 1) := by decide +kernel
theorem dX5_cut_50 : decode cX5_cut 50 = .ok (.invokevirtual 122, 3) := by decide +kernel
theorem dX5_cut_53 : decode cX5_cut 53 = .ok (.iload_n 1, 1) := by decide +kernel
theorem dX5_cut_54 : decode cX5_cut 54 = .ok (.invokestatic 162, 3) := by decide +kernel
theorem dX5_cut_57 : decode cX5_cut 57 = .ok (.iastore, 1) := by decide +kernel
theorem dX5_cut_58 : decode cX5_cut 58 = .ok (.aload_n 0, 1) := by decide +kernel
theorem dX5_cut_59 : decode cX5_cut 59 = .ok (.iconst 2, 1) := by decide +kernel
theorem dX5_cut_60 : decode cX5_cut 60 = .ok (.invokevirtual 122, 3) := by decide +kernel
theorem dX5_cut_63 : decode cX5_cut 63 = .ok (.invokestatic 156, 3) := by decide +kernel
theorem dX5_cut_66 : decode cX5_cut 66 = .ok (.ireturn, 1) := by decide +kernel
theorem dX5_undo_0 : decode cX5_undo 0 = .ok (.iload_n 1, 1) := by decide +kernel
theorem dX5_undo_1 : decode cX5_undo 1 = .ok (.iconst 0, 1) := by decide +kernel
theorem dX5_undo_2 : decode cX5_undo 2 = .ok (.aload_n 0, 1) := by decide +kernel
theorem dX5_undo_3 : decode cX5_undo 3 = .ok (.getfield 119, 3) := by decide +kernel
theorem dX5_undo_6 : decode cX5_undo 6 = .ok (.invokestatic 88, 3) := by decide +kernel
theorem dX5_undo_9 : decode cX5_undo 9 = .ok (.ifCond .ne 5, 3) := by decide +kernel
theorem dX5_undo_12 : decode cX5_undo 12 = .ok (.iconst (-1), 1) := by decide +kernel
theorem dX5_undo_13 : decode cX5_undo 13 = .ok (.ireturn, 1) := by decide +kernel
theorem dX5_undo_14 : decode cX5_undo 14 = .ok (.aload_n 0, 1) := by decide +kernel
theorem dX5_undo_15 : decode cX5_undo 15 = .ok (.getfield 119, 3) := by decide +kernel
theorem dX5_undo_18 : decode cX5_undo 18 = .ok (.iload_n 1, 1) := by decide +kernel
theorem dX5_undo_19 : decode cX5_undo 19 = .ok (.isub, 1) := by decide +kernel
theorem dX5_undo_20 : decode cX5_undo 20 = .ok (.istore_n 2, 1) := by decide +kernel
theorem dX5_undo_21 : decode cX5_undo 21 = .ok (.aload_n 0, 1) := by decide +kernel
theorem dX5_undo_22 : decode cX5_undo 22 = .ok (.iload_n 1, 1) := by decide +kernel
theorem dX5_undo_23 : decode cX5_undo 23 = .ok (.putfield 119, 3) := by decide +kernel
theorem dX5_undo_26 : decode cX5_undo 26 = .ok (.iload_n 2, 1) := by decide +kernel
theorem dX5_undo_27 : decode cX5_undo 27 = .ok (.ireturn, 1) := by decide +kernel
theorem dX5_keep_0 : decode cX5_keep 0 = .ok (.iload_n 1, 1) := by decide +kernel
theorem dX5_keep_1 : decode cX5_keep 1 = .ok (.iconst 0, 1) := by decide +kernel
theorem dX5_keep_2 : decode cX5_keep 2 = .ok (.iconst 2, 1) := by decide +kernel
theorem dX5_keep_3 : decode cX5_keep 3 = .ok (.invokestatic 88, 3) := by decide +kernel
theorem dX5_keep_6 : decode cX5_keep 6 = .ok (.ifCond .ne 5, 3) := by decide +kernel
theorem dX5_keep_9 : decode cX5_keep 9 = .ok (.iconst (-1), 1) := by decide +kernel
theorem dX5_keep_10 : decode cX5_keep 10 = .ok (.ireturn, 1) := by decide +kernel
theorem dX5_keep_11 : decode cX5_keep 11 = .ok (.aload_n 0, 1) := by decide +kernel
theorem dX5_keep_12 : decode cX5_keep 12 = .ok (.getfield 116, 3) := by decide +kernel
theorem dX5_keep_15 : decode cX5_keep 15 = .ok (.ifCond .ne 6, 3) := by decide +kernel
theorem dX5_keep_18 : decode cX5_keep 18 = .ok (.bipush (-4), 2) := by decide +kernel
theorem dX5_keep_20 : decode cX5_keep 20 = .ok (.ireturn, 1) := by decide +kernel
theorem dX5_keep_21 : decode cX5_keep 21 = .ok (.iconst 0, 1) := by decide +kernel
theorem dX5_keep_22 : decode cX5_keep 22 = .ok (.istore_n 2, 1) := by decide +kernel
theorem dX5_keep_23 : decode cX5_keep 23 = .ok (.iload_n 2, 1) := by decide +kernel
theorem dX5_keep_24 : decode cX5_keep 24 = .ok (.sipush 410, 3) := by decide +kernel
theorem dX5_keep_27 : decode cX5_keep 27 = .ok (.if_icmp .ge 27, 3) := by decide +kernel
theorem dX5_keep_30 : decode cX5_keep 30 = .ok (.aload_n 0, 1) := by decide +kernel
theorem dX5_keep_31 : decode cX5_keep 31 = .ok (.getfield 48, 3) := by decide +kernel
theorem dX5_keep_34 : decode cX5_keep 34 = .ok (.sipush 410, 3) := by decide +kernel
theorem dX5_keep_37 : decode cX5_keep 37 = .ok (.iload_n 1, 1) := by decide +kernel
theorem dX5_keep_38 : decode cX5_keep 38 = .ok (.imul, 1) := by decide +kernel
theorem dX5_keep_39 : decode cX5_keep 39 = .ok (.iload_n 2, 1) := by decide +kernel
theorem dX5_keep_40 : decode cX5_keep 40 = .ok (.iadd, 1) := by decide +kernel
theorem dX5_keep_41 : decode cX5_keep 41 = .ok (.aload_n 0, 1) := by decide +kernel
theorem dX5_keep_42 : decode cX5_keep 42 = .ok (.getfield 45, 3) := by decide +kernel
theorem dX5_keep_45 : decode cX5_keep 45 = .ok (.iload_n 2, 1) := by decide +kernel
theorem dX5_keep_46 : decode cX5_keep 46 = .ok (.iaload, 1) := by decide +kernel
theorem dX5_keep_47 : decode cX5_keep 47 = .ok (.iastore, 1) := by decide +kernel
theorem dX5_keep_48 : decode cX5_keep 48 = .ok (.iinc 2 1, 3) := by decide +kernel
theorem dX5_keep_51 : decode cX5_keep 51 = .ok (.goto (-28), 3) := by decide +kernel
theorem dX5_keep_54 : decode cX5_keep 54 = .ok (.aload_n 0, 1) := by decide +kernel
theorem dX5_keep_55 : decode cX5_keep 55 = .ok (.getfield 51, 3) := by decide +kernel
theorem dX5_keep_58 : decode cX5_keep 58 = .ok (.iload_n 1, 1) := by decide +kernel
theorem dX5_keep_59 : decode cX5_keep 59 = .ok (.aload_n 0, 1) := by decide +kernel
theorem dX5_keep_60 : decode cX5_keep 60 = .ok (.getfield 119, 3) := by decide +kernel
theorem dX5_keep_63 : decode cX5_keep 63 = .ok (.iastore, 1) := by decide +kernel
theorem dX5_keep_64 : decode cX5_keep 64 = .ok (.aload_n 0, 1) := by decide +kernel
theorem dX5_keep_65 : decode cX5_keep 65 = .ok (.getfield 119, 3) := by decide +kernel
theorem dX5_keep_68 : decode cX5_keep 68 = .ok (.ireturn, 1) := by decide +kernel
theorem dX5_on_0 : decode cX5_on 0 = .ok (.iload_n 1, 1) := by decide +kernel
theorem dX5_on_1 : decode cX5_on 1 = .ok (.iconst 0, 1) := by decide +kernel
theorem dX5_on_2 : decode cX5_on 2 = .ok (.iconst 2, 1) := by decide +kernel
theorem dX5_on_3 : decode cX5_on 3 = .ok (.invokestatic 88, 3) := by decide +kernel
theorem dX5_on_6 : decode cX5_on 6 = .ok (.ifCond .ne 5, 3) := by decide +kernel
theorem dX5_on_9 : decode cX5_on 9 = .ok (.iconst (-1), 1) := by decide +kernel
theorem dX5_on_10 : decode cX5_on 10 = .ok (.ireturn, 1) := by decide +kernel
theorem dX5_on_11 : decode cX5_on 11 = .ok (.aload_n 0, 1) := by decide +kernel
theorem dX5_on_12 : decode cX5_on 12 = .ok (.getfield 51, 3) := by decide +kernel
theorem dX5_on_15 : decode cX5_on 15 = .ok (.iload_n 1, 1) := by decide +kernel
theorem dX5_on_16 : decode cX5_on 16 = .ok (.iaload, 1) := by decide +kernel
theorem dX5_on_17 : decode cX5_on 17 = .ok (.ifCond .ge 9, 3) := by decide +kernel
theorem dX5_on_20 : decode cX5_on 20 = .ok (.aload_n 0, 1) := by decide +kernel
theorem dX5_on_21 : decode cX5_on 21 = .ok (.iconst 1, 1) := by decide +kernel
theorem dX5_on_22 : decode cX5_on 22 = .ok (.invokevirtual 96, 3) := by decide +kernel
theorem dX5_on_25 : decode cX5_on 25 = .ok (.ireturn, 1) := by decide +kernel
theorem dX5_on_26 : decode cX5_on 26 = .ok (.iconst 0, 1) := by decide +kernel
theorem dX5_on_27 : decode cX5_on 27 = .ok (.istore_n 2, 1) := by decide +kernel
theorem dX5_on_28 : decode cX5_on 28 = .ok (.iload_n 2, 1) := by decide +kernel
theorem dX5_on_29 : decode cX5_on 29 = .ok (.sipush 410, 3) := by decide +kernel
theorem dX5_on_32 : decode cX5_on 32 = .ok (.if_icmp .ge 27, 3) := by decide +kernel
theorem dX5_on_35 : decode cX5_on 35 = .ok (.aload_n 0, 1) := by decide +kernel
theorem dX5_on_36 : decode cX5_on 36 = .ok (.getfield 45, 3) := by decide +kernel
theorem dX5_on_39 : decode cX5_on 39 = .ok (.iload_n 2, 1) := by decide +kernel
theorem dX5_on_40 : decode cX5_on 40 = .ok (.aload_n 0, 1) := by decide +kernel
theorem dX5_on_41 : decode cX5_on 41 = .ok (.getfield 48, 3) := by decide +kernel
theorem dX5_on_44 : decode cX5_on 44 = .ok (.sipush 410, 3) := by decide +kernel
theorem dX5_on_47 : decode cX5_on 47 = .ok (.iload_n 1, 1) := by decide +kernel
theorem dX5_on_48 : decode cX5_on 48 = .ok (.imul, 1) := by decide +kernel
theorem dX5_on_49 : decode cX5_on 49 = .ok (.iload_n 2, 1) := by decide +kernel
theorem dX5_on_50 : decode cX5_on 50 = .ok (.iadd, 1) := by decide +kernel
theorem dX5_on_51 : decode cX5_on 51 = .ok (.iaload, 1) := by decide +kernel
theorem dX5_on_52 : decode cX5_on 52 = .ok (.iastore, 1) := by decide +kernel
theorem dX5_on_53 : decode cX5_on 53 = .ok (.iinc 2 1, 3) := by decide +kernel
theorem dX5_on_56 : decode cX5_on 56 = .ok (.goto (-28), 3) := by decide +kernel
theorem dX5_on_59 : decode cX5_on 59 = .ok (.aload_n 0, 1) := by decide +kernel
theorem dX5_on_60 : decode cX5_on 60 = .ok (.aload_n 0, 1) := by decide +kernel
theorem dX5_on_61 : decode cX5_on 61 = .ok (.getfield 51, 3) := by decide +kernel
theorem dX5_on_64 : decode cX5_on 64 = .ok (.iload_n 1, 1) := by decide +kernel
theorem dX5_on_65 : decode cX5_on 65 = .ok (.iaload, 1) := by decide +kernel
theorem dX5_on_66 : decode cX5_on 66 = .ok (.putfield 119, 3) := by decide +kernel
theorem dX5_on_69 : decode cX5_on 69 = .ok (.aload_n 0, 1) := by decide +kernel
theorem dX5_on_70 : decode cX5_on 70 = .ok (.getfield 119, 3) := by decide +kernel
theorem dX5_on_73 : decode cX5_on 73 = .ok (.ireturn, 1) := by decide +kernel
theorem dX5_told_0 : decode cX5_told 0 = .ok (.aload_n 0, 1) := by decide +kernel
theorem dX5_told_1 : decode cX5_told 1 = .ok (.invokevirtual 146, 3) := by decide +kernel
theorem dX5_told_4 : decode cX5_told 4 = .ok (.istore_n 1, 1) := by decide +kernel
theorem dX5_told_5 : decode cX5_told 5 = .ok (.aload_n 0, 1) := by decide +kernel
theorem dX5_told_6 : decode cX5_told 6 = .ok (.iload_n 1, 1) := by decide +kernel
theorem dX5_told_7 : decode cX5_told 7 = .ok (.aload_n 0, 1) := by decide +kernel
theorem dX5_told_8 : decode cX5_told 8 = .ok (.iconst 0, 1) := by decide +kernel
theorem dX5_told_9 : decode cX5_told 9 = .ok (.invokevirtual 122, 3) := by decide +kernel
theorem dX5_told_12 : decode cX5_told 12 = .ok (.iconst (-1), 1) := by decide +kernel
theorem dX5_told_13 : decode cX5_told 13 = .ok (.ixor, 1) := by decide +kernel
theorem dX5_told_14 : decode cX5_told 14 = .ok (.iand, 1) := by decide +kernel
theorem dX5_told_15 : decode cX5_told 15 = .ok (.invokestatic 156, 3) := by decide +kernel
theorem dX5_told_18 : decode cX5_told 18 = .ok (.invokevirtual 100, 3) := by decide +kernel
theorem dX5_told_21 : decode cX5_told 21 = .ok (.pop, 1) := by decide +kernel
theorem dX5_told_22 : decode cX5_told 22 = .ok (.iload_n 1, 1) := by decide +kernel
theorem dX5_told_23 : decode cX5_told 23 = .ok (.ireturn, 1) := by decide +kernel
theorem dX5_ghosts_0 : decode cX5_ghosts 0 = .ok (.aload_n 0, 1) := by decide +kernel
theorem dX5_ghosts_1 : decode cX5_ghosts 1 = .ok (.invokevirtual 146, 3) := by decide +kernel
theorem dX5_ghosts_4 : decode cX5_ghosts 4 = .ok (.istore_n 1, 1) := by decide +kernel
theorem dX5_ghosts_5 : decode cX5_ghosts 5 = .ok (.aload_n 0, 1) := by decide +kernel
theorem dX5_ghosts_6 : decode cX5_ghosts 6 = .ok (.aload_n 0, 1) := by decide +kernel
theorem dX5_ghosts_7 : decode cX5_ghosts 7 = .ok (.iconst 0, 1) := by decide +kernel
theorem dX5_ghosts_8 : decode cX5_ghosts 8 = .ok (.invokevirtual 122, 3) := by decide +kernel
theorem dX5_ghosts_11 : decode cX5_ghosts 11 = .ok (.iload_n 1, 1) := by decide +kernel
theorem dX5_ghosts_12 : decode cX5_ghosts 12 = .ok (.iconst (-1), 1) := by decide +kernel
theorem dX5_ghosts_13 : decode cX5_ghosts 13 = .ok (.ixor, 1) := by decide +kernel
theorem dX5_ghosts_14 : decode cX5_ghosts 14 = .ok (.iand, 1) := by decide +kernel
theorem dX5_ghosts_15 : decode cX5_ghosts 15 = .ok (.invokevirtual 100, 3) := by decide +kernel
theorem dX5_ghosts_18 : decode cX5_ghosts 18 = .ok (.pop, 1) := by decide +kernel
theorem dX5_ghosts_19 : decode cX5_ghosts 19 = .ok (.iload_n 1, 1) := by decide +kernel
theorem dX5_ghosts_20 : decode cX5_ghosts 20 = .ok (.aload_n 0, 1) := by decide +kernel
theorem dX5_ghosts_21 : decode cX5_ghosts 21 = .ok (.iconst 0, 1) := by decide +kernel
theorem dX5_ghosts_22 : decode cX5_ghosts 22 = .ok (.invokevirtual 122, 3) := by decide +kernel
theorem dX5_ghosts_25 : decode cX5_ghosts 25 = .ok (.iconst (-1), 1) := by decide +kernel
theorem dX5_ghosts_26 : decode cX5_ghosts 26 = .ok (.ixor, 1) := by decide +kernel
theorem dX5_ghosts_27 : decode cX5_ghosts 27 = .ok (.iand, 1) := by decide +kernel
theorem dX5_ghosts_28 : decode cX5_ghosts 28 = .ok (.ireturn, 1) := by decide +kernel
theorem dX5_later_0 : decode cX5_later 0 = .ok (.iload_n 1, 1) := by decide +kernel
theorem dX5_later_1 : decode cX5_later 1 = .ok (.iconst 0, 1) := by decide +kernel
theorem dX5_later_2 : decode cX5_later 2 = .ok (.bipush 20, 2) := by decide +kernel
theorem dX5_later_4 : decode cX5_later 4 = .ok (.invokestatic 88, 3) := by decide +kernel
theorem dX5_later_7 : decode cX5_later 7 = .ok (.ifCond .ne 5, 3) := by decide +kernel
theorem dX5_later_10 : decode cX5_later 10 = .ok (.iconst (-1), 1) := by decide +kernel
theorem dX5_later_11 : decode cX5_later 11 = .ok (.ireturn, 1) := by decide +kernel
theorem dX5_later_12 : decode cX5_later 12 = .ok (.aload_n 0, 1) := by decide +kernel
theorem dX5_later_13 : decode cX5_later 13 = .ok (.getfield 116, 3) := by decide +kernel
theorem dX5_later_16 : decode cX5_later 16 = .ok (.ifCond .ne 6, 3) := by decide +kernel
theorem dX5_later_19 : decode cX5_later 19 = .ok (.bipush (-4), 2) := by decide +kernel
theorem dX5_later_21 : decode cX5_later 21 = .ok (.ireturn, 1) := by decide +kernel
theorem dX5_later_22 : decode cX5_later 22 = .ok (.aload_n 0, 1) := by decide +kernel
theorem dX5_later_23 : decode cX5_later 23 = .ok (.invokevirtual 139, 3) := by decide +kernel
theorem dX5_later_26 : decode cX5_later 26 = .ok (.iconst 0, 1) := by decide +kernel
theorem dX5_later_27 : decode cX5_later 27 = .ok (.istore_n 2, 1) := by decide +kernel
theorem dX5_later_28 : decode cX5_later 28 = .ok (.iconst 0, 1) := by decide +kernel
theorem dX5_later_29 : decode cX5_later 29 = .ok (.istore_n 3, 1) := by decide +kernel
theorem dX5_later_30 : decode cX5_later 30 = .ok (.iload_n 3, 1) := by decide +kernel
theorem dX5_later_31 : decode cX5_later 31 = .ok (.iload_n 1, 1) := by decide +kernel
theorem dX5_later_32 : decode cX5_later 32 = .ok (.if_icmp .gt 87, 3) := by decide +kernel
theorem dX5_later_35 : decode cX5_later 35 = .ok (.aload_n 0, 1) := by decide +kernel
theorem dX5_later_36 : decode cX5_later 36 = .ok (.getfield 69, 3) := by decide +kernel
theorem dX5_later_39 : decode cX5_later 39 = .ok (.iload_n 3, 1) := by decide +kernel
theorem dX5_later_40 : decode cX5_later 40 = .ok (.aload_n 0, 1) := by decide +kernel
theorem dX5_later_41 : decode cX5_later 41 = .ok (.invokevirtual 142, 3) := by decide +kernel
theorem dX5_later_44 : decode cX5_later 44 = .ok (.iastore, 1) := by decide +kernel
theorem dX5_later_45 : decode cX5_later 45 = .ok (.iconst 1, 1) := by decide +kernel
theorem dX5_later_46 : decode cX5_later 46 = .ok (.istore 4, 2) := by decide +kernel
theorem dX5_later_48 : decode cX5_later 48 = .ok (.iconst 0, 1) := by decide +kernel
theorem dX5_later_49 : decode cX5_later 49 = .ok (.istore 5, 2) := by decide +kernel
theorem dX5_later_51 : decode cX5_later 51 = .ok (.iload 5, 2) := by decide +kernel
theorem dX5_later_53 : decode cX5_later 53 = .ok (.iload_n 3, 1) := by decide +kernel
theorem dX5_later_54 : decode cX5_later 54 = .ok (.if_icmp .ge 37, 3) := by decide +kernel
theorem dX5_later_57 : decode cX5_later 57 = .ok (.iload 4, 2) := by decide +kernel
theorem dX5_later_59 : decode cX5_later 59 = .ok (.ifCond .eq 23, 3) := by decide +kernel
theorem dX5_later_62 : decode cX5_later 62 = .ok (.aload_n 0, 1) := by decide +kernel
theorem dX5_later_63 : decode cX5_later 63 = .ok (.getfield 69, 3) := by decide +kernel
theorem dX5_later_66 : decode cX5_later 66 = .ok (.iload 5, 2) := by decide +kernel
theorem dX5_later_68 : decode cX5_later 68 = .ok (.iaload, 1) := by decide +kernel
theorem dX5_later_69 : decode cX5_later 69 = .ok (.aload_n 0, 1) := by decide +kernel
theorem dX5_later_70 : decode cX5_later 70 = .ok (.getfield 69, 3) := by decide +kernel
theorem dX5_later_73 : decode cX5_later 73 = .ok (.iload_n 3, 1) := by decide +kernel
theorem dX5_later_74 : decode cX5_later 74 = .ok (.iaload, 1) := by decide +kernel
theorem dX5_later_75 : decode cX5_later 75 = .ok (.if_icmp .eq 7, 3) := by decide +kernel
theorem dX5_later_78 : decode cX5_later 78 = .ok (.iconst 1, 1) := by decide +kernel
theorem dX5_later_79 : decode cX5_later 79 = .ok (.goto 4, 3) := by decide +kernel
theorem dX5_later_82 : decode cX5_later 82 = .ok (.iconst 0, 1) := by decide +kernel
theorem dX5_later_83 : decode cX5_later 83 = .ok (.istore 4, 2) := by decide +kernel
theorem dX5_later_85 : decode cX5_later 85 = .ok (.iinc 5 1, 3) := by decide +kernel
theorem dX5_later_88 : decode cX5_later 88 = .ok (.goto (-37), 3) := by decide +kernel
theorem dX5_later_91 : decode cX5_later 91 = .ok (.iload_n 2, 1) := by decide +kernel
theorem dX5_later_92 : decode cX5_later 92 = .ok (.iload 4, 2) := by decide +kernel
theorem dX5_later_94 : decode cX5_later 94 = .ok (.ifCond .eq 7, 3) := by decide +kernel
theorem dX5_later_97 : decode cX5_later 97 = .ok (.iconst 1, 1) := by decide +kernel
theorem dX5_later_98 : decode cX5_later 98 = .ok (.goto 4, 3) := by decide +kernel
theorem dX5_later_101 : decode cX5_later 101 = .ok (.iconst 0, 1) := by decide +kernel
theorem dX5_later_102 : decode cX5_later 102 = .ok (.iadd, 1) := by decide +kernel
theorem dX5_later_103 : decode cX5_later 103 = .ok (.istore_n 2, 1) := by decide +kernel
theorem dX5_later_104 : decode cX5_later 104 = .ok (.aload_n 0, 1) := by decide +kernel
theorem dX5_later_105 : decode cX5_later 105 = .ok (.aload_n 0, 1) := by decide +kernel
theorem dX5_later_106 : decode cX5_later 106 = .ok (.getfield 54, 3) := by decide +kernel
theorem dX5_later_109 : decode cX5_later 109 = .ok (.iconst 0, 1) := by decide +kernel
theorem dX5_later_110 : decode cX5_later 110 = .ok (.invokevirtual 172, 3) := by decide +kernel
theorem dX5_later_113 : decode cX5_later 113 = .ok (.iinc 3 1, 3) := by decide +kernel
theorem dX5_later_116 : decode cX5_later 116 = .ok (.goto (-86), 3) := by decide +kernel
theorem dX5_later_119 : decode cX5_later 119 = .ok (.aload_n 0, 1) := by decide +kernel
theorem dX5_later_120 : decode cX5_later 120 = .ok (.iload_n 2, 1) := by decide +kernel
theorem dX5_later_121 : decode cX5_later 121 = .ok (.invokevirtual 100, 3) := by decide +kernel
theorem dX5_later_124 : decode cX5_later 124 = .ok (.pop, 1) := by decide +kernel
theorem dX5_later_125 : decode cX5_later 125 = .ok (.aload_n 0, 1) := by decide +kernel
theorem dX5_later_126 : decode cX5_later 126 = .ok (.getfield 69, 3) := by decide +kernel
theorem dX5_later_129 : decode cX5_later 129 = .ok (.iload_n 1, 1) := by decide +kernel
theorem dX5_later_130 : decode cX5_later 130 = .ok (.iaload, 1) := by decide +kernel
theorem dX5_later_131 : decode cX5_later 131 = .ok (.ireturn, 1) := by decide +kernel
theorem dX5_would_0 : decode cX5_would 0 = .ok (.aload_n 0, 1) := by decide +kernel
theorem dX5_would_1 : decode cX5_would 1 = .ok (.iload_n 1, 1) := by decide +kernel
theorem dX5_would_2 : decode cX5_would 2 = .ok (.invokevirtual 176, 3) := by decide +kernel
theorem dX5_would_5 : decode cX5_would 5 = .ok (.ifCond .ne 5, 3) := by decide +kernel
theorem dX5_would_8 : decode cX5_would 8 = .ok (.iconst (-1), 1) := by decide +kernel
theorem dX5_would_9 : decode cX5_would 9 = .ok (.ireturn, 1) := by decide +kernel
theorem dX5_would_10 : decode cX5_would 10 = .ok (.aload_n 0, 1) := by decide +kernel
theorem dX5_would_11 : decode cX5_would 11 = .ok (.getfield 116, 3) := by decide +kernel
theorem dX5_would_14 : decode cX5_would 14 = .ok (.ifCond .ne 6, 3) := by decide +kernel
theorem dX5_would_17 : decode cX5_would 17 = .ok (.bipush (-4), 2) := by decide +kernel
theorem dX5_would_19 : decode cX5_would 19 = .ok (.ireturn, 1) := by decide +kernel
theorem dX5_would_20 : decode cX5_would 20 = .ok (.aload_n 0, 1) := by decide +kernel
theorem dX5_would_21 : decode cX5_would 21 = .ok (.invokevirtual 139, 3) := by decide +kernel
theorem dX5_would_24 : decode cX5_would 24 = .ok (.aload_n 0, 1) := by decide +kernel
theorem dX5_would_25 : decode cX5_would 25 = .ok (.iload_n 1, 1) := by decide +kernel
theorem dX5_would_26 : decode cX5_would 26 = .ok (.invokevirtual 179, 3) := by decide +kernel
theorem dX5_would_29 : decode cX5_would 29 = .ok (.ireturn, 1) := by decide +kernel
theorem dX5_haunts_0 : decode cX5_haunts 0 = .ok (.aload_n 0, 1) := by decide +kernel
theorem dX5_haunts_1 : decode cX5_haunts 1 = .ok (.iload_n 1, 1) := by decide +kernel
theorem dX5_haunts_2 : decode cX5_haunts 2 = .ok (.invokevirtual 149, 3) := by decide +kernel
theorem dX5_haunts_5 : decode cX5_haunts 5 = .ok (.ifCond .ne 5, 3) := by decide +kernel
theorem dX5_haunts_8 : decode cX5_haunts 8 = .ok (.iconst (-1), 1) := by decide +kernel
theorem dX5_haunts_9 : decode cX5_haunts 9 = .ok (.ireturn, 1) := by decide +kernel
theorem dX5_haunts_10 : decode cX5_haunts 10 = .ok (.aload_n 0, 1) := by decide +kernel
theorem dX5_haunts_11 : decode cX5_haunts 11 = .ok (.invokevirtual 139, 3) := by decide +kernel
theorem dX5_haunts_14 : decode cX5_haunts 14 = .ok (.bipush (-9), 2) := by decide +kernel
theorem dX5_haunts_16 : decode cX5_haunts 16 = .ok (.istore_n 2, 1) := by decide +kernel
theorem dX5_haunts_17 : decode cX5_haunts 17 = .ok (.iconst 0, 1) := by decide +kernel
theorem dX5_haunts_18 : decode cX5_haunts 18 = .ok (.istore_n 3, 1) := by decide +kernel
theorem dX5_haunts_19 : decode cX5_haunts 19 = .ok (.iload_n 3, 1) := by decide +kernel
theorem dX5_haunts_20 : decode cX5_haunts 20 = .ok (.iconst 1, 1) := by decide +kernel
theorem dX5_haunts_21 : decode cX5_haunts 21 = .ok (.aload_n 0, 1) := by decide +kernel
theorem dX5_haunts_22 : decode cX5_haunts 22 = .ok (.getfield 116, 3) := by decide +kernel
theorem dX5_haunts_25 : decode cX5_haunts 25 = .ok (.ishl, 1) := by decide +kernel
theorem dX5_haunts_26 : decode cX5_haunts 26 = .ok (.if_icmp .ge 64, 3) := by decide +kernel
theorem dX5_haunts_29 : decode cX5_haunts 29 = .ok (.iload_n 3, 1) := by decide +kernel
theorem dX5_haunts_30 : decode cX5_haunts 30 = .ok (.iload_n 1, 1) := by decide +kernel
theorem dX5_haunts_31 : decode cX5_haunts 31 = .ok (.invokestatic 125, 3) := by decide +kernel
theorem dX5_haunts_34 : decode cX5_haunts 34 = .ok (.ifCond .ne 24, 3) := by decide +kernel
theorem dX5_haunts_37 : decode cX5_haunts 37 = .ok (.iload_n 2, 1) := by decide +kernel
theorem dX5_haunts_38 : decode cX5_haunts 38 = .ok (.bipush (-9), 2) := by decide +kernel
theorem dX5_haunts_40 : decode cX5_haunts 40 = .ok (.if_icmp .eq 14, 3) := by decide +kernel
theorem dX5_haunts_43 : decode cX5_haunts 43 = .ok (.iload_n 3, 1) := by decide +kernel
theorem dX5_haunts_44 : decode cX5_haunts 44 = .ok (.invokestatic 156, 3) := by decide +kernel
theorem dX5_haunts_47 : decode cX5_haunts 47 = .ok (.iload_n 2, 1) := by decide +kernel
theorem dX5_haunts_48 : decode cX5_haunts 48 = .ok (.invokestatic 156, 3) := by decide +kernel
theorem dX5_haunts_51 : decode cX5_haunts 51 = .ok (.if_icmp .ge 7, 3) := by decide +kernel
theorem dX5_haunts_54 : decode cX5_haunts 54 = .ok (.iconst 1, 1) := by decide +kernel
theorem dX5_haunts_55 : decode cX5_haunts 55 = .ok (.goto 4, 3) := by decide +kernel
theorem dX5_haunts_58 : decode cX5_haunts 58 = .ok (.iconst 0, 1) := by decide +kernel
theorem dX5_haunts_59 : decode cX5_haunts 59 = .ok (.istore 4, 2) := by decide +kernel
theorem dX5_haunts_61 : decode cX5_haunts 61 = .ok (.iload 4, 2) := by decide +kernel
theorem dX5_haunts_63 : decode cX5_haunts 63 = .ok (.ifCond .eq 19, 3) := by decide +kernel
theorem dX5_haunts_66 : decode cX5_haunts 66 = .ok (.aload_n 0, 1) := by decide +kernel
theorem dX5_haunts_67 : decode cX5_haunts 67 = .ok (.iload_n 3, 1) := by decide +kernel
theorem dX5_haunts_68 : decode cX5_haunts 68 = .ok (.invokevirtual 179, 3) := by decide +kernel
theorem dX5_haunts_71 : decode cX5_haunts 71 = .ok (.iload_n 1, 1) := by decide +kernel
theorem dX5_haunts_72 : decode cX5_haunts 72 = .ok (.invokestatic 125, 3) := by decide +kernel
theorem dX5_haunts_75 : decode cX5_haunts 75 = .ok (.ifCond .eq 7, 3) := by decide +kernel
theorem dX5_haunts_78 : decode cX5_haunts 78 = .ok (.iload_n 3, 1) := by decide +kernel
theorem dX5_haunts_79 : decode cX5_haunts 79 = .ok (.goto 4, 3) := by decide +kernel
theorem dX5_haunts_82 : decode cX5_haunts 82 = .ok (.iload_n 2, 1) := by decide +kernel
theorem dX5_haunts_83 : decode cX5_haunts 83 = .ok (.istore_n 2, 1) := by decide +kernel
theorem dX5_haunts_84 : decode cX5_haunts 84 = .ok (.iinc 3 1, 3) := by decide +kernel
theorem dX5_haunts_87 : decode cX5_haunts 87 = .ok (.goto (-68), 3) := by decide +kernel
theorem dX5_haunts_90 : decode cX5_haunts 90 = .ok (.iload_n 2, 1) := by decide +kernel
theorem dX5_haunts_91 : decode cX5_haunts 91 = .ok (.bipush (-9), 2) := by decide +kernel
theorem dX5_haunts_93 : decode cX5_haunts 93 = .ok (.if_icmp .eq 12, 3) := by decide +kernel
theorem dX5_haunts_96 : decode cX5_haunts 96 = .ok (.aload_n 0, 1) := by decide +kernel
theorem dX5_haunts_97 : decode cX5_haunts 97 = .ok (.iload_n 2, 1) := by decide +kernel
theorem dX5_haunts_98 : decode cX5_haunts 98 = .ok (.invokestatic 156, 3) := by decide +kernel
theorem dX5_haunts_101 : decode cX5_haunts 101 = .ok (.invokevirtual 100, 3) := by decide +kernel
theorem dX5_haunts_104 : decode cX5_haunts 104 = .ok (.pop, 1) := by decide +kernel
theorem dX5_haunts_105 : decode cX5_haunts 105 = .ok (.iload_n 2, 1) := by decide +kernel
theorem dX5_haunts_106 : decode cX5_haunts 106 = .ok (.ireturn, 1) := by decide +kernel
theorem dX5_rightSets_0 : decode cX5_rightSets 0 = .ok (.iconst 0, 1) := by decide +kernel
theorem dX5_rightSets_1 : decode cX5_rightSets 1 = .ok (.istore_n 1, 1) := by decide +kernel
theorem dX5_rightSets_2 : decode cX5_rightSets 2 = .ok (.iconst 0, 1) := by decide +kernel
theorem dX5_rightSets_3 : decode cX5_rightSets 3 = .ok (.istore_n 2, 1) := by decide +kernel
theorem dX5_rightSets_4 : decode cX5_rightSets 4 = .ok (.iload_n 2, 1) := by decide +kernel
theorem dX5_rightSets_5 : decode cX5_rightSets 5 = .ok (.iconst 1, 1) := by decide +kernel
theorem dX5_rightSets_6 : decode cX5_rightSets 6 = .ok (.aload_n 0, 1) := by decide +kernel
theorem dX5_rightSets_7 : decode cX5_rightSets 7 = .ok (.getfield 116, 3) := by decide +kernel
theorem dX5_rightSets_10 : decode cX5_rightSets 10 = .ok (.ishl, 1) := by decide +kernel
theorem dX5_rightSets_11 : decode cX5_rightSets 11 = .ok (.if_icmp .ge 26, 3) := by decide +kernel
theorem dX5_rightSets_14 : decode cX5_rightSets 14 = .ok (.iload_n 1, 1) := by decide +kernel
theorem dX5_rightSets_15 : decode cX5_rightSets 15 = .ok (.aload_n 0, 1) := by decide +kernel
theorem dX5_rightSets_16 : decode cX5_rightSets 16 = .ok (.iload_n 2, 1) := by decide +kernel
theorem dX5_rightSets_17 : decode cX5_rightSets 17 = .ok (.invokevirtual 179, 3) := by decide +kernel
theorem dX5_rightSets_20 : decode cX5_rightSets 20 = .ok (.iload_n 2, 1) := by decide +kernel
theorem dX5_rightSets_21 : decode cX5_rightSets 21 = .ok (.if_icmp .ne 7, 3) := by decide +kernel
theorem dX5_rightSets_24 : decode cX5_rightSets 24 = .ok (.iconst 1, 1) := by decide +kernel
theorem dX5_rightSets_25 : decode cX5_rightSets 25 = .ok (.goto 4, 3) := by decide +kernel
theorem dX5_rightSets_28 : decode cX5_rightSets 28 = .ok (.iconst 0, 1) := by decide +kernel
theorem dX5_rightSets_29 : decode cX5_rightSets 29 = .ok (.iadd, 1) := by decide +kernel
theorem dX5_rightSets_30 : decode cX5_rightSets 30 = .ok (.istore_n 1, 1) := by decide +kernel
theorem dX5_rightSets_31 : decode cX5_rightSets 31 = .ok (.iinc 2 1, 3) := by decide +kernel
theorem dX5_rightSets_34 : decode cX5_rightSets 34 = .ok (.goto (-30), 3) := by decide +kernel
theorem dX5_rightSets_37 : decode cX5_rightSets 37 = .ok (.iload_n 1, 1) := by decide +kernel
theorem dX5_rightSets_38 : decode cX5_rightSets 38 = .ok (.ireturn, 1) := by decide +kernel
theorem dX5_right_0 : decode cX5_right 0 = .ok (.aload_n 0, 1) := by decide +kernel
theorem dX5_right_1 : decode cX5_right 1 = .ok (.getfield 116, 3) := by decide +kernel
theorem dX5_right_4 : decode cX5_right 4 = .ok (.ifCond .ne 6, 3) := by decide +kernel
theorem dX5_right_7 : decode cX5_right 7 = .ok (.bipush (-4), 2) := by decide +kernel
theorem dX5_right_9 : decode cX5_right 9 = .ok (.ireturn, 1) := by decide +kernel
theorem dX5_right_10 : decode cX5_right 10 = .ok (.aload_n 0, 1) := by decide +kernel
theorem dX5_right_11 : decode cX5_right 11 = .ok (.invokevirtual 139, 3) := by decide +kernel
theorem dX5_right_14 : decode cX5_right 14 = .ok (.aload_n 0, 1) := by decide +kernel
theorem dX5_right_15 : decode cX5_right 15 = .ok (.getfield 116, 3) := by decide +kernel
theorem dX5_right_18 : decode cX5_right 18 = .ok (.istore_n 1, 1) := by decide +kernel
theorem dX5_right_19 : decode cX5_right 19 = .ok (.iconst 0, 1) := by decide +kernel
theorem dX5_right_20 : decode cX5_right 20 = .ok (.istore_n 2, 1) := by decide +kernel
theorem dX5_right_21 : decode cX5_right 21 = .ok (.iload_n 2, 1) := by decide +kernel
theorem dX5_right_22 : decode cX5_right 22 = .ok (.iconst 1, 1) := by decide +kernel
theorem dX5_right_23 : decode cX5_right 23 = .ok (.aload_n 0, 1) := by decide +kernel
theorem dX5_right_24 : decode cX5_right 24 = .ok (.getfield 116, 3) := by decide +kernel
theorem dX5_right_27 : decode cX5_right 27 = .ok (.ishl, 1) := by decide +kernel
theorem dX5_right_28 : decode cX5_right 28 = .ok (.if_icmp .ge 47, 3) := by decide +kernel
theorem dX5_right_31 : decode cX5_right 31 = .ok (.aload_n 0, 1) := by decide +kernel
theorem dX5_right_32 : decode cX5_right 32 = .ok (.iload_n 2, 1) := by decide +kernel
theorem dX5_right_33 : decode cX5_right 33 = .ok (.invokevirtual 179, 3) := by decide +kernel
theorem dX5_right_36 : decode cX5_right 36 = .ok (.iload_n 2, 1) := by decide +kernel
theorem dX5_right_37 : decode cX5_right 37 = .ok (.if_icmp .eq 7, 3) := by decide +kernel
theorem dX5_right_40 : decode cX5_right 40 = .ok (.iconst 1, 1) := by decide +kernel
theorem dX5_right_41 : decode cX5_right 41 = .ok (.goto 4, 3) := by decide +kernel
theorem dX5_right_44 : decode cX5_right 44 = .ok (.iconst 0, 1) := by decide +kernel
theorem dX5_right_45 : decode cX5_right 45 = .ok (.istore_n 3, 1) := by decide +kernel
theorem dX5_right_46 : decode cX5_right 46 = .ok (.iload_n 3, 1) := by decide +kernel
theorem dX5_right_47 : decode cX5_right 47 = .ok (.ifCond .eq 20, 3) := by decide +kernel
theorem dX5_right_50 : decode cX5_right 50 = .ok (.iload_n 2, 1) := by decide +kernel
theorem dX5_right_51 : decode cX5_right 51 = .ok (.invokestatic 156, 3) := by decide +kernel
theorem dX5_right_54 : decode cX5_right 54 = .ok (.iload_n 1, 1) := by decide +kernel
theorem dX5_right_55 : decode cX5_right 55 = .ok (.if_icmp .gt 12, 3) := by decide +kernel
theorem dX5_right_58 : decode cX5_right 58 = .ok (.iload_n 2, 1) := by decide +kernel
theorem dX5_right_59 : decode cX5_right 59 = .ok (.invokestatic 156, 3) := by decide +kernel
theorem dX5_right_62 : decode cX5_right 62 = .ok (.iconst 1, 1) := by decide +kernel
theorem dX5_right_63 : decode cX5_right 63 = .ok (.isub, 1) := by decide +kernel
theorem dX5_right_64 : decode cX5_right 64 = .ok (.goto 4, 3) := by decide +kernel
theorem dX5_right_67 : decode cX5_right 67 = .ok (.iload_n 1, 1) := by decide +kernel
theorem dX5_right_68 : decode cX5_right 68 = .ok (.istore_n 1, 1) := by decide +kernel
theorem dX5_right_69 : decode cX5_right 69 = .ok (.iinc 2 1, 3) := by decide +kernel
theorem dX5_right_72 : decode cX5_right 72 = .ok (.goto (-51), 3) := by decide +kernel
theorem dX5_right_75 : decode cX5_right 75 = .ok (.aload_n 0, 1) := by decide +kernel
theorem dX5_right_76 : decode cX5_right 76 = .ok (.iload_n 1, 1) := by decide +kernel
theorem dX5_right_77 : decode cX5_right 77 = .ok (.invokevirtual 100, 3) := by decide +kernel
theorem dX5_right_80 : decode cX5_right 80 = .ok (.pop, 1) := by decide +kernel
theorem dX5_right_81 : decode cX5_right 81 = .ok (.aload_n 0, 1) := by decide +kernel
theorem dX5_right_82 : decode cX5_right 82 = .ok (.invokevirtual 182, 3) := by decide +kernel
theorem dX5_right_85 : decode cX5_right 85 = .ok (.ireturn, 1) := by decide +kernel
theorem dX5_alike_0 : decode cX5_alike 0 = .ok (.aload_n 0, 1) := by decide +kernel
theorem dX5_alike_1 : decode cX5_alike 1 = .ok (.getfield 116, 3) := by decide +kernel
theorem dX5_alike_4 : decode cX5_alike 4 = .ok (.ifCond .ne 6, 3) := by decide +kernel
theorem dX5_alike_7 : decode cX5_alike 7 = .ok (.bipush (-4), 2) := by decide +kernel
theorem dX5_alike_9 : decode cX5_alike 9 = .ok (.ireturn, 1) := by decide +kernel
theorem dX5_alike_10 : decode cX5_alike 10 = .ok (.aload_n 0, 1) := by decide +kernel
theorem dX5_alike_11 : decode cX5_alike 11 = .ok (.invokevirtual 146, 3) := by decide +kernel
theorem dX5_alike_14 : decode cX5_alike 14 = .ok (.istore_n 1, 1) := by decide +kernel
theorem dX5_alike_15 : decode cX5_alike 15 = .ok (.iconst 0, 1) := by decide +kernel
theorem dX5_alike_16 : decode cX5_alike 16 = .ok (.istore_n 2, 1) := by decide +kernel
theorem dX5_alike_17 : decode cX5_alike 17 = .ok (.bipush (-9), 2) := by decide +kernel
theorem dX5_alike_19 : decode cX5_alike 19 = .ok (.istore_n 3, 1) := by decide +kernel
theorem dX5_alike_20 : decode cX5_alike 20 = .ok (.iconst 1, 1) := by decide +kernel
theorem dX5_alike_21 : decode cX5_alike 21 = .ok (.aload_n 0, 1) := by decide +kernel
theorem dX5_alike_22 : decode cX5_alike 22 = .ok (.getfield 116, 3) := by decide +kernel
theorem dX5_alike_25 : decode cX5_alike 25 = .ok (.ishl, 1) := by decide +kernel
theorem dX5_alike_26 : decode cX5_alike 26 = .ok (.iconst 1, 1) := by decide +kernel
theorem dX5_alike_27 : decode cX5_alike 27 = .ok (.isub, 1) := by decide +kernel
theorem dX5_alike_28 : decode cX5_alike 28 = .ok (.istore 4, 2) := by decide +kernel
theorem dX5_alike_30 : decode cX5_alike 30 = .ok (.iload 4, 2) := by decide +kernel
theorem dX5_alike_32 : decode cX5_alike 32 = .ok (.ifCond .lt 25, 3) := by decide +kernel
theorem dX5_alike_35 : decode cX5_alike 35 = .ok (.aload_n 0, 1) := by decide +kernel
theorem dX5_alike_36 : decode cX5_alike 36 = .ok (.iload 4, 2) := by decide +kernel
theorem dX5_alike_38 : decode cX5_alike 38 = .ok (.invokevirtual 179, 3) := by decide +kernel
theorem dX5_alike_41 : decode cX5_alike 41 = .ok (.iload_n 1, 1) := by decide +kernel
theorem dX5_alike_42 : decode cX5_alike 42 = .ok (.if_icmp .ne 9, 3) := by decide +kernel
theorem dX5_alike_45 : decode cX5_alike 45 = .ok (.iload 4, 2) := by decide +kernel
theorem dX5_alike_47 : decode cX5_alike 47 = .ok (.istore_n 3, 1) := by decide +kernel
theorem dX5_alike_48 : decode cX5_alike 48 = .ok (.iinc 2 1, 3) := by decide +kernel
theorem dX5_alike_51 : decode cX5_alike 51 = .ok (.iinc 4 (-1), 3) := by decide +kernel
theorem dX5_alike_54 : decode cX5_alike 54 = .ok (.goto (-24), 3) := by decide +kernel
theorem dX5_alike_57 : decode cX5_alike 57 = .ok (.aload_n 0, 1) := by decide +kernel
theorem dX5_alike_58 : decode cX5_alike 58 = .ok (.iload_n 3, 1) := by decide +kernel
theorem dX5_alike_59 : decode cX5_alike 59 = .ok (.invokevirtual 100, 3) := by decide +kernel
theorem dX5_alike_62 : decode cX5_alike 62 = .ok (.pop, 1) := by decide +kernel
theorem dX5_alike_63 : decode cX5_alike 63 = .ok (.iload_n 2, 1) := by decide +kernel
theorem dX5_alike_64 : decode cX5_alike 64 = .ok (.ireturn, 1) := by decide +kernel
theorem dX5_best_0 : decode cX5_best 0 = .ok (.aload_n 0, 1) := by decide +kernel
theorem dX5_best_1 : decode cX5_best 1 = .ok (.getfield 116, 3) := by decide +kernel
theorem dX5_best_4 : decode cX5_best 4 = .ok (.ifCond .ne 6, 3) := by decide +kernel
theorem dX5_best_7 : decode cX5_best 7 = .ok (.bipush (-4), 2) := by decide +kernel
theorem dX5_best_9 : decode cX5_best 9 = .ok (.ireturn, 1) := by decide +kernel
theorem dX5_best_10 : decode cX5_best 10 = .ok (.aload_n 0, 1) := by decide +kernel
theorem dX5_best_11 : decode cX5_best 11 = .ok (.invokevirtual 139, 3) := by decide +kernel
theorem dX5_best_14 : decode cX5_best 14 = .ok (.aload_n 0, 1) := by decide +kernel
theorem dX5_best_15 : decode cX5_best 15 = .ok (.invokevirtual 182, 3) := by decide +kernel
theorem dX5_best_18 : decode cX5_best 18 = .ok (.istore_n 1, 1) := by decide +kernel
theorem dX5_best_19 : decode cX5_best 19 = .ok (.bipush (-9), 2) := by decide +kernel
theorem dX5_best_21 : decode cX5_best 21 = .ok (.istore_n 2, 1) := by decide +kernel
theorem dX5_best_22 : decode cX5_best 22 = .ok (.iconst 0, 1) := by decide +kernel
theorem dX5_best_23 : decode cX5_best 23 = .ok (.istore_n 3, 1) := by decide +kernel
theorem dX5_best_24 : decode cX5_best 24 = .ok (.iload_n 3, 1) := by decide +kernel
theorem dX5_best_25 : decode cX5_best 25 = .ok (.aload_n 0, 1) := by decide +kernel
theorem dX5_best_26 : decode cX5_best 26 = .ok (.getfield 116, 3) := by decide +kernel
theorem dX5_best_29 : decode cX5_best 29 = .ok (.if_icmp .ge 37, 3) := by decide +kernel
theorem dX5_best_32 : decode cX5_best 32 = .ok (.aload_n 0, 1) := by decide +kernel
theorem dX5_best_33 : decode cX5_best 33 = .ok (.invokevirtual 139, 3) := by decide +kernel
theorem dX5_best_36 : decode cX5_best 36 = .ok (.aload_n 0, 1) := by decide +kernel
theorem dX5_best_37 : decode cX5_best 37 = .ok (.getfield 57, 3) := by decide +kernel
theorem dX5_best_40 : decode cX5_best 40 = .ok (.iload_n 3, 1) := by decide +kernel
theorem dX5_best_41 : decode cX5_best 41 = .ok (.iconst 1, 1) := by decide +kernel
theorem dX5_best_42 : decode cX5_best 42 = .ok (.iastore, 1) := by decide +kernel
theorem dX5_best_43 : decode cX5_best 43 = .ok (.aload_n 0, 1) := by decide +kernel
theorem dX5_best_44 : decode cX5_best 44 = .ok (.invokevirtual 182, 3) := by decide +kernel
theorem dX5_best_47 : decode cX5_best 47 = .ok (.istore 4, 2) := by decide +kernel
theorem dX5_best_49 : decode cX5_best 49 = .ok (.iload 4, 2) := by decide +kernel
theorem dX5_best_51 : decode cX5_best 51 = .ok (.iload_n 1, 1) := by decide +kernel
theorem dX5_best_52 : decode cX5_best 52 = .ok (.if_icmp .le 8, 3) := by decide +kernel
theorem dX5_best_55 : decode cX5_best 55 = .ok (.iload_n 3, 1) := by decide +kernel
theorem dX5_best_56 : decode cX5_best 56 = .ok (.istore_n 2, 1) := by decide +kernel
theorem dX5_best_57 : decode cX5_best 57 = .ok (.iload 4, 2) := by decide +kernel
theorem dX5_best_59 : decode cX5_best 59 = .ok (.istore_n 1, 1) := by decide +kernel
theorem dX5_best_60 : decode cX5_best 60 = .ok (.iinc 3 1, 3) := by decide +kernel
theorem dX5_best_63 : decode cX5_best 63 = .ok (.goto (-39), 3) := by decide +kernel
theorem dX5_best_66 : decode cX5_best 66 = .ok (.iload_n 2, 1) := by decide +kernel
theorem dX5_best_67 : decode cX5_best 67 = .ok (.bipush (-9), 2) := by decide +kernel
theorem dX5_best_69 : decode cX5_best 69 = .ok (.if_icmp .eq 9, 3) := by decide +kernel
theorem dX5_best_72 : decode cX5_best 72 = .ok (.aload_n 0, 1) := by decide +kernel
theorem dX5_best_73 : decode cX5_best 73 = .ok (.iload_n 1, 1) := by decide +kernel
theorem dX5_best_74 : decode cX5_best 74 = .ok (.invokevirtual 100, 3) := by decide +kernel
theorem dX5_best_77 : decode cX5_best 77 = .ok (.pop, 1) := by decide +kernel
theorem dX5_best_78 : decode cX5_best 78 = .ok (.iload_n 2, 1) := by decide +kernel
theorem dX5_best_79 : decode cX5_best 79 = .ok (.ireturn, 1) := by decide +kernel
theorem dX5_pairs_0 : decode cX5_pairs 0 = .ok (.aload_n 0, 1) := by decide +kernel
theorem dX5_pairs_1 : decode cX5_pairs 1 = .ok (.getfield 17, 3) := by decide +kernel
theorem dX5_pairs_4 : decode cX5_pairs 4 = .ok (.iload_n 1, 1) := by decide +kernel
theorem dX5_pairs_5 : decode cX5_pairs 5 = .ok (.iaload, 1) := by decide +kernel
theorem dX5_pairs_6 : decode cX5_pairs 6 = .ok (.ifCond .ge 9, 3) := by decide +kernel
theorem dX5_pairs_9 : decode cX5_pairs 9 = .ok (.aload_n 0, 1) := by decide +kernel
theorem dX5_pairs_10 : decode cX5_pairs 10 = .ok (.iconst 1, 1) := by decide +kernel
theorem dX5_pairs_11 : decode cX5_pairs 11 = .ok (.invokevirtual 96, 3) := by decide +kernel
theorem dX5_pairs_14 : decode cX5_pairs 14 = .ok (.ireturn, 1) := by decide +kernel
theorem dX5_pairs_15 : decode cX5_pairs 15 = .ok (.aload_n 0, 1) := by decide +kernel
theorem dX5_pairs_16 : decode cX5_pairs 16 = .ok (.getfield 17, 3) := by decide +kernel
theorem dX5_pairs_19 : decode cX5_pairs 19 = .ok (.iload_n 1, 1) := by decide +kernel
theorem dX5_pairs_20 : decode cX5_pairs 20 = .ok (.iaload, 1) := by decide +kernel
theorem dX5_pairs_21 : decode cX5_pairs 21 = .ok (.iconst 2, 1) := by decide +kernel
theorem dX5_pairs_22 : decode cX5_pairs 22 = .ok (.irem, 1) := by decide +kernel
theorem dX5_pairs_23 : decode cX5_pairs 23 = .ok (.iconst 1, 1) := by decide +kernel
theorem dX5_pairs_24 : decode cX5_pairs 24 = .ok (.if_icmp .ne 9, 3) := by decide +kernel
theorem dX5_pairs_27 : decode cX5_pairs 27 = .ok (.aload_n 0, 1) := by decide +kernel
theorem dX5_pairs_28 : decode cX5_pairs 28 = .ok (.iconst 5, 1) := by decide +kernel
theorem dX5_pairs_29 : decode cX5_pairs 29 = .ok (.invokevirtual 96, 3) := by decide +kernel
theorem dX5_pairs_32 : decode cX5_pairs 32 = .ok (.ireturn, 1) := by decide +kernel
theorem dX5_pairs_33 : decode cX5_pairs 33 = .ok (.iconst 1, 1) := by decide +kernel
theorem dX5_pairs_34 : decode cX5_pairs 34 = .ok (.istore_n 2, 1) := by decide +kernel
theorem dX5_pairs_35 : decode cX5_pairs 35 = .ok (.iconst 0, 1) := by decide +kernel
theorem dX5_pairs_36 : decode cX5_pairs 36 = .ok (.istore_n 3, 1) := by decide +kernel
theorem dX5_pairs_37 : decode cX5_pairs 37 = .ok (.iload_n 3, 1) := by decide +kernel
theorem dX5_pairs_38 : decode cX5_pairs 38 = .ok (.aload_n 0, 1) := by decide +kernel
theorem dX5_pairs_39 : decode cX5_pairs 39 = .ok (.getfield 17, 3) := by decide +kernel
theorem dX5_pairs_42 : decode cX5_pairs 42 = .ok (.iload_n 1, 1) := by decide +kernel
theorem dX5_pairs_43 : decode cX5_pairs 43 = .ok (.iaload, 1) := by decide +kernel
theorem dX5_pairs_44 : decode cX5_pairs 44 = .ok (.if_icmp .ge 37, 3) := by decide +kernel
theorem dX5_pairs_47 : decode cX5_pairs 47 = .ok (.iload_n 2, 1) := by decide +kernel
theorem dX5_pairs_48 : decode cX5_pairs 48 = .ok (.ifCond .eq 25, 3) := by decide +kernel
theorem dX5_pairs_51 : decode cX5_pairs 51 = .ok (.aload_n 0, 1) := by decide +kernel
theorem dX5_pairs_52 : decode cX5_pairs 52 = .ok (.aload_n 0, 1) := by decide +kernel
theorem dX5_pairs_53 : decode cX5_pairs 53 = .ok (.getfield 20, 3) := by decide +kernel
theorem dX5_pairs_56 : decode cX5_pairs 56 = .ok (.bipush 40, 2) := by decide +kernel
theorem dX5_pairs_58 : decode cX5_pairs 58 = .ok (.iload_n 1, 1) := by decide +kernel
theorem dX5_pairs_59 : decode cX5_pairs 59 = .ok (.imul, 1) := by decide +kernel
theorem dX5_pairs_60 : decode cX5_pairs 60 = .ok (.iload_n 3, 1) := by decide +kernel
theorem dX5_pairs_61 : decode cX5_pairs 61 = .ok (.iadd, 1) := by decide +kernel
theorem dX5_pairs_62 : decode cX5_pairs 62 = .ok (.iaload, 1) := by decide +kernel
theorem dX5_pairs_63 : decode cX5_pairs 63 = .ok (.invokevirtual 176, 3) := by decide +kernel
theorem dX5_pairs_66 : decode cX5_pairs 66 = .ok (.ifCond .eq 7, 3) := by decide +kernel
theorem dX5_pairs_69 : decode cX5_pairs 69 = .ok (.iconst 1, 1) := by decide +kernel
theorem dX5_pairs_70 : decode cX5_pairs 70 = .ok (.goto 4, 3) := by decide +kernel
theorem dX5_pairs_73 : decode cX5_pairs 73 = .ok (.iconst 0, 1) := by decide +kernel
theorem dX5_pairs_74 : decode cX5_pairs 74 = .ok (.istore_n 2, 1) := by decide +kernel
theorem dX5_pairs_75 : decode cX5_pairs 75 = .ok (.iinc 3 1, 3) := by decide +kernel
theorem dX5_pairs_78 : decode cX5_pairs 78 = .ok (.goto (-41), 3) := by decide +kernel
theorem dX5_pairs_81 : decode cX5_pairs 81 = .ok (.iload_n 2, 1) := by decide +kernel
theorem dX5_pairs_82 : decode cX5_pairs 82 = .ok (.ifCond .eq 7, 3) := by decide +kernel
theorem dX5_pairs_85 : decode cX5_pairs 85 = .ok (.iconst 0, 1) := by decide +kernel
theorem dX5_pairs_86 : decode cX5_pairs 86 = .ok (.goto 8, 3) := by decide +kernel
theorem dX5_pairs_89 : decode cX5_pairs 89 = .ok (.aload_n 0, 1) := by decide +kernel
theorem dX5_pairs_90 : decode cX5_pairs 90 = .ok (.iconst 3, 1) := by decide +kernel
theorem dX5_pairs_91 : decode cX5_pairs 91 = .ok (.invokevirtual 96, 3) := by decide +kernel
theorem dX5_pairs_94 : decode cX5_pairs 94 = .ok (.ireturn, 1) := by decide +kernel
theorem dX5_isSo_0 : decode cX5_isSo 0 = .ok (.iconst 1, 1) := by decide +kernel
theorem dX5_isSo_1 : decode cX5_isSo 1 = .ok (.istore_n 2, 1) := by decide +kernel
theorem dX5_isSo_2 : decode cX5_isSo 2 = .ok (.iconst 0, 1) := by decide +kernel
theorem dX5_isSo_3 : decode cX5_isSo 3 = .ok (.istore_n 3, 1) := by decide +kernel
theorem dX5_isSo_4 : decode cX5_isSo 4 = .ok (.iload_n 3, 1) := by decide +kernel
theorem dX5_isSo_5 : decode cX5_isSo 5 = .ok (.aload_n 0, 1) := by decide +kernel
theorem dX5_isSo_6 : decode cX5_isSo 6 = .ok (.getfield 17, 3) := by decide +kernel
theorem dX5_isSo_9 : decode cX5_isSo 9 = .ok (.iload_n 1, 1) := by decide +kernel
theorem dX5_isSo_10 : decode cX5_isSo 10 = .ok (.iaload, 1) := by decide +kernel
theorem dX5_isSo_11 : decode cX5_isSo 11 = .ok (.if_icmp .ge 50, 3) := by decide +kernel
theorem dX5_isSo_14 : decode cX5_isSo 14 = .ok (.iload_n 2, 1) := by decide +kernel
theorem dX5_isSo_15 : decode cX5_isSo 15 = .ok (.ifCond .eq 46, 3) := by decide +kernel
theorem dX5_isSo_18 : decode cX5_isSo 18 = .ok (.aload_n 0, 1) := by decide +kernel
theorem dX5_isSo_19 : decode cX5_isSo 19 = .ok (.aload_n 0, 1) := by decide +kernel
theorem dX5_isSo_20 : decode cX5_isSo 20 = .ok (.getfield 20, 3) := by decide +kernel
theorem dX5_isSo_23 : decode cX5_isSo 23 = .ok (.bipush 40, 2) := by decide +kernel
theorem dX5_isSo_25 : decode cX5_isSo 25 = .ok (.iload_n 1, 1) := by decide +kernel
theorem dX5_isSo_26 : decode cX5_isSo 26 = .ok (.imul, 1) := by decide +kernel
theorem dX5_isSo_27 : decode cX5_isSo 27 = .ok (.iload_n 3, 1) := by decide +kernel
theorem dX5_isSo_28 : decode cX5_isSo 28 = .ok (.iadd, 1) := by decide +kernel
theorem dX5_isSo_29 : decode cX5_isSo 29 = .ok (.iaload, 1) := by decide +kernel
theorem dX5_isSo_30 : decode cX5_isSo 30 = .ok (.invokevirtual 179, 3) := by decide +kernel
theorem dX5_isSo_33 : decode cX5_isSo 33 = .ok (.aload_n 0, 1) := by decide +kernel
theorem dX5_isSo_34 : decode cX5_isSo 34 = .ok (.getfield 20, 3) := by decide +kernel
theorem dX5_isSo_37 : decode cX5_isSo 37 = .ok (.bipush 40, 2) := by decide +kernel
theorem dX5_isSo_39 : decode cX5_isSo 39 = .ok (.iload_n 1, 1) := by decide +kernel
theorem dX5_isSo_40 : decode cX5_isSo 40 = .ok (.imul, 1) := by decide +kernel
theorem dX5_isSo_41 : decode cX5_isSo 41 = .ok (.iload_n 3, 1) := by decide +kernel
theorem dX5_isSo_42 : decode cX5_isSo 42 = .ok (.iadd, 1) := by decide +kernel
theorem dX5_isSo_43 : decode cX5_isSo 43 = .ok (.iconst 1, 1) := by decide +kernel
theorem dX5_isSo_44 : decode cX5_isSo 44 = .ok (.iadd, 1) := by decide +kernel
theorem dX5_isSo_45 : decode cX5_isSo 45 = .ok (.iaload, 1) := by decide +kernel
theorem dX5_isSo_46 : decode cX5_isSo 46 = .ok (.if_icmp .ne 7, 3) := by decide +kernel
theorem dX5_isSo_49 : decode cX5_isSo 49 = .ok (.iconst 1, 1) := by decide +kernel
theorem dX5_isSo_50 : decode cX5_isSo 50 = .ok (.goto 4, 3) := by decide +kernel
theorem dX5_isSo_53 : decode cX5_isSo 53 = .ok (.iconst 0, 1) := by decide +kernel
theorem dX5_isSo_54 : decode cX5_isSo 54 = .ok (.istore_n 2, 1) := by decide +kernel
theorem dX5_isSo_55 : decode cX5_isSo 55 = .ok (.iinc 3 2, 3) := by decide +kernel
theorem dX5_isSo_58 : decode cX5_isSo 58 = .ok (.goto (-54), 3) := by decide +kernel
theorem dX5_isSo_61 : decode cX5_isSo 61 = .ok (.iload_n 2, 1) := by decide +kernel
theorem dX5_isSo_62 : decode cX5_isSo 62 = .ok (.ireturn, 1) := by decide +kernel
theorem dX5_kindsBy_0 : decode cX5_kindsBy 0 = .ok (.iconst 0, 1) := by decide +kernel
theorem dX5_kindsBy_1 : decode cX5_kindsBy 1 = .ok (.istore_n 3, 1) := by decide +kernel
theorem dX5_kindsBy_2 : decode cX5_kindsBy 2 = .ok (.iconst 0, 1) := by decide +kernel
theorem dX5_kindsBy_3 : decode cX5_kindsBy 3 = .ok (.istore 4, 2) := by decide +kernel
theorem dX5_kindsBy_5 : decode cX5_kindsBy 5 = .ok (.iload 4, 2) := by decide +kernel
theorem dX5_kindsBy_7 : decode cX5_kindsBy 7 = .ok (.iconst 5, 1) := by decide +kernel
theorem dX5_kindsBy_8 : decode cX5_kindsBy 8 = .ok (.if_icmp .gt 40, 3) := by decide +kernel
theorem dX5_kindsBy_11 : decode cX5_kindsBy 11 = .ok (.aload_n 0, 1) := by decide +kernel
theorem dX5_kindsBy_12 : decode cX5_kindsBy 12 = .ok (.invokevirtual 139, 3) := by decide +kernel
theorem dX5_kindsBy_15 : decode cX5_kindsBy 15 = .ok (.aload_n 0, 1) := by decide +kernel
theorem dX5_kindsBy_16 : decode cX5_kindsBy 16 = .ok (.getfield 57, 3) := by decide +kernel
theorem dX5_kindsBy_19 : decode cX5_kindsBy 19 = .ok (.iload_n 1, 1) := by decide +kernel
theorem dX5_kindsBy_20 : decode cX5_kindsBy 20 = .ok (.iload 4, 2) := by decide +kernel
theorem dX5_kindsBy_22 : decode cX5_kindsBy 22 = .ok (.iastore, 1) := by decide +kernel
theorem dX5_kindsBy_23 : decode cX5_kindsBy 23 = .ok (.iload_n 3, 1) := by decide +kernel
theorem dX5_kindsBy_24 : decode cX5_kindsBy 24 = .ok (.aload_n 0, 1) := by decide +kernel
theorem dX5_kindsBy_25 : decode cX5_kindsBy 25 = .ok (.iload_n 2, 1) := by decide +kernel
theorem dX5_kindsBy_26 : decode cX5_kindsBy 26 = .ok (.invokevirtual 185, 3) := by decide +kernel
theorem dX5_kindsBy_29 : decode cX5_kindsBy 29 = .ok (.ifCond .eq 10, 3) := by decide +kernel
theorem dX5_kindsBy_32 : decode cX5_kindsBy 32 = .ok (.iconst 1, 1) := by decide +kernel
theorem dX5_kindsBy_33 : decode cX5_kindsBy 33 = .ok (.iload 4, 2) := by decide +kernel
theorem dX5_kindsBy_35 : decode cX5_kindsBy 35 = .ok (.ishl, 1) := by decide +kernel
theorem dX5_kindsBy_36 : decode cX5_kindsBy 36 = .ok (.goto 4, 3) := by decide +kernel
theorem dX5_kindsBy_39 : decode cX5_kindsBy 39 = .ok (.iconst 0, 1) := by decide +kernel
theorem dX5_kindsBy_40 : decode cX5_kindsBy 40 = .ok (.ior, 1) := by decide +kernel
theorem dX5_kindsBy_41 : decode cX5_kindsBy 41 = .ok (.istore_n 3, 1) := by decide +kernel
theorem dX5_kindsBy_42 : decode cX5_kindsBy 42 = .ok (.iinc 4 1, 3) := by decide +kernel
theorem dX5_kindsBy_45 : decode cX5_kindsBy 45 = .ok (.goto (-40), 3) := by decide +kernel
theorem dX5_kindsBy_48 : decode cX5_kindsBy 48 = .ok (.iload_n 3, 1) := by decide +kernel
theorem dX5_kindsBy_49 : decode cX5_kindsBy 49 = .ok (.ireturn, 1) := by decide +kernel
theorem dX5_kinds_0 : decode cX5_kinds 0 = .ok (.aload_n 0, 1) := by decide +kernel
theorem dX5_kinds_1 : decode cX5_kinds 1 = .ok (.iload_n 1, 1) := by decide +kernel
theorem dX5_kinds_2 : decode cX5_kinds 2 = .ok (.invokevirtual 149, 3) := by decide +kernel
theorem dX5_kinds_5 : decode cX5_kinds 5 = .ok (.ifCond .eq 10, 3) := by decide +kernel
theorem dX5_kinds_8 : decode cX5_kinds 8 = .ok (.iload_n 2, 1) := by decide +kernel
theorem dX5_kinds_9 : decode cX5_kinds 9 = .ok (.invokestatic 92, 3) := by decide +kernel
theorem dX5_kinds_12 : decode cX5_kinds 12 = .ok (.ifCond .ne 5, 3) := by decide +kernel
theorem dX5_kinds_15 : decode cX5_kinds 15 = .ok (.iconst (-1), 1) := by decide +kernel
theorem dX5_kinds_16 : decode cX5_kinds 16 = .ok (.ireturn, 1) := by decide +kernel
theorem dX5_kinds_17 : decode cX5_kinds 17 = .ok (.aload_n 0, 1) := by decide +kernel
theorem dX5_kinds_18 : decode cX5_kinds 18 = .ok (.iload_n 2, 1) := by decide +kernel
theorem dX5_kinds_19 : decode cX5_kinds 19 = .ok (.invokevirtual 188, 3) := by decide +kernel
theorem dX5_kinds_22 : decode cX5_kinds 22 = .ok (.istore_n 3, 1) := by decide +kernel
theorem dX5_kinds_23 : decode cX5_kinds 23 = .ok (.iload_n 3, 1) := by decide +kernel
theorem dX5_kinds_24 : decode cX5_kinds 24 = .ok (.ifCond .eq 7, 3) := by decide +kernel
theorem dX5_kinds_27 : decode cX5_kinds 27 = .ok (.iload_n 3, 1) := by decide +kernel
theorem dX5_kinds_28 : decode cX5_kinds 28 = .ok (.goto 9, 3) := by decide +kernel
theorem dX5_kinds_31 : decode cX5_kinds 31 = .ok (.aload_n 0, 1) := by decide +kernel
theorem dX5_kinds_32 : decode cX5_kinds 32 = .ok (.iload_n 1, 1) := by decide +kernel
theorem dX5_kinds_33 : decode cX5_kinds 33 = .ok (.iload_n 2, 1) := by decide +kernel
theorem dX5_kinds_34 : decode cX5_kinds 34 = .ok (.invokevirtual 191, 3) := by decide +kernel
theorem dX5_kinds_37 : decode cX5_kinds 37 = .ok (.ireturn, 1) := by decide +kernel
theorem dX5_isFree_0 : decode cX5_isFree 0 = .ok (.iconst 1, 1) := by decide +kernel
theorem dX5_isFree_1 : decode cX5_isFree 1 = .ok (.istore 4, 2) := by decide +kernel
theorem dX5_isFree_3 : decode cX5_isFree 3 = .ok (.iconst 0, 1) := by decide +kernel
theorem dX5_isFree_4 : decode cX5_isFree 4 = .ok (.istore 5, 2) := by decide +kernel
theorem dX5_isFree_6 : decode cX5_isFree 6 = .ok (.iload 5, 2) := by decide +kernel
theorem dX5_isFree_8 : decode cX5_isFree 8 = .ok (.aload_n 0, 1) := by decide +kernel
theorem dX5_isFree_9 : decode cX5_isFree 9 = .ok (.getfield 116, 3) := by decide +kernel
theorem dX5_isFree_12 : decode cX5_isFree 12 = .ok (.if_icmp .ge 49, 3) := by decide +kernel
theorem dX5_isFree_15 : decode cX5_isFree 15 = .ok (.iload 4, 2) := by decide +kernel
theorem dX5_isFree_17 : decode cX5_isFree 17 = .ok (.ifCond .eq 35, 3) := by decide +kernel
theorem dX5_isFree_20 : decode cX5_isFree 20 = .ok (.iload 5, 2) := by decide +kernel
theorem dX5_isFree_22 : decode cX5_isFree 22 = .ok (.iload_n 1, 1) := by decide +kernel
theorem dX5_isFree_23 : decode cX5_isFree 23 = .ok (.if_icmp .eq 25, 3) := by decide +kernel
theorem dX5_isFree_26 : decode cX5_isFree 26 = .ok (.aload_n 0, 1) := by decide +kernel
theorem dX5_isFree_27 : decode cX5_isFree 27 = .ok (.getfield 36, 3) := by decide +kernel
theorem dX5_isFree_30 : decode cX5_isFree 30 = .ok (.iload 5, 2) := by decide +kernel
theorem dX5_isFree_32 : decode cX5_isFree 32 = .ok (.iaload, 1) := by decide +kernel
theorem dX5_isFree_33 : decode cX5_isFree 33 = .ok (.iload_n 2, 1) := by decide +kernel
theorem dX5_isFree_34 : decode cX5_isFree 34 = .ok (.if_icmp .ne 14, 3) := by decide +kernel
theorem dX5_isFree_37 : decode cX5_isFree 37 = .ok (.aload_n 0, 1) := by decide +kernel
theorem dX5_isFree_38 : decode cX5_isFree 38 = .ok (.getfield 39, 3) := by decide +kernel
theorem dX5_isFree_41 : decode cX5_isFree 41 = .ok (.iload 5, 2) := by decide +kernel
theorem dX5_isFree_43 : decode cX5_isFree 43 = .ok (.iaload, 1) := by decide +kernel
theorem dX5_isFree_44 : decode cX5_isFree 44 = .ok (.iload_n 3, 1) := by decide +kernel
theorem dX5_isFree_45 : decode cX5_isFree 45 = .ok (.if_icmp .eq 7, 3) := by decide +kernel
theorem dX5_isFree_48 : decode cX5_isFree 48 = .ok (.iconst 1, 1) := by decide +kernel
theorem dX5_isFree_49 : decode cX5_isFree 49 = .ok (.goto 4, 3) := by decide +kernel
theorem dX5_isFree_52 : decode cX5_isFree 52 = .ok (.iconst 0, 1) := by decide +kernel
theorem dX5_isFree_53 : decode cX5_isFree 53 = .ok (.istore 4, 2) := by decide +kernel
theorem dX5_isFree_55 : decode cX5_isFree 55 = .ok (.iinc 5 1, 3) := by decide +kernel
theorem dX5_isFree_58 : decode cX5_isFree 58 = .ok (.goto (-52), 3) := by decide +kernel
theorem dX5_isFree_61 : decode cX5_isFree 61 = .ok (.iload 4, 2) := by decide +kernel
theorem dX5_isFree_63 : decode cX5_isFree 63 = .ok (.ireturn, 1) := by decide +kernel
theorem dX5_places_0 : decode cX5_places 0 = .ok (.aload_n 0, 1) := by decide +kernel
theorem dX5_places_1 : decode cX5_places 1 = .ok (.iload_n 1, 1) := by decide +kernel
theorem dX5_places_2 : decode cX5_places 2 = .ok (.invokevirtual 149, 3) := by decide +kernel
theorem dX5_places_5 : decode cX5_places 5 = .ok (.ifCond .eq 10, 3) := by decide +kernel
theorem dX5_places_8 : decode cX5_places 8 = .ok (.iload_n 2, 1) := by decide +kernel
theorem dX5_places_9 : decode cX5_places 9 = .ok (.invokestatic 92, 3) := by decide +kernel
theorem dX5_places_12 : decode cX5_places 12 = .ok (.ifCond .ne 5, 3) := by decide +kernel
theorem dX5_places_15 : decode cX5_places 15 = .ok (.iconst (-1), 1) := by decide +kernel
theorem dX5_places_16 : decode cX5_places 16 = .ok (.ireturn, 1) := by decide +kernel
theorem dX5_places_17 : decode cX5_places 17 = .ok (.aload_n 0, 1) := by decide +kernel
theorem dX5_places_18 : decode cX5_places 18 = .ok (.iload_n 2, 1) := by decide +kernel
theorem dX5_places_19 : decode cX5_places 19 = .ok (.invokevirtual 188, 3) := by decide +kernel
theorem dX5_places_22 : decode cX5_places 22 = .ok (.istore_n 3, 1) := by decide +kernel
theorem dX5_places_23 : decode cX5_places 23 = .ok (.iload_n 3, 1) := by decide +kernel
theorem dX5_places_24 : decode cX5_places 24 = .ok (.ifCond .eq 5, 3) := by decide +kernel
theorem dX5_places_27 : decode cX5_places 27 = .ok (.iload_n 3, 1) := by decide +kernel
theorem dX5_places_28 : decode cX5_places 28 = .ok (.ireturn, 1) := by decide +kernel
theorem dX5_places_29 : decode cX5_places 29 = .ok (.iconst 0, 1) := by decide +kernel
theorem dX5_places_30 : decode cX5_places 30 = .ok (.istore 4, 2) := by decide +kernel
theorem dX5_places_32 : decode cX5_places 32 = .ok (.bipush (-9), 2) := by decide +kernel
theorem dX5_places_34 : decode cX5_places 34 = .ok (.istore 5, 2) := by decide +kernel
theorem dX5_places_36 : decode cX5_places 36 = .ok (.iconst 3, 1) := by decide +kernel
theorem dX5_places_37 : decode cX5_places 37 = .ok (.istore 6, 2) := by decide +kernel
theorem dX5_places_39 : decode cX5_places 39 = .ok (.iload 6, 2) := by decide +kernel
theorem dX5_places_41 : decode cX5_places 41 = .ok (.ifCond .lt 76, 3) := by decide +kernel
theorem dX5_places_44 : decode cX5_places 44 = .ok (.iconst 5, 1) := by decide +kernel
theorem dX5_places_45 : decode cX5_places 45 = .ok (.istore 7, 2) := by decide +kernel
theorem dX5_places_47 : decode cX5_places 47 = .ok (.iload 7, 2) := by decide +kernel
theorem dX5_places_49 : decode cX5_places 49 = .ok (.ifCond .lt 62, 3) := by decide +kernel
theorem dX5_places_52 : decode cX5_places 52 = .ok (.aload_n 0, 1) := by decide +kernel
theorem dX5_places_53 : decode cX5_places 53 = .ok (.invokevirtual 139, 3) := by decide +kernel
theorem dX5_places_56 : decode cX5_places 56 = .ok (.aload_n 0, 1) := by decide +kernel
theorem dX5_places_57 : decode cX5_places 57 = .ok (.getfield 60, 3) := by decide +kernel
theorem dX5_places_60 : decode cX5_places 60 = .ok (.iload_n 1, 1) := by decide +kernel
theorem dX5_places_61 : decode cX5_places 61 = .ok (.iload 6, 2) := by decide +kernel
theorem dX5_places_63 : decode cX5_places 63 = .ok (.iastore, 1) := by decide +kernel
theorem dX5_places_64 : decode cX5_places 64 = .ok (.aload_n 0, 1) := by decide +kernel
theorem dX5_places_65 : decode cX5_places 65 = .ok (.getfield 63, 3) := by decide +kernel
theorem dX5_places_68 : decode cX5_places 68 = .ok (.iload_n 1, 1) := by decide +kernel
theorem dX5_places_69 : decode cX5_places 69 = .ok (.iload 7, 2) := by decide +kernel
theorem dX5_places_71 : decode cX5_places 71 = .ok (.iastore, 1) := by decide +kernel
theorem dX5_places_72 : decode cX5_places 72 = .ok (.aload_n 0, 1) := by decide +kernel
theorem dX5_places_73 : decode cX5_places 73 = .ok (.iload_n 1, 1) := by decide +kernel
theorem dX5_places_74 : decode cX5_places 74 = .ok (.iload 6, 2) := by decide +kernel
theorem dX5_places_76 : decode cX5_places 76 = .ok (.iload 7, 2) := by decide +kernel
theorem dX5_places_78 : decode cX5_places 78 = .ok (.invokevirtual 194, 3) := by decide +kernel
theorem dX5_places_81 : decode cX5_places 81 = .ok (.ifCond .eq 24, 3) := by decide +kernel
theorem dX5_places_84 : decode cX5_places 84 = .ok (.aload_n 0, 1) := by decide +kernel
theorem dX5_places_85 : decode cX5_places 85 = .ok (.iload_n 2, 1) := by decide +kernel
theorem dX5_places_86 : decode cX5_places 86 = .ok (.invokevirtual 185, 3) := by decide +kernel
theorem dX5_places_89 : decode cX5_places 89 = .ok (.ifCond .eq 16, 3) := by decide +kernel
theorem dX5_places_92 : decode cX5_places 92 = .ok (.bipush 10, 2) := by decide +kernel
theorem dX5_places_94 : decode cX5_places 94 = .ok (.iload 6, 2) := by decide +kernel
theorem dX5_places_96 : decode cX5_places 96 = .ok (.imul, 1) := by decide +kernel
theorem dX5_places_97 : decode cX5_places 97 = .ok (.iload 7, 2) := by decide +kernel
theorem dX5_places_99 : decode cX5_places 99 = .ok (.iadd, 1) := by decide +kernel
theorem dX5_places_100 : decode cX5_places 100 = .ok (.istore 5, 2) := by decide +kernel
theorem dX5_places_102 : decode cX5_places 102 = .ok (.iinc 4 1, 3) := by decide +kernel
theorem dX5_places_105 : decode cX5_places 105 = .ok (.iinc 7 (-1), 3) := by decide +kernel
theorem dX5_places_108 : decode cX5_places 108 = .ok (.goto (-61), 3) := by decide +kernel
theorem dX5_places_111 : decode cX5_places 111 = .ok (.iinc 6 (-1), 3) := by decide +kernel
theorem dX5_places_114 : decode cX5_places 114 = .ok (.goto (-75), 3) := by decide +kernel
theorem dX5_places_117 : decode cX5_places 117 = .ok (.iload 4, 2) := by decide +kernel
theorem dX5_places_119 : decode cX5_places 119 = .ok (.ifCond .le 10, 3) := by decide +kernel
theorem dX5_places_122 : decode cX5_places 122 = .ok (.aload_n 0, 1) := by decide +kernel
theorem dX5_places_123 : decode cX5_places 123 = .ok (.iload 5, 2) := by decide +kernel
theorem dX5_places_125 : decode cX5_places 125 = .ok (.invokevirtual 100, 3) := by decide +kernel
theorem dX5_places_128 : decode cX5_places 128 = .ok (.pop, 1) := by decide +kernel
theorem dX5_places_129 : decode cX5_places 129 = .ok (.iload 4, 2) := by decide +kernel
theorem dX5_places_131 : decode cX5_places 131 = .ok (.ifCond .le 8, 3) := by decide +kernel
theorem dX5_places_134 : decode cX5_places 134 = .ok (.iload 4, 2) := by decide +kernel
theorem dX5_places_136 : decode cX5_places 136 = .ok (.goto 5, 3) := by decide +kernel
theorem dX5_places_139 : decode cX5_places 139 = .ok (.bipush (-9), 2) := by decide +kernel
theorem dX5_places_141 : decode cX5_places 141 = .ok (.ireturn, 1) := by decide +kernel
theorem dX5_test_0 : decode cX5_test 0 = .ok (.aload_n 0, 1) := by decide +kernel
theorem dX5_test_1 : decode cX5_test 1 = .ok (.iload_n 1, 1) := by decide +kernel
theorem dX5_test_2 : decode cX5_test 2 = .ok (.invokevirtual 149, 3) := by decide +kernel
theorem dX5_test_5 : decode cX5_test 5 = .ok (.ifCond .eq 10, 3) := by decide +kernel
theorem dX5_test_8 : decode cX5_test 8 = .ok (.iload_n 2, 1) := by decide +kernel
theorem dX5_test_9 : decode cX5_test 9 = .ok (.invokestatic 92, 3) := by decide +kernel
theorem dX5_test_12 : decode cX5_test 12 = .ok (.ifCond .ne 5, 3) := by decide +kernel
theorem dX5_test_15 : decode cX5_test 15 = .ok (.iconst (-1), 1) := by decide +kernel
theorem dX5_test_16 : decode cX5_test 16 = .ok (.ireturn, 1) := by decide +kernel
theorem dX5_test_17 : decode cX5_test 17 = .ok (.aload_n 0, 1) := by decide +kernel
theorem dX5_test_18 : decode cX5_test 18 = .ok (.iload_n 2, 1) := by decide +kernel
theorem dX5_test_19 : decode cX5_test 19 = .ok (.invokevirtual 188, 3) := by decide +kernel
theorem dX5_test_22 : decode cX5_test 22 = .ok (.istore_n 3, 1) := by decide +kernel
theorem dX5_test_23 : decode cX5_test 23 = .ok (.iload_n 3, 1) := by decide +kernel
theorem dX5_test_24 : decode cX5_test 24 = .ok (.ifCond .eq 5, 3) := by decide +kernel
theorem dX5_test_27 : decode cX5_test 27 = .ok (.iload_n 3, 1) := by decide +kernel
theorem dX5_test_28 : decode cX5_test 28 = .ok (.ireturn, 1) := by decide +kernel
theorem dX5_test_29 : decode cX5_test 29 = .ok (.aload_n 0, 1) := by decide +kernel
theorem dX5_test_30 : decode cX5_test 30 = .ok (.iload_n 1, 1) := by decide +kernel
theorem dX5_test_31 : decode cX5_test 31 = .ok (.iload_n 2, 1) := by decide +kernel
theorem dX5_test_32 : decode cX5_test 32 = .ok (.invokevirtual 191, 3) := by decide +kernel
theorem dX5_test_35 : decode cX5_test 35 = .ok (.istore 4, 2) := by decide +kernel
theorem dX5_test_37 : decode cX5_test 37 = .ok (.bipush (-9), 2) := by decide +kernel
theorem dX5_test_39 : decode cX5_test 39 = .ok (.istore 5, 2) := by decide +kernel
theorem dX5_test_41 : decode cX5_test 41 = .ok (.bipush 7, 2) := by decide +kernel
theorem dX5_test_43 : decode cX5_test 43 = .ok (.istore 6, 2) := by decide +kernel
theorem dX5_test_45 : decode cX5_test 45 = .ok (.iconst 0, 1) := by decide +kernel
theorem dX5_test_46 : decode cX5_test 46 = .ok (.istore 7, 2) := by decide +kernel
theorem dX5_test_48 : decode cX5_test 48 = .ok (.iload 7, 2) := by decide +kernel
theorem dX5_test_50 : decode cX5_test 50 = .ok (.iconst 1, 1) := by decide +kernel
theorem dX5_test_51 : decode cX5_test 51 = .ok (.aload_n 0, 1) := by decide +kernel
theorem dX5_test_52 : decode cX5_test 52 = .ok (.getfield 116, 3) := by decide +kernel
theorem dX5_test_55 : decode cX5_test 55 = .ok (.ishl, 1) := by decide +kernel
theorem dX5_test_56 : decode cX5_test 56 = .ok (.if_icmp .ge 185, 3) := by decide +kernel
theorem dX5_test_59 : decode cX5_test 59 = .ok (.iload 4, 2) := by decide +kernel
theorem dX5_test_61 : decode cX5_test 61 = .ok (.ifCond .eq 180, 3) := by decide +kernel
theorem dX5_test_64 : decode cX5_test 64 = .ok (.aload_n 0, 1) := by decide +kernel
theorem dX5_test_65 : decode cX5_test 65 = .ok (.invokevirtual 139, 3) := by decide +kernel
theorem dX5_test_68 : decode cX5_test 68 = .ok (.iconst 0, 1) := by decide +kernel
theorem dX5_test_69 : decode cX5_test 69 = .ok (.istore 8, 2) := by decide +kernel
theorem dX5_test_71 : decode cX5_test 71 = .ok (.iload 8, 2) := by decide +kernel
theorem dX5_test_73 : decode cX5_test 73 = .ok (.iconst 5, 1) := by decide +kernel
theorem dX5_test_74 : decode cX5_test 74 = .ok (.if_icmp .gt 30, 3) := by decide +kernel
theorem dX5_test_77 : decode cX5_test 77 = .ok (.aload_n 0, 1) := by decide +kernel
theorem dX5_test_78 : decode cX5_test 78 = .ok (.getfield 57, 3) := by decide +kernel
theorem dX5_test_81 : decode cX5_test 81 = .ok (.iload_n 1, 1) := by decide +kernel
theorem dX5_test_82 : decode cX5_test 82 = .ok (.iload 8, 2) := by decide +kernel
theorem dX5_test_84 : decode cX5_test 84 = .ok (.iastore, 1) := by decide +kernel
theorem dX5_test_85 : decode cX5_test 85 = .ok (.aload_n 0, 1) := by decide +kernel
theorem dX5_test_86 : decode cX5_test 86 = .ok (.getfield 72, 3) := by decide +kernel
theorem dX5_test_89 : decode cX5_test 89 = .ok (.iload 8, 2) := by decide +kernel
theorem dX5_test_91 : decode cX5_test 91 = .ok (.aload_n 0, 1) := by decide +kernel
theorem dX5_test_92 : decode cX5_test 92 = .ok (.iload 7, 2) := by decide +kernel
theorem dX5_test_94 : decode cX5_test 94 = .ok (.invokevirtual 179, 3) := by decide +kernel
theorem dX5_test_97 : decode cX5_test 97 = .ok (.iastore, 1) := by decide +kernel
theorem dX5_test_98 : decode cX5_test 98 = .ok (.iinc 8 1, 3) := by decide +kernel
theorem dX5_test_101 : decode cX5_test 101 = .ok (.goto (-30), 3) := by decide +kernel
theorem dX5_test_104 : decode cX5_test 104 = .ok (.iconst 0, 1) := by decide +kernel
theorem dX5_test_105 : decode cX5_test 105 = .ok (.istore 8, 2) := by decide +kernel
theorem dX5_test_107 : decode cX5_test 107 = .ok (.iconst 0, 1) := by decide +kernel
theorem dX5_test_108 : decode cX5_test 108 = .ok (.istore 9, 2) := by decide +kernel
theorem dX5_test_110 : decode cX5_test 110 = .ok (.iload 9, 2) := by decide +kernel
theorem dX5_test_112 : decode cX5_test 112 = .ok (.iconst 5, 1) := by decide +kernel
theorem dX5_test_113 : decode cX5_test 113 = .ok (.if_icmp .gt 90, 3) := by decide +kernel
theorem dX5_test_116 : decode cX5_test 116 = .ok (.iconst 0, 1) := by decide +kernel
theorem dX5_test_117 : decode cX5_test 117 = .ok (.istore 10, 2) := by decide +kernel
theorem dX5_test_119 : decode cX5_test 119 = .ok (.iconst 0, 1) := by decide +kernel
theorem dX5_test_120 : decode cX5_test 120 = .ok (.istore 11, 2) := by decide +kernel
theorem dX5_test_122 : decode cX5_test 122 = .ok (.iload 11, 2) := by decide +kernel
theorem dX5_test_124 : decode cX5_test 124 = .ok (.iconst 5, 1) := by decide +kernel
theorem dX5_test_125 : decode cX5_test 125 = .ok (.if_icmp .gt 56, 3) := by decide +kernel
theorem dX5_test_128 : decode cX5_test 128 = .ok (.iload 10, 2) := by decide +kernel
theorem dX5_test_130 : decode cX5_test 130 = .ok (.iload 4, 2) := by decide +kernel
theorem dX5_test_132 : decode cX5_test 132 = .ok (.iload 9, 2) := by decide +kernel
theorem dX5_test_134 : decode cX5_test 134 = .ok (.invokestatic 125, 3) := by decide +kernel
theorem dX5_test_137 : decode cX5_test 137 = .ok (.ifCond .eq 34, 3) := by decide +kernel
theorem dX5_test_140 : decode cX5_test 140 = .ok (.iload 4, 2) := by decide +kernel
theorem dX5_test_142 : decode cX5_test 142 = .ok (.iload 11, 2) := by decide +kernel
theorem dX5_test_144 : decode cX5_test 144 = .ok (.invokestatic 125, 3) := by decide +kernel
theorem dX5_test_147 : decode cX5_test 147 = .ok (.ifCond .eq 24, 3) := by decide +kernel
theorem dX5_test_150 : decode cX5_test 150 = .ok (.aload_n 0, 1) := by decide +kernel
theorem dX5_test_151 : decode cX5_test 151 = .ok (.getfield 72, 3) := by decide +kernel
theorem dX5_test_154 : decode cX5_test 154 = .ok (.iload 9, 2) := by decide +kernel
theorem dX5_test_156 : decode cX5_test 156 = .ok (.iaload, 1) := by decide +kernel
theorem dX5_test_157 : decode cX5_test 157 = .ok (.aload_n 0, 1) := by decide +kernel
theorem dX5_test_158 : decode cX5_test 158 = .ok (.getfield 72, 3) := by decide +kernel
theorem dX5_test_161 : decode cX5_test 161 = .ok (.iload 11, 2) := by decide +kernel
theorem dX5_test_163 : decode cX5_test 163 = .ok (.iaload, 1) := by decide +kernel
theorem dX5_test_164 : decode cX5_test 164 = .ok (.if_icmp .ne 7, 3) := by decide +kernel
theorem dX5_test_167 : decode cX5_test 167 = .ok (.iconst 1, 1) := by decide +kernel
theorem dX5_test_168 : decode cX5_test 168 = .ok (.goto 4, 3) := by decide +kernel
theorem dX5_test_171 : decode cX5_test 171 = .ok (.iconst 0, 1) := by decide +kernel
theorem dX5_test_172 : decode cX5_test 172 = .ok (.iadd, 1) := by decide +kernel
theorem dX5_test_173 : decode cX5_test 173 = .ok (.istore 10, 2) := by decide +kernel
theorem dX5_test_175 : decode cX5_test 175 = .ok (.iinc 11 1, 3) := by decide +kernel
theorem dX5_test_178 : decode cX5_test 178 = .ok (.goto (-56), 3) := by decide +kernel
theorem dX5_test_181 : decode cX5_test 181 = .ok (.iload 10, 2) := by decide +kernel
theorem dX5_test_183 : decode cX5_test 183 = .ok (.iload 8, 2) := by decide +kernel
theorem dX5_test_185 : decode cX5_test 185 = .ok (.if_icmp .le 8, 3) := by decide +kernel
theorem dX5_test_188 : decode cX5_test 188 = .ok (.iload 10, 2) := by decide +kernel
theorem dX5_test_190 : decode cX5_test 190 = .ok (.goto 5, 3) := by decide +kernel
theorem dX5_test_193 : decode cX5_test 193 = .ok (.iload 8, 2) := by decide +kernel
theorem dX5_test_195 : decode cX5_test 195 = .ok (.istore 8, 2) := by decide +kernel
theorem dX5_test_197 : decode cX5_test 197 = .ok (.iinc 9 1, 3) := by decide +kernel
theorem dX5_test_200 : decode cX5_test 200 = .ok (.goto (-90), 3) := by decide +kernel
theorem dX5_test_203 : decode cX5_test 203 = .ok (.iload 8, 2) := by decide +kernel
theorem dX5_test_205 : decode cX5_test 205 = .ok (.iload 6, 2) := by decide +kernel
theorem dX5_test_207 : decode cX5_test 207 = .ok (.if_icmp .ge 8, 3) := by decide +kernel
theorem dX5_test_210 : decode cX5_test 210 = .ok (.iload 7, 2) := by decide +kernel
theorem dX5_test_212 : decode cX5_test 212 = .ok (.goto 5, 3) := by decide +kernel
theorem dX5_test_215 : decode cX5_test 215 = .ok (.iload 5, 2) := by decide +kernel
theorem dX5_test_217 : decode cX5_test 217 = .ok (.istore 5, 2) := by decide +kernel
theorem dX5_test_219 : decode cX5_test 219 = .ok (.iload 8, 2) := by decide +kernel
theorem dX5_test_221 : decode cX5_test 221 = .ok (.iload 6, 2) := by decide +kernel
theorem dX5_test_223 : decode cX5_test 223 = .ok (.if_icmp .ge 8, 3) := by decide +kernel
theorem dX5_test_226 : decode cX5_test 226 = .ok (.iload 8, 2) := by decide +kernel
theorem dX5_test_228 : decode cX5_test 228 = .ok (.goto 5, 3) := by decide +kernel
theorem dX5_test_231 : decode cX5_test 231 = .ok (.iload 6, 2) := by decide +kernel
theorem dX5_test_233 : decode cX5_test 233 = .ok (.istore 6, 2) := by decide +kernel
theorem dX5_test_235 : decode cX5_test 235 = .ok (.iinc 7 1, 3) := by decide +kernel
theorem dX5_test_238 : decode cX5_test 238 = .ok (.goto (-190), 3) := by decide +kernel
theorem dX5_test_241 : decode cX5_test 241 = .ok (.iload 5, 2) := by decide +kernel
theorem dX5_test_243 : decode cX5_test 243 = .ok (.bipush (-9), 2) := by decide +kernel
theorem dX5_test_245 : decode cX5_test 245 = .ok (.if_icmp .eq 10, 3) := by decide +kernel
theorem dX5_test_248 : decode cX5_test 248 = .ok (.aload_n 0, 1) := by decide +kernel
theorem dX5_test_249 : decode cX5_test 249 = .ok (.iload 6, 2) := by decide +kernel
theorem dX5_test_251 : decode cX5_test 251 = .ok (.invokevirtual 100, 3) := by decide +kernel
theorem dX5_test_254 : decode cX5_test 254 = .ok (.pop, 1) := by decide +kernel
theorem dX5_test_255 : decode cX5_test 255 = .ok (.iload 5, 2) := by decide +kernel
theorem dX5_test_257 : decode cX5_test 257 = .ok (.ireturn, 1) := by decide +kernel
theorem dX5_duel_0 : decode cX5_duel 0 = .ok (.iload_n 1, 1) := by decide +kernel
theorem dX5_duel_1 : decode cX5_duel 1 = .ok (.iconst 0, 1) := by decide +kernel
theorem dX5_duel_2 : decode cX5_duel 2 = .ok (.iconst 4, 1) := by decide +kernel
theorem dX5_duel_3 : decode cX5_duel 3 = .ok (.invokestatic 88, 3) := by decide +kernel
theorem dX5_duel_6 : decode cX5_duel 6 = .ok (.ifCond .ne 5, 3) := by decide +kernel
theorem dX5_duel_9 : decode cX5_duel 9 = .ok (.iconst (-1), 1) := by decide +kernel
theorem dX5_duel_10 : decode cX5_duel 10 = .ok (.ireturn, 1) := by decide +kernel
theorem dX5_duel_11 : decode cX5_duel 11 = .ok (.aload_n 0, 1) := by decide +kernel
theorem dX5_duel_12 : decode cX5_duel 12 = .ok (.getfield 116, 3) := by decide +kernel
theorem dX5_duel_15 : decode cX5_duel 15 = .ok (.ifCond .ne 6, 3) := by decide +kernel
theorem dX5_duel_18 : decode cX5_duel 18 = .ok (.bipush (-4), 2) := by decide +kernel
theorem dX5_duel_20 : decode cX5_duel 20 = .ok (.ireturn, 1) := by decide +kernel
theorem dX5_duel_21 : decode cX5_duel 21 = .ok (.aload_n 0, 1) := by decide +kernel
theorem dX5_duel_22 : decode cX5_duel 22 = .ok (.invokevirtual 139, 3) := by decide +kernel
theorem dX5_duel_25 : decode cX5_duel 25 = .ok (.iconst 0, 1) := by decide +kernel
theorem dX5_duel_26 : decode cX5_duel 26 = .ok (.istore_n 2, 1) := by decide +kernel
theorem dX5_duel_27 : decode cX5_duel 27 = .ok (.iload_n 2, 1) := by decide +kernel
theorem dX5_duel_28 : decode cX5_duel 28 = .ok (.iconst 1, 1) := by decide +kernel
theorem dX5_duel_29 : decode cX5_duel 29 = .ok (.aload_n 0, 1) := by decide +kernel
theorem dX5_duel_30 : decode cX5_duel 30 = .ok (.getfield 116, 3) := by decide +kernel
theorem dX5_duel_33 : decode cX5_duel 33 = .ok (.ishl, 1) := by decide +kernel
theorem dX5_duel_34 : decode cX5_duel 34 = .ok (.if_icmp .ge 27, 3) := by decide +kernel
theorem dX5_duel_37 : decode cX5_duel 37 = .ok (.aload_n 0, 1) := by decide +kernel
theorem dX5_duel_38 : decode cX5_duel 38 = .ok (.getfield 75, 3) := by decide +kernel
theorem dX5_duel_41 : decode cX5_duel 41 = .ok (.iload_n 2, 1) := by decide +kernel
theorem dX5_duel_42 : decode cX5_duel 42 = .ok (.aload_n 0, 1) := by decide +kernel
theorem dX5_duel_43 : decode cX5_duel 43 = .ok (.iload_n 2, 1) := by decide +kernel
theorem dX5_duel_44 : decode cX5_duel 44 = .ok (.invokevirtual 179, 3) := by decide +kernel
theorem dX5_duel_47 : decode cX5_duel 47 = .ok (.iload_n 2, 1) := by decide +kernel
theorem dX5_duel_48 : decode cX5_duel 48 = .ok (.iconst (-1), 1) := by decide +kernel
theorem dX5_duel_49 : decode cX5_duel 49 = .ok (.ixor, 1) := by decide +kernel
theorem dX5_duel_50 : decode cX5_duel 50 = .ok (.iand, 1) := by decide +kernel
theorem dX5_duel_51 : decode cX5_duel 51 = .ok (.invokestatic 156, 3) := by decide +kernel
theorem dX5_duel_54 : decode cX5_duel 54 = .ok (.iastore, 1) := by decide +kernel
theorem dX5_duel_55 : decode cX5_duel 55 = .ok (.iinc 2 1, 3) := by decide +kernel
theorem dX5_duel_58 : decode cX5_duel 58 = .ok (.goto (-31), 3) := by decide +kernel
theorem dX5_duel_61 : decode cX5_duel 61 = .ok (.iload_n 1, 1) := by decide +kernel
theorem dX5_duel_62 : decode cX5_duel 62 = .ok (.iconst 1, 1) := by decide +kernel
theorem dX5_duel_63 : decode cX5_duel 63 = .ok (.isub, 1) := by decide +kernel
theorem dX5_duel_64 : decode cX5_duel 64 = .ok (.istore_n 2, 1) := by decide +kernel
theorem dX5_duel_65 : decode cX5_duel 65 = .ok (.iload_n 2, 1) := by decide +kernel
theorem dX5_duel_66 : decode cX5_duel 66 = .ok (.ifCond .lt 137, 3) := by decide +kernel
theorem dX5_duel_69 : decode cX5_duel 69 = .ok (.iconst 0, 1) := by decide +kernel
theorem dX5_duel_70 : decode cX5_duel 70 = .ok (.istore_n 3, 1) := by decide +kernel
theorem dX5_duel_71 : decode cX5_duel 71 = .ok (.iload_n 3, 1) := by decide +kernel
theorem dX5_duel_72 : decode cX5_duel 72 = .ok (.iconst 1, 1) := by decide +kernel
theorem dX5_duel_73 : decode cX5_duel 73 = .ok (.aload_n 0, 1) := by decide +kernel
theorem dX5_duel_74 : decode cX5_duel 74 = .ok (.getfield 116, 3) := by decide +kernel
theorem dX5_duel_77 : decode cX5_duel 77 = .ok (.ishl, 1) := by decide +kernel
theorem dX5_duel_78 : decode cX5_duel 78 = .ok (.if_icmp .ge 119, 3) := by decide +kernel
theorem dX5_duel_81 : decode cX5_duel 81 = .ok (.aload_n 0, 1) := by decide +kernel
theorem dX5_duel_82 : decode cX5_duel 82 = .ok (.getfield 75, 3) := by decide +kernel
theorem dX5_duel_85 : decode cX5_duel 85 = .ok (.iload_n 3, 1) := by decide +kernel
theorem dX5_duel_86 : decode cX5_duel 86 = .ok (.iaload, 1) := by decide +kernel
theorem dX5_duel_87 : decode cX5_duel 87 = .ok (.istore 4, 2) := by decide +kernel
theorem dX5_duel_89 : decode cX5_duel 89 = .ok (.iconst 0, 1) := by decide +kernel
theorem dX5_duel_90 : decode cX5_duel 90 = .ok (.istore 5, 2) := by decide +kernel
theorem dX5_duel_92 : decode cX5_duel 92 = .ok (.iload 5, 2) := by decide +kernel
theorem dX5_duel_94 : decode cX5_duel 94 = .ok (.aload_n 0, 1) := by decide +kernel
theorem dX5_duel_95 : decode cX5_duel 95 = .ok (.getfield 116, 3) := by decide +kernel
theorem dX5_duel_98 : decode cX5_duel 98 = .ok (.if_icmp .ge 85, 3) := by decide +kernel
theorem dX5_duel_101 : decode cX5_duel 101 = .ok (.iload_n 3, 1) := by decide +kernel
theorem dX5_duel_102 : decode cX5_duel 102 = .ok (.iload 5, 2) := by decide +kernel
theorem dX5_duel_104 : decode cX5_duel 104 = .ok (.invokestatic 125, 3) := by decide +kernel
theorem dX5_duel_107 : decode cX5_duel 107 = .ok (.ifCond .eq 8, 3) := by decide +kernel
theorem dX5_duel_110 : decode cX5_duel 110 = .ok (.iload 4, 2) := by decide +kernel
theorem dX5_duel_112 : decode cX5_duel 112 = .ok (.goto 14, 3) := by decide +kernel
theorem dX5_duel_115 : decode cX5_duel 115 = .ok (.aload_n 0, 1) := by decide +kernel
theorem dX5_duel_116 : decode cX5_duel 116 = .ok (.getfield 75, 3) := by decide +kernel
theorem dX5_duel_119 : decode cX5_duel 119 = .ok (.iload_n 3, 1) := by decide +kernel
theorem dX5_duel_120 : decode cX5_duel 120 = .ok (.iconst 1, 1) := by decide +kernel
theorem dX5_duel_121 : decode cX5_duel 121 = .ok (.iload 5, 2) := by decide +kernel
theorem dX5_duel_123 : decode cX5_duel 123 = .ok (.ishl, 1) := by decide +kernel
theorem dX5_duel_124 : decode cX5_duel 124 = .ok (.ior, 1) := by decide +kernel
theorem dX5_duel_125 : decode cX5_duel 125 = .ok (.iaload, 1) := by decide +kernel
theorem dX5_duel_126 : decode cX5_duel 126 = .ok (.istore 6, 2) := by decide +kernel
theorem dX5_duel_128 : decode cX5_duel 128 = .ok (.iload_n 2, 1) := by decide +kernel
theorem dX5_duel_129 : decode cX5_duel 129 = .ok (.iconst 2, 1) := by decide +kernel
theorem dX5_duel_130 : decode cX5_duel 130 = .ok (.irem, 1) := by decide +kernel
theorem dX5_duel_131 : decode cX5_duel 131 = .ok (.ifCond .ne 18, 3) := by decide +kernel
theorem dX5_duel_134 : decode cX5_duel 134 = .ok (.iload 6, 2) := by decide +kernel
theorem dX5_duel_136 : decode cX5_duel 136 = .ok (.iload 4, 2) := by decide +kernel
theorem dX5_duel_138 : decode cX5_duel 138 = .ok (.if_icmp .le 7, 3) := by decide +kernel
theorem dX5_duel_141 : decode cX5_duel 141 = .ok (.iconst 1, 1) := by decide +kernel
theorem dX5_duel_142 : decode cX5_duel 142 = .ok (.goto 19, 3) := by decide +kernel
theorem dX5_duel_145 : decode cX5_duel 145 = .ok (.iconst 0, 1) := by decide +kernel
theorem dX5_duel_146 : decode cX5_duel 146 = .ok (.goto 15, 3) := by decide +kernel
theorem dX5_duel_149 : decode cX5_duel 149 = .ok (.iload 6, 2) := by decide +kernel
theorem dX5_duel_151 : decode cX5_duel 151 = .ok (.iload 4, 2) := by decide +kernel
theorem dX5_duel_153 : decode cX5_duel 153 = .ok (.if_icmp .ge 7, 3) := by decide +kernel
theorem dX5_duel_156 : decode cX5_duel 156 = .ok (.iconst 1, 1) := by decide +kernel
theorem dX5_duel_157 : decode cX5_duel 157 = .ok (.goto 4, 3) := by decide +kernel
theorem dX5_duel_160 : decode cX5_duel 160 = .ok (.iconst 0, 1) := by decide +kernel
theorem dX5_duel_161 : decode cX5_duel 161 = .ok (.istore 7, 2) := by decide +kernel
theorem dX5_duel_163 : decode cX5_duel 163 = .ok (.iload 7, 2) := by decide +kernel
theorem dX5_duel_165 : decode cX5_duel 165 = .ok (.ifCond .eq 8, 3) := by decide +kernel
theorem dX5_duel_168 : decode cX5_duel 168 = .ok (.iload 6, 2) := by decide +kernel
theorem dX5_duel_170 : decode cX5_duel 170 = .ok (.goto 5, 3) := by decide +kernel
theorem dX5_duel_173 : decode cX5_duel 173 = .ok (.iload 4, 2) := by decide +kernel
theorem dX5_duel_175 : decode cX5_duel 175 = .ok (.istore 4, 2) := by decide +kernel
theorem dX5_duel_177 : decode cX5_duel 177 = .ok (.iinc 5 1, 3) := by decide +kernel
theorem dX5_duel_180 : decode cX5_duel 180 = .ok (.goto (-88), 3) := by decide +kernel
theorem dX5_duel_183 : decode cX5_duel 183 = .ok (.aload_n 0, 1) := by decide +kernel
theorem dX5_duel_184 : decode cX5_duel 184 = .ok (.getfield 75, 3) := by decide +kernel
theorem dX5_duel_187 : decode cX5_duel 187 = .ok (.iload_n 3, 1) := by decide +kernel
theorem dX5_duel_188 : decode cX5_duel 188 = .ok (.iload 4, 2) := by decide +kernel
theorem dX5_duel_190 : decode cX5_duel 190 = .ok (.iastore, 1) := by decide +kernel
theorem dX5_duel_191 : decode cX5_duel 191 = .ok (.iinc 3 1, 3) := by decide +kernel
theorem dX5_duel_194 : decode cX5_duel 194 = .ok (.goto (-123), 3) := by decide +kernel
theorem dX5_duel_197 : decode cX5_duel 197 = .ok (.iinc 2 (-1), 3) := by decide +kernel
theorem dX5_duel_200 : decode cX5_duel 200 = .ok (.goto (-135), 3) := by decide +kernel
theorem dX5_duel_203 : decode cX5_duel 203 = .ok (.aload_n 0, 1) := by decide +kernel
theorem dX5_duel_204 : decode cX5_duel 204 = .ok (.getfield 75, 3) := by decide +kernel
theorem dX5_duel_207 : decode cX5_duel 207 = .ok (.aload_n 0, 1) := by decide +kernel
theorem dX5_duel_208 : decode cX5_duel 208 = .ok (.iconst 0, 1) := by decide +kernel
theorem dX5_duel_209 : decode cX5_duel 209 = .ok (.invokevirtual 122, 3) := by decide +kernel
theorem dX5_duel_212 : decode cX5_duel 212 = .ok (.iaload, 1) := by decide +kernel
theorem dX5_duel_213 : decode cX5_duel 213 = .ok (.ireturn, 1) := by decide +kernel
theorem dX5_waysOf_0 : decode cX5_waysOf 0 = .ok (.lconst 1, 1) := by decide +kernel
theorem dX5_waysOf_1 : decode cX5_waysOf 1 = .ok (.lstore_n 3, 1) := by decide +kernel
theorem dX5_waysOf_2 : decode cX5_waysOf 2 = .ok (.iconst 0, 1) := by decide +kernel
theorem dX5_waysOf_3 : decode cX5_waysOf 3 = .ok (.istore 5, 2) := by decide +kernel
theorem dX5_waysOf_5 : decode cX5_waysOf 5 = .ok (.iload 5, 2) := by decide +kernel
theorem dX5_waysOf_7 : decode cX5_waysOf 7 = .ok (.aload_n 0, 1) := by decide +kernel
theorem dX5_waysOf_8 : decode cX5_waysOf 8 = .ok (.getfield 116, 3) := by decide +kernel
theorem dX5_waysOf_11 : decode cX5_waysOf 11 = .ok (.if_icmp .ge 32, 3) := by decide +kernel
theorem dX5_waysOf_14 : decode cX5_waysOf 14 = .ok (.lload_n 3, 1) := by decide +kernel
theorem dX5_waysOf_15 : decode cX5_waysOf 15 = .ok (.iload_n 1, 1) := by decide +kernel
theorem dX5_waysOf_16 : decode cX5_waysOf 16 = .ok (.iload 5, 2) := by decide +kernel
theorem dX5_waysOf_18 : decode cX5_waysOf 18 = .ok (.invokestatic 125, 3) := by decide +kernel
theorem dX5_waysOf_21 : decode cX5_waysOf 21 = .ok (.ifCond .eq 8, 3) := by decide +kernel
theorem dX5_waysOf_24 : decode cX5_waysOf 24 = .ok (.iload_n 2, 1) := by decide +kernel
theorem dX5_waysOf_25 : decode cX5_waysOf 25 = .ok (.i2l, 1) := by decide +kernel
theorem dX5_waysOf_26 : decode cX5_waysOf 26 = .ok (.goto 9, 3) := by decide +kernel
theorem dX5_waysOf_29 : decode cX5_waysOf 29 = .ok (.ldc2_w 197, 3) := by decide +kernel
theorem dX5_waysOf_32 : decode cX5_waysOf 32 = .ok (.iload_n 2, 1) := by decide +kernel
theorem dX5_waysOf_33 : decode cX5_waysOf 33 = .ok (.i2l, 1) := by decide +kernel
theorem dX5_waysOf_34 : decode cX5_waysOf 34 = .ok (.lsub, 1) := by decide +kernel
theorem dX5_waysOf_35 : decode cX5_waysOf 35 = .ok (.lmul, 1) := by decide +kernel
theorem dX5_waysOf_36 : decode cX5_waysOf 36 = .ok (.lstore_n 3, 1) := by decide +kernel
theorem dX5_waysOf_37 : decode cX5_waysOf 37 = .ok (.iinc 5 1, 3) := by decide +kernel
theorem dX5_waysOf_40 : decode cX5_waysOf 40 = .ok (.goto (-35), 3) := by decide +kernel
theorem dX5_waysOf_43 : decode cX5_waysOf 43 = .ok (.lload_n 3, 1) := by decide +kernel
theorem dX5_waysOf_44 : decode cX5_waysOf 44 = .ok (.lreturn, 1) := by decide +kernel
theorem dX5_allWays_0 : decode cX5_allWays 0 = .ok (.lconst 1, 1) := by decide +kernel
theorem dX5_allWays_1 : decode cX5_allWays 1 = .ok (.lstore_n 1, 1) := by decide +kernel
theorem dX5_allWays_2 : decode cX5_allWays 2 = .ok (.iconst 0, 1) := by decide +kernel
theorem dX5_allWays_3 : decode cX5_allWays 3 = .ok (.istore_n 3, 1) := by decide +kernel
theorem dX5_allWays_4 : decode cX5_allWays 4 = .ok (.iload_n 3, 1) := by decide +kernel
theorem dX5_allWays_5 : decode cX5_allWays 5 = .ok (.aload_n 0, 1) := by decide +kernel
theorem dX5_allWays_6 : decode cX5_allWays 6 = .ok (.getfield 116, 3) := by decide +kernel
theorem dX5_allWays_9 : decode cX5_allWays 9 = .ok (.if_icmp .ge 15, 3) := by decide +kernel
theorem dX5_allWays_12 : decode cX5_allWays 12 = .ok (.lload_n 1, 1) := by decide +kernel
theorem dX5_allWays_13 : decode cX5_allWays 13 = .ok (.ldc2_w 197, 3) := by decide +kernel
theorem dX5_allWays_16 : decode cX5_allWays 16 = .ok (.lmul, 1) := by decide +kernel
theorem dX5_allWays_17 : decode cX5_allWays 17 = .ok (.lstore_n 1, 1) := by decide +kernel
theorem dX5_allWays_18 : decode cX5_allWays 18 = .ok (.iinc 3 1, 3) := by decide +kernel
theorem dX5_allWays_21 : decode cX5_allWays 21 = .ok (.goto (-17), 3) := by decide +kernel
theorem dX5_allWays_24 : decode cX5_allWays 24 = .ok (.lload_n 1, 1) := by decide +kernel
theorem dX5_allWays_25 : decode cX5_allWays 25 = .ok (.lreturn, 1) := by decide +kernel
theorem dX5_odds_0 : decode cX5_odds 0 = .ok (.iload_n 1, 1) := by decide +kernel
theorem dX5_odds_1 : decode cX5_odds 1 = .ok (.iconst 0, 1) := by decide +kernel
theorem dX5_odds_2 : decode cX5_odds 2 = .ok (.bipush 12, 2) := by decide +kernel
theorem dX5_odds_4 : decode cX5_odds 4 = .ok (.invokestatic 88, 3) := by decide +kernel
theorem dX5_odds_7 : decode cX5_odds 7 = .ok (.ifCond .ne 5, 3) := by decide +kernel
theorem dX5_odds_10 : decode cX5_odds 10 = .ok (.iconst (-1), 1) := by decide +kernel
theorem dX5_odds_11 : decode cX5_odds 11 = .ok (.ireturn, 1) := by decide +kernel
theorem dX5_odds_12 : decode cX5_odds 12 = .ok (.aload_n 0, 1) := by decide +kernel
theorem dX5_odds_13 : decode cX5_odds 13 = .ok (.getfield 116, 3) := by decide +kernel
theorem dX5_odds_16 : decode cX5_odds 16 = .ok (.ifCond .ne 6, 3) := by decide +kernel
theorem dX5_odds_19 : decode cX5_odds 19 = .ok (.bipush (-4), 2) := by decide +kernel
theorem dX5_odds_21 : decode cX5_odds 21 = .ok (.ireturn, 1) := by decide +kernel
theorem dX5_odds_22 : decode cX5_odds 22 = .ok (.aload_n 0, 1) := by decide +kernel
theorem dX5_odds_23 : decode cX5_odds 23 = .ok (.invokevirtual 139, 3) := by decide +kernel
theorem dX5_odds_26 : decode cX5_odds 26 = .ok (.lconst 0, 1) := by decide +kernel
theorem dX5_odds_27 : decode cX5_odds 27 = .ok (.lstore_n 2, 1) := by decide +kernel
theorem dX5_odds_28 : decode cX5_odds 28 = .ok (.iconst 0, 1) := by decide +kernel
theorem dX5_odds_29 : decode cX5_odds 29 = .ok (.istore 4, 2) := by decide +kernel
theorem dX5_odds_31 : decode cX5_odds 31 = .ok (.iload 4, 2) := by decide +kernel
theorem dX5_odds_33 : decode cX5_odds 33 = .ok (.iconst 1, 1) := by decide +kernel
theorem dX5_odds_34 : decode cX5_odds 34 = .ok (.aload_n 0, 1) := by decide +kernel
theorem dX5_odds_35 : decode cX5_odds 35 = .ok (.getfield 116, 3) := by decide +kernel
theorem dX5_odds_38 : decode cX5_odds 38 = .ok (.ishl, 1) := by decide +kernel
theorem dX5_odds_39 : decode cX5_odds 39 = .ok (.if_icmp .ge 34, 3) := by decide +kernel
theorem dX5_odds_42 : decode cX5_odds 42 = .ok (.lload_n 2, 1) := by decide +kernel
theorem dX5_odds_43 : decode cX5_odds 43 = .ok (.aload_n 0, 1) := by decide +kernel
theorem dX5_odds_44 : decode cX5_odds 44 = .ok (.iload 4, 2) := by decide +kernel
theorem dX5_odds_46 : decode cX5_odds 46 = .ok (.invokevirtual 179, 3) := by decide +kernel
theorem dX5_odds_49 : decode cX5_odds 49 = .ok (.iload 4, 2) := by decide +kernel
theorem dX5_odds_51 : decode cX5_odds 51 = .ok (.if_icmp .ne 13, 3) := by decide +kernel
theorem dX5_odds_54 : decode cX5_odds 54 = .ok (.aload_n 0, 1) := by decide +kernel
theorem dX5_odds_55 : decode cX5_odds 55 = .ok (.iload 4, 2) := by decide +kernel
theorem dX5_odds_57 : decode cX5_odds 57 = .ok (.iload_n 1, 1) := by decide +kernel
theorem dX5_odds_58 : decode cX5_odds 58 = .ok (.invokevirtual 199, 3) := by decide +kernel
theorem dX5_odds_61 : decode cX5_odds 61 = .ok (.goto 4, 3) := by decide +kernel
theorem dX5_odds_64 : decode cX5_odds 64 = .ok (.lconst 0, 1) := by decide +kernel
theorem dX5_odds_65 : decode cX5_odds 65 = .ok (.ladd, 1) := by decide +kernel
theorem dX5_odds_66 : decode cX5_odds 66 = .ok (.lstore_n 2, 1) := by decide +kernel
theorem dX5_odds_67 : decode cX5_odds 67 = .ok (.iinc 4 1, 3) := by decide +kernel
theorem dX5_odds_70 : decode cX5_odds 70 = .ok (.goto (-39), 3) := by decide +kernel
theorem dX5_odds_73 : decode cX5_odds 73 = .ok (.aload_n 0, 1) := by decide +kernel
theorem dX5_odds_74 : decode cX5_odds 74 = .ok (.lload_n 2, 1) := by decide +kernel
theorem dX5_odds_75 : decode cX5_odds 75 = .ok (.aload_n 0, 1) := by decide +kernel
theorem dX5_odds_76 : decode cX5_odds 76 = .ok (.invokevirtual 203, 3) := by decide +kernel
theorem dX5_odds_79 : decode cX5_odds 79 = .ok (.invokevirtual 207, 3) := by decide +kernel
theorem dX5_odds_82 : decode cX5_odds 82 = .ok (.ireturn, 1) := by decide +kernel
theorem dX5_mid_0 : decode cX5_mid 0 = .ok (.iload_n 1, 1) := by decide +kernel
theorem dX5_mid_1 : decode cX5_mid 1 = .ok (.iconst 0, 1) := by decide +kernel
theorem dX5_mid_2 : decode cX5_mid 2 = .ok (.bipush 12, 2) := by decide +kernel
theorem dX5_mid_4 : decode cX5_mid 4 = .ok (.invokestatic 88, 3) := by decide +kernel
theorem dX5_mid_7 : decode cX5_mid 7 = .ok (.ifCond .ne 5, 3) := by decide +kernel
theorem dX5_mid_10 : decode cX5_mid 10 = .ok (.iconst (-1), 1) := by decide +kernel
theorem dX5_mid_11 : decode cX5_mid 11 = .ok (.ireturn, 1) := by decide +kernel
theorem dX5_mid_12 : decode cX5_mid 12 = .ok (.aload_n 0, 1) := by decide +kernel
theorem dX5_mid_13 : decode cX5_mid 13 = .ok (.getfield 116, 3) := by decide +kernel
theorem dX5_mid_16 : decode cX5_mid 16 = .ok (.ifCond .ne 6, 3) := by decide +kernel
theorem dX5_mid_19 : decode cX5_mid 19 = .ok (.bipush (-4), 2) := by decide +kernel
theorem dX5_mid_21 : decode cX5_mid 21 = .ok (.ireturn, 1) := by decide +kernel
theorem dX5_mid_22 : decode cX5_mid 22 = .ok (.aload_n 0, 1) := by decide +kernel
theorem dX5_mid_23 : decode cX5_mid 23 = .ok (.invokevirtual 139, 3) := by decide +kernel
theorem dX5_mid_26 : decode cX5_mid 26 = .ok (.lconst 0, 1) := by decide +kernel
theorem dX5_mid_27 : decode cX5_mid 27 = .ok (.lstore_n 2, 1) := by decide +kernel
theorem dX5_mid_28 : decode cX5_mid 28 = .ok (.iconst 0, 1) := by decide +kernel
theorem dX5_mid_29 : decode cX5_mid 29 = .ok (.istore 4, 2) := by decide +kernel
theorem dX5_mid_31 : decode cX5_mid 31 = .ok (.iload 4, 2) := by decide +kernel
theorem dX5_mid_33 : decode cX5_mid 33 = .ok (.iconst 1, 1) := by decide +kernel
theorem dX5_mid_34 : decode cX5_mid 34 = .ok (.aload_n 0, 1) := by decide +kernel
theorem dX5_mid_35 : decode cX5_mid 35 = .ok (.getfield 116, 3) := by decide +kernel
theorem dX5_mid_38 : decode cX5_mid 38 = .ok (.ishl, 1) := by decide +kernel
theorem dX5_mid_39 : decode cX5_mid 39 = .ok (.if_icmp .ge 35, 3) := by decide +kernel
theorem dX5_mid_42 : decode cX5_mid 42 = .ok (.lload_n 2, 1) := by decide +kernel
theorem dX5_mid_43 : decode cX5_mid 43 = .ok (.aload_n 0, 1) := by decide +kernel
theorem dX5_mid_44 : decode cX5_mid 44 = .ok (.iload 4, 2) := by decide +kernel
theorem dX5_mid_46 : decode cX5_mid 46 = .ok (.iload_n 1, 1) := by decide +kernel
theorem dX5_mid_47 : decode cX5_mid 47 = .ok (.invokevirtual 199, 3) := by decide +kernel
theorem dX5_mid_50 : decode cX5_mid 50 = .ok (.aload_n 0, 1) := by decide +kernel
theorem dX5_mid_51 : decode cX5_mid 51 = .ok (.iload 4, 2) := by decide +kernel
theorem dX5_mid_53 : decode cX5_mid 53 = .ok (.invokevirtual 179, 3) := by decide +kernel
theorem dX5_mid_56 : decode cX5_mid 56 = .ok (.iload 4, 2) := by decide +kernel
theorem dX5_mid_58 : decode cX5_mid 58 = .ok (.iconst (-1), 1) := by decide +kernel
theorem dX5_mid_59 : decode cX5_mid 59 = .ok (.ixor, 1) := by decide +kernel
theorem dX5_mid_60 : decode cX5_mid 60 = .ok (.iand, 1) := by decide +kernel
theorem dX5_mid_61 : decode cX5_mid 61 = .ok (.invokestatic 156, 3) := by decide +kernel
theorem dX5_mid_64 : decode cX5_mid 64 = .ok (.i2l, 1) := by decide +kernel
theorem dX5_mid_65 : decode cX5_mid 65 = .ok (.lmul, 1) := by decide +kernel
theorem dX5_mid_66 : decode cX5_mid 66 = .ok (.ladd, 1) := by decide +kernel
theorem dX5_mid_67 : decode cX5_mid 67 = .ok (.lstore_n 2, 1) := by decide +kernel
theorem dX5_mid_68 : decode cX5_mid 68 = .ok (.iinc 4 1, 3) := by decide +kernel
theorem dX5_mid_71 : decode cX5_mid 71 = .ok (.goto (-40), 3) := by decide +kernel
theorem dX5_mid_74 : decode cX5_mid 74 = .ok (.aload_n 0, 1) := by decide +kernel
theorem dX5_mid_75 : decode cX5_mid 75 = .ok (.lload_n 2, 1) := by decide +kernel
theorem dX5_mid_76 : decode cX5_mid 76 = .ok (.aload_n 0, 1) := by decide +kernel
theorem dX5_mid_77 : decode cX5_mid 77 = .ok (.invokevirtual 203, 3) := by decide +kernel
theorem dX5_mid_80 : decode cX5_mid 80 = .ok (.invokevirtual 207, 3) := by decide +kernel
theorem dX5_mid_83 : decode cX5_mid 83 = .ok (.ireturn, 1) := by decide +kernel
theorem dX5_lots_0 : decode cX5_lots 0 = .ok (.iload_n 1, 1) := by decide +kernel
theorem dX5_lots_1 : decode cX5_lots 1 = .ok (.iconst 1, 1) := by decide +kernel
theorem dX5_lots_2 : decode cX5_lots 2 = .ok (.bipush 20, 2) := by decide +kernel
theorem dX5_lots_4 : decode cX5_lots 4 = .ok (.invokestatic 88, 3) := by decide +kernel
theorem dX5_lots_7 : decode cX5_lots 7 = .ok (.ifCond .eq 13, 3) := by decide +kernel
theorem dX5_lots_10 : decode cX5_lots 10 = .ok (.iload_n 2, 1) := by decide +kernel
theorem dX5_lots_11 : decode cX5_lots 11 = .ok (.iconst 1, 1) := by decide +kernel
theorem dX5_lots_12 : decode cX5_lots 12 = .ok (.ldc 211, 2) := by decide +kernel
theorem dX5_lots_14 : decode cX5_lots 14 = .ok (.invokestatic 88, 3) := by decide +kernel
theorem dX5_lots_17 : decode cX5_lots 17 = .ok (.ifCond .ne 5, 3) := by decide +kernel
theorem dX5_lots_20 : decode cX5_lots 20 = .ok (.iconst (-1), 1) := by decide +kernel
theorem dX5_lots_21 : decode cX5_lots 21 = .ok (.ireturn, 1) := by decide +kernel
theorem dX5_lots_22 : decode cX5_lots 22 = .ok (.aload_n 0, 1) := by decide +kernel
theorem dX5_lots_23 : decode cX5_lots 23 = .ok (.getfield 116, 3) := by decide +kernel
theorem dX5_lots_26 : decode cX5_lots 26 = .ok (.ifCond .ne 6, 3) := by decide +kernel
theorem dX5_lots_29 : decode cX5_lots 29 = .ok (.bipush (-4), 2) := by decide +kernel
theorem dX5_lots_31 : decode cX5_lots 31 = .ok (.ireturn, 1) := by decide +kernel
theorem dX5_lots_32 : decode cX5_lots 32 = .ok (.aload_n 0, 1) := by decide +kernel
theorem dX5_lots_33 : decode cX5_lots 33 = .ok (.getfield 119, 3) := by decide +kernel
theorem dX5_lots_36 : decode cX5_lots 36 = .ok (.iload_n 1, 1) := by decide +kernel
theorem dX5_lots_37 : decode cX5_lots 37 = .ok (.iadd, 1) := by decide +kernel
theorem dX5_lots_38 : decode cX5_lots 38 = .ok (.bipush 40, 2) := by decide +kernel
theorem dX5_lots_40 : decode cX5_lots 40 = .ok (.if_icmp .le 6, 3) := by decide +kernel
theorem dX5_lots_43 : decode cX5_lots 43 = .ok (.bipush (-2), 2) := by decide +kernel
theorem dX5_lots_45 : decode cX5_lots 45 = .ok (.ireturn, 1) := by decide +kernel
theorem dX5_lots_46 : decode cX5_lots 46 = .ok (.iload_n 2, 1) := by decide +kernel
theorem dX5_lots_47 : decode cX5_lots 47 = .ok (.i2l, 1) := by decide +kernel
theorem dX5_lots_48 : decode cX5_lots 48 = .ok (.lstore_n 3, 1) := by decide +kernel
theorem dX5_lots_49 : decode cX5_lots 49 = .ok (.iconst 0, 1) := by decide +kernel
theorem dX5_lots_50 : decode cX5_lots 50 = .ok (.istore 5, 2) := by decide +kernel
theorem dX5_lots_52 : decode cX5_lots 52 = .ok (.iload 5, 2) := by decide +kernel
theorem dX5_lots_54 : decode cX5_lots 54 = .ok (.iload_n 1, 1) := by decide +kernel
theorem dX5_lots_55 : decode cX5_lots 55 = .ok (.if_icmp .ge 111, 3) := by decide +kernel
theorem dX5_lots_58 : decode cX5_lots 58 = .ok (.lload_n 3, 1) := by decide +kernel
theorem dX5_lots_59 : decode cX5_lots 59 = .ok (.ldc2_w 212, 3) := by decide +kernel
theorem dX5_lots_62 : decode cX5_lots 62 = .ok (.lmul, 1) := by decide +kernel
theorem dX5_lots_63 : decode cX5_lots 63 = .ok (.ldc2_w 214, 3) := by decide +kernel
theorem dX5_lots_66 : decode cX5_lots 66 = .ok (.lrem, 1) := by decide +kernel
theorem dX5_lots_67 : decode cX5_lots 67 = .ok (.lstore_n 3, 1) := by decide +kernel
theorem dX5_lots_68 : decode cX5_lots 68 = .ok (.lload_n 3, 1) := by decide +kernel
theorem dX5_lots_69 : decode cX5_lots 69 = .ok (.ldc2_w 216, 3) := by decide +kernel
theorem dX5_lots_72 : decode cX5_lots 72 = .ok (.lrem, 1) := by decide +kernel
theorem dX5_lots_73 : decode cX5_lots 73 = .ok (.l2i, 1) := by decide +kernel
theorem dX5_lots_74 : decode cX5_lots 74 = .ok (.istore 6, 2) := by decide +kernel
theorem dX5_lots_76 : decode cX5_lots 76 = .ok (.aload_n 0, 1) := by decide +kernel
theorem dX5_lots_77 : decode cX5_lots 77 = .ok (.invokevirtual 165, 3) := by decide +kernel
theorem dX5_lots_80 : decode cX5_lots 80 = .ok (.iload 6, 2) := by decide +kernel
theorem dX5_lots_82 : decode cX5_lots 82 = .ok (.ifCond .ne 38, 3) := by decide +kernel
theorem dX5_lots_85 : decode cX5_lots 85 = .ok (.aload_n 0, 1) := by decide +kernel
theorem dX5_lots_86 : decode cX5_lots 86 = .ok (.getfield 45, 3) := by decide +kernel
theorem dX5_lots_89 : decode cX5_lots 89 = .ok (.bipush 10, 2) := by decide +kernel
theorem dX5_lots_91 : decode cX5_lots 91 = .ok (.aload_n 0, 1) := by decide +kernel
theorem dX5_lots_92 : decode cX5_lots 92 = .ok (.getfield 119, 3) := by decide +kernel
theorem dX5_lots_95 : decode cX5_lots 95 = .ok (.imul, 1) := by decide +kernel
theorem dX5_lots_96 : decode cX5_lots 96 = .ok (.iconst 2, 1) := by decide +kernel
theorem dX5_lots_97 : decode cX5_lots 97 = .ok (.iadd, 1) := by decide +kernel
theorem dX5_lots_98 : decode cX5_lots 98 = .ok (.aload_n 0, 1) := by decide +kernel
theorem dX5_lots_99 : decode cX5_lots 99 = .ok (.iconst 2, 1) := by decide +kernel
theorem dX5_lots_100 : decode cX5_lots 100 = .ok (.invokevirtual 122, 3) := by decide +kernel
theorem dX5_lots_103 : decode cX5_lots 103 = .ok (.lload_n 3, 1) := by decide +kernel
theorem dX5_lots_104 : decode cX5_lots 104 = .ok (.ldc2_w 216, 3) := by decide +kernel
theorem dX5_lots_107 : decode cX5_lots 107 = .ok (.ldiv, 1) := by decide +kernel
theorem dX5_lots_108 : decode cX5_lots 108 = .ok (.ldc2_w 218, 3) := by decide +kernel
theorem dX5_lots_111 : decode cX5_lots 111 = .ok (.lrem, 1) := by decide +kernel
theorem dX5_lots_112 : decode cX5_lots 112 = .ok (.l2i, 1) := by decide +kernel
theorem dX5_lots_113 : decode cX5_lots 113 = .ok (.invokestatic 162, 3) := by decide +kernel
theorem dX5_lots_116 : decode cX5_lots 116 = .ok (.iastore, 1) := by decide +kernel
theorem dX5_lots_117 : decode cX5_lots 117 = .ok (.goto 43, 3) := by decide +kernel
theorem dX5_lots_120 : decode cX5_lots 120 = .ok (.iload 6, 2) := by decide +kernel
theorem dX5_lots_122 : decode cX5_lots 122 = .ok (.iconst 4, 1) := by decide +kernel
theorem dX5_lots_123 : decode cX5_lots 123 = .ok (.if_icmp .ge 21, 3) := by decide +kernel
theorem dX5_lots_126 : decode cX5_lots 126 = .ok (.aload_n 0, 1) := by decide +kernel
theorem dX5_lots_127 : decode cX5_lots 127 = .ok (.aload_n 0, 1) := by decide +kernel
theorem dX5_lots_128 : decode cX5_lots 128 = .ok (.getfield 45, 3) := by decide +kernel
theorem dX5_lots_131 : decode cX5_lots 131 = .ok (.bipush 10, 2) := by decide +kernel
theorem dX5_lots_133 : decode cX5_lots 133 = .ok (.aload_n 0, 1) := by decide +kernel
theorem dX5_lots_134 : decode cX5_lots 134 = .ok (.getfield 119, 3) := by decide +kernel
theorem dX5_lots_137 : decode cX5_lots 137 = .ok (.imul, 1) := by decide +kernel
theorem dX5_lots_138 : decode cX5_lots 138 = .ok (.invokevirtual 172, 3) := by decide +kernel
theorem dX5_lots_141 : decode cX5_lots 141 = .ok (.goto 19, 3) := by decide +kernel
theorem dX5_lots_144 : decode cX5_lots 144 = .ok (.aload_n 0, 1) := by decide +kernel
theorem dX5_lots_145 : decode cX5_lots 145 = .ok (.lload_n 3, 1) := by decide +kernel
theorem dX5_lots_146 : decode cX5_lots 146 = .ok (.ldc2_w 216, 3) := by decide +kernel
theorem dX5_lots_149 : decode cX5_lots 149 = .ok (.ldiv, 1) := by decide +kernel
theorem dX5_lots_150 : decode cX5_lots 150 = .ok (.aload_n 0, 1) := by decide +kernel
theorem dX5_lots_151 : decode cX5_lots 151 = .ok (.getfield 116, 3) := by decide +kernel
theorem dX5_lots_154 : decode cX5_lots 154 = .ok (.i2l, 1) := by decide +kernel
theorem dX5_lots_155 : decode cX5_lots 155 = .ok (.lrem, 1) := by decide +kernel
theorem dX5_lots_156 : decode cX5_lots 156 = .ok (.l2i, 1) := by decide +kernel
theorem dX5_lots_157 : decode cX5_lots 157 = .ok (.invokevirtual 168, 3) := by decide +kernel
theorem dX5_lots_160 : decode cX5_lots 160 = .ok (.iinc 5 1, 3) := by decide +kernel
theorem dX5_lots_163 : decode cX5_lots 163 = .ok (.goto (-111), 3) := by decide +kernel
theorem dX5_lots_166 : decode cX5_lots 166 = .ok (.aload_n 0, 1) := by decide +kernel
theorem dX5_lots_167 : decode cX5_lots 167 = .ok (.invokevirtual 146, 3) := by decide +kernel
theorem dX5_lots_170 : decode cX5_lots 170 = .ok (.invokestatic 156, 3) := by decide +kernel
theorem dX5_lots_173 : decode cX5_lots 173 = .ok (.ireturn, 1) := by decide +kernel
theorem dX5_asked_0 : decode cX5_asked 0 = .ok (.aload_n 0, 1) := by decide +kernel
theorem dX5_asked_1 : decode cX5_asked 1 = .ok (.getfield 82, 3) := by decide +kernel
theorem dX5_asked_4 : decode cX5_asked 4 = .ok (.ireturn, 1) := by decide +kernel
theorem dX5_upper_0 : decode cX5_upper 0 = .ok (.aload_n 0, 1) := by decide +kernel
theorem dX5_upper_1 : decode cX5_upper 1 = .ok (.getfield 85, 3) := by decide +kernel
theorem dX5_upper_4 : decode cX5_upper 4 = .ok (.lreturn, 1) := by decide +kernel
theorem dX5_lower_0 : decode cX5_lower 0 = .ok (.aload_n 0, 1) := by decide +kernel
theorem dX5_lower_1 : decode cX5_lower 1 = .ok (.getfield 13, 3) := by decide +kernel
theorem dX5_lower_4 : decode cX5_lower 4 = .ok (.lreturn, 1) := by decide +kernel
theorem dX5_thereAre_0 : decode cX5_thereAre 0 = .ok (.iconst 0, 1) := by decide +kernel
theorem dX5_thereAre_1 : decode cX5_thereAre 1 = .ok (.istore_n 2, 1) := by decide +kernel
theorem dX5_thereAre_2 : decode cX5_thereAre 2 = .ok (.iconst 0, 1) := by decide +kernel
theorem dX5_thereAre_3 : decode cX5_thereAre 3 = .ok (.istore_n 3, 1) := by decide +kernel
theorem dX5_thereAre_4 : decode cX5_thereAre 4 = .ok (.iload_n 3, 1) := by decide +kernel
theorem dX5_thereAre_5 : decode cX5_thereAre 5 = .ok (.bipush 6, 2) := by decide +kernel
theorem dX5_thereAre_7 : decode cX5_thereAre 7 = .ok (.if_icmp .ge 106, 3) := by decide +kernel
theorem dX5_thereAre_10 : decode cX5_thereAre 10 = .ok (.iload_n 2, 1) := by decide +kernel
theorem dX5_thereAre_11 : decode cX5_thereAre 11 = .ok (.iload_n 1, 1) := by decide +kernel
theorem dX5_thereAre_12 : decode cX5_thereAre 12 = .ok (.bipush 6, 2) := by decide +kernel
theorem dX5_thereAre_14 : decode cX5_thereAre 14 = .ok (.if_icmp .ne 16, 3) := by decide +kernel
theorem dX5_thereAre_17 : decode cX5_thereAre 17 = .ok (.aload_n 0, 1) := by decide +kernel
theorem dX5_thereAre_18 : decode cX5_thereAre 18 = .ok (.getfield 17, 3) := by decide +kernel
theorem dX5_thereAre_21 : decode cX5_thereAre 21 = .ok (.iload_n 3, 1) := by decide +kernel
theorem dX5_thereAre_22 : decode cX5_thereAre 22 = .ok (.iaload, 1) := by decide +kernel
theorem dX5_thereAre_23 : decode cX5_thereAre 23 = .ok (.ifCond .lt 7, 3) := by decide +kernel
theorem dX5_thereAre_26 : decode cX5_thereAre 26 = .ok (.iconst 1, 1) := by decide +kernel
theorem dX5_thereAre_27 : decode cX5_thereAre 27 = .ok (.goto 4, 3) := by decide +kernel
theorem dX5_thereAre_30 : decode cX5_thereAre 30 = .ok (.iconst 0, 1) := by decide +kernel
theorem dX5_thereAre_31 : decode cX5_thereAre 31 = .ok (.iadd, 1) := by decide +kernel
theorem dX5_thereAre_32 : decode cX5_thereAre 32 = .ok (.istore_n 2, 1) := by decide +kernel
theorem dX5_thereAre_33 : decode cX5_thereAre 33 = .ok (.iload_n 2, 1) := by decide +kernel
theorem dX5_thereAre_34 : decode cX5_thereAre 34 = .ok (.iload_n 1, 1) := by decide +kernel
theorem dX5_thereAre_35 : decode cX5_thereAre 35 = .ok (.bipush 7, 2) := by decide +kernel
theorem dX5_thereAre_37 : decode cX5_thereAre 37 = .ok (.if_icmp .ne 30, 3) := by decide +kernel
theorem dX5_thereAre_40 : decode cX5_thereAre 40 = .ok (.iload_n 3, 1) := by decide +kernel
theorem dX5_thereAre_41 : decode cX5_thereAre 41 = .ok (.iconst 4, 1) := by decide +kernel
theorem dX5_thereAre_42 : decode cX5_thereAre 42 = .ok (.if_icmp .ge 25, 3) := by decide +kernel
theorem dX5_thereAre_45 : decode cX5_thereAre 45 = .ok (.aload_n 0, 1) := by decide +kernel
theorem dX5_thereAre_46 : decode cX5_thereAre 46 = .ok (.getfield 23, 3) := by decide +kernel
theorem dX5_thereAre_49 : decode cX5_thereAre 49 = .ok (.iload_n 3, 1) := by decide +kernel
theorem dX5_thereAre_50 : decode cX5_thereAre 50 = .ok (.iconst 4, 1) := by decide +kernel
theorem dX5_thereAre_51 : decode cX5_thereAre 51 = .ok (.if_icmp .ge 7, 3) := by decide +kernel
theorem dX5_thereAre_54 : decode cX5_thereAre 54 = .ok (.iload_n 3, 1) := by decide +kernel
theorem dX5_thereAre_55 : decode cX5_thereAre 55 = .ok (.goto 4, 3) := by decide +kernel
theorem dX5_thereAre_58 : decode cX5_thereAre 58 = .ok (.iconst 0, 1) := by decide +kernel
theorem dX5_thereAre_59 : decode cX5_thereAre 59 = .ok (.iaload, 1) := by decide +kernel
theorem dX5_thereAre_60 : decode cX5_thereAre 60 = .ok (.ifCond .lt 7, 3) := by decide +kernel
theorem dX5_thereAre_63 : decode cX5_thereAre 63 = .ok (.iconst 1, 1) := by decide +kernel
theorem dX5_thereAre_64 : decode cX5_thereAre 64 = .ok (.goto 4, 3) := by decide +kernel
theorem dX5_thereAre_67 : decode cX5_thereAre 67 = .ok (.iconst 0, 1) := by decide +kernel
theorem dX5_thereAre_68 : decode cX5_thereAre 68 = .ok (.iadd, 1) := by decide +kernel
theorem dX5_thereAre_69 : decode cX5_thereAre 69 = .ok (.istore_n 2, 1) := by decide +kernel
theorem dX5_thereAre_70 : decode cX5_thereAre 70 = .ok (.iload_n 2, 1) := by decide +kernel
theorem dX5_thereAre_71 : decode cX5_thereAre 71 = .ok (.iload_n 1, 1) := by decide +kernel
theorem dX5_thereAre_72 : decode cX5_thereAre 72 = .ok (.bipush 8, 2) := by decide +kernel
theorem dX5_thereAre_74 : decode cX5_thereAre 74 = .ok (.if_icmp .ne 30, 3) := by decide +kernel
theorem dX5_thereAre_77 : decode cX5_thereAre 77 = .ok (.iload_n 3, 1) := by decide +kernel
theorem dX5_thereAre_78 : decode cX5_thereAre 78 = .ok (.iconst 3, 1) := by decide +kernel
theorem dX5_thereAre_79 : decode cX5_thereAre 79 = .ok (.if_icmp .ge 25, 3) := by decide +kernel
theorem dX5_thereAre_82 : decode cX5_thereAre 82 = .ok (.aload_n 0, 1) := by decide +kernel
theorem dX5_thereAre_83 : decode cX5_thereAre 83 = .ok (.getfield 51, 3) := by decide +kernel
theorem dX5_thereAre_86 : decode cX5_thereAre 86 = .ok (.iload_n 3, 1) := by decide +kernel
theorem dX5_thereAre_87 : decode cX5_thereAre 87 = .ok (.iconst 3, 1) := by decide +kernel
theorem dX5_thereAre_88 : decode cX5_thereAre 88 = .ok (.if_icmp .ge 7, 3) := by decide +kernel
theorem dX5_thereAre_91 : decode cX5_thereAre 91 = .ok (.iload_n 3, 1) := by decide +kernel
theorem dX5_thereAre_92 : decode cX5_thereAre 92 = .ok (.goto 4, 3) := by decide +kernel
theorem dX5_thereAre_95 : decode cX5_thereAre 95 = .ok (.iconst 0, 1) := by decide +kernel
theorem dX5_thereAre_96 : decode cX5_thereAre 96 = .ok (.iaload, 1) := by decide +kernel
theorem dX5_thereAre_97 : decode cX5_thereAre 97 = .ok (.ifCond .lt 7, 3) := by decide +kernel
theorem dX5_thereAre_100 : decode cX5_thereAre 100 = .ok (.iconst 1, 1) := by decide +kernel
theorem dX5_thereAre_101 : decode cX5_thereAre 101 = .ok (.goto 4, 3) := by decide +kernel
theorem dX5_thereAre_104 : decode cX5_thereAre 104 = .ok (.iconst 0, 1) := by decide +kernel
theorem dX5_thereAre_105 : decode cX5_thereAre 105 = .ok (.iadd, 1) := by decide +kernel
theorem dX5_thereAre_106 : decode cX5_thereAre 106 = .ok (.istore_n 2, 1) := by decide +kernel
theorem dX5_thereAre_107 : decode cX5_thereAre 107 = .ok (.iinc 3 1, 3) := by decide +kernel
theorem dX5_thereAre_110 : decode cX5_thereAre 110 = .ok (.goto (-106), 3) := by decide +kernel
theorem dX5_thereAre_113 : decode cX5_thereAre 113 = .ok (.iload_n 2, 1) := by decide +kernel
theorem dX5_thereAre_114 : decode cX5_thereAre 114 = .ok (.ireturn, 1) := by decide +kernel
theorem dX5_ofKinds_0 : decode cX5_ofKinds 0 = .ok (.iconst 0, 1) := by decide +kernel
theorem dX5_ofKinds_1 : decode cX5_ofKinds 1 = .ok (.istore_n 3, 1) := by decide +kernel
theorem dX5_ofKinds_2 : decode cX5_ofKinds 2 = .ok (.iconst 0, 1) := by decide +kernel
theorem dX5_ofKinds_3 : decode cX5_ofKinds 3 = .ok (.istore 4, 2) := by decide +kernel
theorem dX5_ofKinds_5 : decode cX5_ofKinds 5 = .ok (.iload 4, 2) := by decide +kernel
theorem dX5_ofKinds_7 : decode cX5_ofKinds 7 = .ok (.aload_n 0, 1) := by decide +kernel
theorem dX5_ofKinds_8 : decode cX5_ofKinds 8 = .ok (.getfield 116, 3) := by decide +kernel
theorem dX5_ofKinds_11 : decode cX5_ofKinds 11 = .ok (.if_icmp .ge 39, 3) := by decide +kernel
theorem dX5_ofKinds_14 : decode cX5_ofKinds 14 = .ok (.iload_n 3, 1) := by decide +kernel
theorem dX5_ofKinds_15 : decode cX5_ofKinds 15 = .ok (.aload_n 0, 1) := by decide +kernel
theorem dX5_ofKinds_16 : decode cX5_ofKinds 16 = .ok (.getfield 33, 3) := by decide +kernel
theorem dX5_ofKinds_19 : decode cX5_ofKinds 19 = .ok (.iload 4, 2) := by decide +kernel
theorem dX5_ofKinds_21 : decode cX5_ofKinds 21 = .ok (.iaload, 1) := by decide +kernel
theorem dX5_ofKinds_22 : decode cX5_ofKinds 22 = .ok (.iload_n 1, 1) := by decide +kernel
theorem dX5_ofKinds_23 : decode cX5_ofKinds 23 = .ok (.if_icmp .eq 14, 3) := by decide +kernel
theorem dX5_ofKinds_26 : decode cX5_ofKinds 26 = .ok (.aload_n 0, 1) := by decide +kernel
theorem dX5_ofKinds_27 : decode cX5_ofKinds 27 = .ok (.getfield 33, 3) := by decide +kernel
theorem dX5_ofKinds_30 : decode cX5_ofKinds 30 = .ok (.iload 4, 2) := by decide +kernel
theorem dX5_ofKinds_32 : decode cX5_ofKinds 32 = .ok (.iaload, 1) := by decide +kernel
theorem dX5_ofKinds_33 : decode cX5_ofKinds 33 = .ok (.iload_n 2, 1) := by decide +kernel
theorem dX5_ofKinds_34 : decode cX5_ofKinds 34 = .ok (.if_icmp .ne 7, 3) := by decide +kernel
theorem dX5_ofKinds_37 : decode cX5_ofKinds 37 = .ok (.iconst 1, 1) := by decide +kernel
theorem dX5_ofKinds_38 : decode cX5_ofKinds 38 = .ok (.goto 4, 3) := by decide +kernel
theorem dX5_ofKinds_41 : decode cX5_ofKinds 41 = .ok (.iconst 0, 1) := by decide +kernel
theorem dX5_ofKinds_42 : decode cX5_ofKinds 42 = .ok (.iadd, 1) := by decide +kernel
theorem dX5_ofKinds_43 : decode cX5_ofKinds 43 = .ok (.istore_n 3, 1) := by decide +kernel
theorem dX5_ofKinds_44 : decode cX5_ofKinds 44 = .ok (.iinc 4 1, 3) := by decide +kernel
theorem dX5_ofKinds_47 : decode cX5_ofKinds 47 = .ok (.goto (-42), 3) := by decide +kernel
theorem dX5_ofKinds_50 : decode cX5_ofKinds 50 = .ok (.iload_n 3, 1) := by decide +kernel
theorem dX5_ofKinds_51 : decode cX5_ofKinds 51 = .ok (.ireturn, 1) := by decide +kernel
theorem dX5_count_0 : decode cX5_count 0 = .ok (.iload_n 1, 1) := by decide +kernel
theorem dX5_count_1 : decode cX5_count 1 = .ok (.tableswitch 115 0 10 #[59, 64, 70, 75, 81, 87, 95, 95, 95, 101, 108], 59) := by decide +kernel
theorem dX5_count_60 : decode cX5_count 60 = .ok (.aload_n 0, 1) := by decide +kernel
theorem dX5_count_61 : decode cX5_count 61 = .ok (.getfield 116, 3) := by decide +kernel
theorem dX5_count_64 : decode cX5_count 64 = .ok (.ireturn, 1) := by decide +kernel
theorem dX5_count_65 : decode cX5_count 65 = .ok (.aload_n 0, 1) := by decide +kernel
theorem dX5_count_66 : decode cX5_count 66 = .ok (.iconst 1, 1) := by decide +kernel
theorem dX5_count_67 : decode cX5_count 67 = .ok (.invokevirtual 122, 3) := by decide +kernel
theorem dX5_count_70 : decode cX5_count 70 = .ok (.ireturn, 1) := by decide +kernel
theorem dX5_count_71 : decode cX5_count 71 = .ok (.aload_n 0, 1) := by decide +kernel
theorem dX5_count_72 : decode cX5_count 72 = .ok (.getfield 119, 3) := by decide +kernel
theorem dX5_count_75 : decode cX5_count 75 = .ok (.ireturn, 1) := by decide +kernel
theorem dX5_count_76 : decode cX5_count 76 = .ok (.aload_n 0, 1) := by decide +kernel
theorem dX5_count_77 : decode cX5_count 77 = .ok (.iconst 0, 1) := by decide +kernel
theorem dX5_count_78 : decode cX5_count 78 = .ok (.invokevirtual 122, 3) := by decide +kernel
theorem dX5_count_81 : decode cX5_count 81 = .ok (.ireturn, 1) := by decide +kernel
theorem dX5_count_82 : decode cX5_count 82 = .ok (.aload_n 0, 1) := by decide +kernel
theorem dX5_count_83 : decode cX5_count 83 = .ok (.iconst 2, 1) := by decide +kernel
theorem dX5_count_84 : decode cX5_count 84 = .ok (.invokevirtual 122, 3) := by decide +kernel
theorem dX5_count_87 : decode cX5_count 87 = .ok (.ireturn, 1) := by decide +kernel
theorem dX5_count_88 : decode cX5_count 88 = .ok (.aload_n 0, 1) := by decide +kernel
theorem dX5_count_89 : decode cX5_count 89 = .ok (.invokevirtual 146, 3) := by decide +kernel
theorem dX5_count_92 : decode cX5_count 92 = .ok (.invokestatic 156, 3) := by decide +kernel
theorem dX5_count_95 : decode cX5_count 95 = .ok (.ireturn, 1) := by decide +kernel
theorem dX5_count_96 : decode cX5_count 96 = .ok (.aload_n 0, 1) := by decide +kernel
theorem dX5_count_97 : decode cX5_count 97 = .ok (.iload_n 1, 1) := by decide +kernel
theorem dX5_count_98 : decode cX5_count 98 = .ok (.invokevirtual 220, 3) := by decide +kernel
theorem dX5_count_101 : decode cX5_count 101 = .ok (.ireturn, 1) := by decide +kernel
theorem dX5_count_102 : decode cX5_count 102 = .ok (.aload_n 0, 1) := by decide +kernel
theorem dX5_count_103 : decode cX5_count 103 = .ok (.iconst 1, 1) := by decide +kernel
theorem dX5_count_104 : decode cX5_count 104 = .ok (.iconst 4, 1) := by decide +kernel
theorem dX5_count_105 : decode cX5_count 105 = .ok (.invokevirtual 223, 3) := by decide +kernel
theorem dX5_count_108 : decode cX5_count 108 = .ok (.ireturn, 1) := by decide +kernel
theorem dX5_count_109 : decode cX5_count 109 = .ok (.aload_n 0, 1) := by decide +kernel
theorem dX5_count_110 : decode cX5_count 110 = .ok (.iconst 2, 1) := by decide +kernel
theorem dX5_count_111 : decode cX5_count 111 = .ok (.iconst 5, 1) := by decide +kernel
theorem dX5_count_112 : decode cX5_count 112 = .ok (.invokevirtual 223, 3) := by decide +kernel
theorem dX5_count_115 : decode cX5_count 115 = .ok (.ireturn, 1) := by decide +kernel
theorem dX5_count_116 : decode cX5_count 116 = .ok (.iconst (-1), 1) := by decide +kernel
theorem dX5_count_117 : decode cX5_count 117 = .ok (.ireturn, 1) := by decide +kernel
theorem dX5_finding_0 : decode cX5_finding 0 = .ok (.aload_n 0, 1) := by decide +kernel
theorem dX5_finding_1 : decode cX5_finding 1 = .ok (.getfield 78, 3) := by decide +kernel
theorem dX5_finding_4 : decode cX5_finding 4 = .ok (.ireturn, 1) := by decide +kernel
theorem dX5_findings_0 : decode cX5_findings 0 = .ok (.iload_n 1, 1) := by decide +kernel
theorem dX5_findings_1 : decode cX5_findings 1 = .ok (.iconst 1, 1) := by decide +kernel
theorem dX5_findings_2 : decode cX5_findings 2 = .ok (.iconst 5, 1) := by decide +kernel
theorem dX5_findings_3 : decode cX5_findings 3 = .ok (.invokestatic 88, 3) := by decide +kernel
theorem dX5_findings_6 : decode cX5_findings 6 = .ok (.ifCond .eq 12, 3) := by decide +kernel
theorem dX5_findings_9 : decode cX5_findings 9 = .ok (.aload_n 0, 1) := by decide +kernel
theorem dX5_findings_10 : decode cX5_findings 10 = .ok (.getfield 7, 3) := by decide +kernel
theorem dX5_findings_13 : decode cX5_findings 13 = .ok (.iload_n 1, 1) := by decide +kernel
theorem dX5_findings_14 : decode cX5_findings 14 = .ok (.iaload, 1) := by decide +kernel
theorem dX5_findings_15 : decode cX5_findings 15 = .ok (.goto 4, 3) := by decide +kernel
theorem dX5_findings_18 : decode cX5_findings 18 = .ok (.iconst (-1), 1) := by decide +kernel
theorem dX5_findings_19 : decode cX5_findings 19 = .ok (.ireturn, 1) := by decide +kernel
theorem dX5_digest_0 : decode cX5_digest 0 = .ok (.ldc2_w 226, 3) := by decide +kernel
theorem dX5_digest_3 : decode cX5_digest 3 = .ok (.lstore_n 1, 1) := by decide +kernel
theorem dX5_digest_4 : decode cX5_digest 4 = .ok (.iconst 0, 1) := by decide +kernel
theorem dX5_digest_5 : decode cX5_digest 5 = .ok (.istore_n 3, 1) := by decide +kernel
theorem dX5_digest_6 : decode cX5_digest 6 = .ok (.iload_n 3, 1) := by decide +kernel
theorem dX5_digest_7 : decode cX5_digest 7 = .ok (.bipush 10, 2) := by decide +kernel
theorem dX5_digest_9 : decode cX5_digest 9 = .ok (.if_icmp .gt 22, 3) := by decide +kernel
theorem dX5_digest_12 : decode cX5_digest 12 = .ok (.ldc2_w 228, 3) := by decide +kernel
theorem dX5_digest_15 : decode cX5_digest 15 = .ok (.lload_n 1, 1) := by decide +kernel
theorem dX5_digest_16 : decode cX5_digest 16 = .ok (.lmul, 1) := by decide +kernel
theorem dX5_digest_17 : decode cX5_digest 17 = .ok (.aload_n 0, 1) := by decide +kernel
theorem dX5_digest_18 : decode cX5_digest 18 = .ok (.iload_n 3, 1) := by decide +kernel
theorem dX5_digest_19 : decode cX5_digest 19 = .ok (.invokevirtual 230, 3) := by decide +kernel
theorem dX5_digest_22 : decode cX5_digest 22 = .ok (.i2l, 1) := by decide +kernel
theorem dX5_digest_23 : decode cX5_digest 23 = .ok (.ladd, 1) := by decide +kernel
theorem dX5_digest_24 : decode cX5_digest 24 = .ok (.lstore_n 1, 1) := by decide +kernel
theorem dX5_digest_25 : decode cX5_digest 25 = .ok (.iinc 3 1, 3) := by decide +kernel
theorem dX5_digest_28 : decode cX5_digest 28 = .ok (.goto (-22), 3) := by decide +kernel
theorem dX5_digest_31 : decode cX5_digest 31 = .ok (.iconst 0, 1) := by decide +kernel
theorem dX5_digest_32 : decode cX5_digest 32 = .ok (.istore_n 3, 1) := by decide +kernel
theorem dX5_digest_33 : decode cX5_digest 33 = .ok (.iload_n 3, 1) := by decide +kernel
theorem dX5_digest_34 : decode cX5_digest 34 = .ok (.aload_n 0, 1) := by decide +kernel
theorem dX5_digest_35 : decode cX5_digest 35 = .ok (.getfield 116, 3) := by decide +kernel
theorem dX5_digest_38 : decode cX5_digest 38 = .ok (.if_icmp .ge 40, 3) := by decide +kernel
theorem dX5_digest_41 : decode cX5_digest 41 = .ok (.iconst 0, 1) := by decide +kernel
theorem dX5_digest_42 : decode cX5_digest 42 = .ok (.istore 4, 2) := by decide +kernel
theorem dX5_digest_44 : decode cX5_digest 44 = .ok (.iload 4, 2) := by decide +kernel
theorem dX5_digest_46 : decode cX5_digest 46 = .ok (.bipush 7, 2) := by decide +kernel
theorem dX5_digest_48 : decode cX5_digest 48 = .ok (.if_icmp .gt 24, 3) := by decide +kernel
theorem dX5_digest_51 : decode cX5_digest 51 = .ok (.ldc2_w 228, 3) := by decide +kernel
theorem dX5_digest_54 : decode cX5_digest 54 = .ok (.lload_n 1, 1) := by decide +kernel
theorem dX5_digest_55 : decode cX5_digest 55 = .ok (.lmul, 1) := by decide +kernel
theorem dX5_digest_56 : decode cX5_digest 56 = .ok (.aload_n 0, 1) := by decide +kernel
theorem dX5_digest_57 : decode cX5_digest 57 = .ok (.iload_n 3, 1) := by decide +kernel
theorem dX5_digest_58 : decode cX5_digest 58 = .ok (.iload 4, 2) := by decide +kernel
theorem dX5_digest_60 : decode cX5_digest 60 = .ok (.invokevirtual 152, 3) := by decide +kernel
theorem dX5_digest_63 : decode cX5_digest 63 = .ok (.i2l, 1) := by decide +kernel
theorem dX5_digest_64 : decode cX5_digest 64 = .ok (.ladd, 1) := by decide +kernel
theorem dX5_digest_65 : decode cX5_digest 65 = .ok (.lstore_n 1, 1) := by decide +kernel
theorem dX5_digest_66 : decode cX5_digest 66 = .ok (.iinc 4 1, 3) := by decide +kernel
theorem dX5_digest_69 : decode cX5_digest 69 = .ok (.goto (-25), 3) := by decide +kernel
theorem dX5_digest_72 : decode cX5_digest 72 = .ok (.iinc 3 1, 3) := by decide +kernel
theorem dX5_digest_75 : decode cX5_digest 75 = .ok (.goto (-42), 3) := by decide +kernel
theorem dX5_digest_78 : decode cX5_digest 78 = .ok (.iconst 0, 1) := by decide +kernel
theorem dX5_digest_79 : decode cX5_digest 79 = .ok (.istore_n 3, 1) := by decide +kernel
theorem dX5_digest_80 : decode cX5_digest 80 = .ok (.iload_n 3, 1) := by decide +kernel
theorem dX5_digest_81 : decode cX5_digest 81 = .ok (.iconst 3, 1) := by decide +kernel
theorem dX5_digest_82 : decode cX5_digest 82 = .ok (.if_icmp .ge 23, 3) := by decide +kernel
theorem dX5_digest_85 : decode cX5_digest 85 = .ok (.ldc2_w 228, 3) := by decide +kernel
theorem dX5_digest_88 : decode cX5_digest 88 = .ok (.lload_n 1, 1) := by decide +kernel
theorem dX5_digest_89 : decode cX5_digest 89 = .ok (.lmul, 1) := by decide +kernel
theorem dX5_digest_90 : decode cX5_digest 90 = .ok (.aload_n 0, 1) := by decide +kernel
theorem dX5_digest_91 : decode cX5_digest 91 = .ok (.getfield 51, 3) := by decide +kernel
theorem dX5_digest_94 : decode cX5_digest 94 = .ok (.iload_n 3, 1) := by decide +kernel
theorem dX5_digest_95 : decode cX5_digest 95 = .ok (.iaload, 1) := by decide +kernel
theorem dX5_digest_96 : decode cX5_digest 96 = .ok (.i2l, 1) := by decide +kernel
theorem dX5_digest_97 : decode cX5_digest 97 = .ok (.ladd, 1) := by decide +kernel
theorem dX5_digest_98 : decode cX5_digest 98 = .ok (.lstore_n 1, 1) := by decide +kernel
theorem dX5_digest_99 : decode cX5_digest 99 = .ok (.iinc 3 1, 3) := by decide +kernel
theorem dX5_digest_102 : decode cX5_digest 102 = .ok (.goto (-22), 3) := by decide +kernel
theorem dX5_digest_105 : decode cX5_digest 105 = .ok (.iconst 0, 1) := by decide +kernel
theorem dX5_digest_106 : decode cX5_digest 106 = .ok (.istore_n 3, 1) := by decide +kernel
theorem dX5_digest_107 : decode cX5_digest 107 = .ok (.iload_n 3, 1) := by decide +kernel
theorem dX5_digest_108 : decode cX5_digest 108 = .ok (.bipush 6, 2) := by decide +kernel
theorem dX5_digest_110 : decode cX5_digest 110 = .ok (.if_icmp .ge 63, 3) := by decide +kernel
theorem dX5_digest_113 : decode cX5_digest 113 = .ok (.ldc2_w 228, 3) := by decide +kernel
theorem dX5_digest_116 : decode cX5_digest 116 = .ok (.lload_n 1, 1) := by decide +kernel
theorem dX5_digest_117 : decode cX5_digest 117 = .ok (.lmul, 1) := by decide +kernel
theorem dX5_digest_118 : decode cX5_digest 118 = .ok (.aload_n 0, 1) := by decide +kernel
theorem dX5_digest_119 : decode cX5_digest 119 = .ok (.getfield 17, 3) := by decide +kernel
theorem dX5_digest_122 : decode cX5_digest 122 = .ok (.iload_n 3, 1) := by decide +kernel
theorem dX5_digest_123 : decode cX5_digest 123 = .ok (.iaload, 1) := by decide +kernel
theorem dX5_digest_124 : decode cX5_digest 124 = .ok (.i2l, 1) := by decide +kernel
theorem dX5_digest_125 : decode cX5_digest 125 = .ok (.ladd, 1) := by decide +kernel
theorem dX5_digest_126 : decode cX5_digest 126 = .ok (.lstore_n 1, 1) := by decide +kernel
theorem dX5_digest_127 : decode cX5_digest 127 = .ok (.iconst 0, 1) := by decide +kernel
theorem dX5_digest_128 : decode cX5_digest 128 = .ok (.istore 4, 2) := by decide +kernel
theorem dX5_digest_130 : decode cX5_digest 130 = .ok (.iload 4, 2) := by decide +kernel
theorem dX5_digest_132 : decode cX5_digest 132 = .ok (.aload_n 0, 1) := by decide +kernel
theorem dX5_digest_133 : decode cX5_digest 133 = .ok (.getfield 17, 3) := by decide +kernel
theorem dX5_digest_136 : decode cX5_digest 136 = .ok (.iload_n 3, 1) := by decide +kernel
theorem dX5_digest_137 : decode cX5_digest 137 = .ok (.iaload, 1) := by decide +kernel
theorem dX5_digest_138 : decode cX5_digest 138 = .ok (.if_icmp .ge 29, 3) := by decide +kernel
theorem dX5_digest_141 : decode cX5_digest 141 = .ok (.ldc2_w 228, 3) := by decide +kernel
theorem dX5_digest_144 : decode cX5_digest 144 = .ok (.lload_n 1, 1) := by decide +kernel
theorem dX5_digest_145 : decode cX5_digest 145 = .ok (.lmul, 1) := by decide +kernel
theorem dX5_digest_146 : decode cX5_digest 146 = .ok (.aload_n 0, 1) := by decide +kernel
theorem dX5_digest_147 : decode cX5_digest 147 = .ok (.getfield 20, 3) := by decide +kernel
theorem dX5_digest_150 : decode cX5_digest 150 = .ok (.bipush 40, 2) := by decide +kernel
theorem dX5_digest_152 : decode cX5_digest 152 = .ok (.iload_n 3, 1) := by decide +kernel
theorem dX5_digest_153 : decode cX5_digest 153 = .ok (.imul, 1) := by decide +kernel
theorem dX5_digest_154 : decode cX5_digest 154 = .ok (.iload 4, 2) := by decide +kernel
theorem dX5_digest_156 : decode cX5_digest 156 = .ok (.iadd, 1) := by decide +kernel
theorem dX5_digest_157 : decode cX5_digest 157 = .ok (.iaload, 1) := by decide +kernel
theorem dX5_digest_158 : decode cX5_digest 158 = .ok (.i2l, 1) := by decide +kernel
theorem dX5_digest_159 : decode cX5_digest 159 = .ok (.ladd, 1) := by decide +kernel
theorem dX5_digest_160 : decode cX5_digest 160 = .ok (.lstore_n 1, 1) := by decide +kernel
theorem dX5_digest_161 : decode cX5_digest 161 = .ok (.iinc 4 1, 3) := by decide +kernel
theorem dX5_digest_164 : decode cX5_digest 164 = .ok (.goto (-34), 3) := by decide +kernel
theorem dX5_digest_167 : decode cX5_digest 167 = .ok (.iinc 3 1, 3) := by decide +kernel
theorem dX5_digest_170 : decode cX5_digest 170 = .ok (.goto (-63), 3) := by decide +kernel
theorem dX5_digest_173 : decode cX5_digest 173 = .ok (.iconst 0, 1) := by decide +kernel
theorem dX5_digest_174 : decode cX5_digest 174 = .ok (.istore_n 3, 1) := by decide +kernel
theorem dX5_digest_175 : decode cX5_digest 175 = .ok (.iload_n 3, 1) := by decide +kernel
theorem dX5_digest_176 : decode cX5_digest 176 = .ok (.iconst 4, 1) := by decide +kernel
theorem dX5_digest_177 : decode cX5_digest 177 = .ok (.if_icmp .ge 63, 3) := by decide +kernel
theorem dX5_digest_180 : decode cX5_digest 180 = .ok (.ldc2_w 228, 3) := by decide +kernel
theorem dX5_digest_183 : decode cX5_digest 183 = .ok (.lload_n 1, 1) := by decide +kernel
theorem dX5_digest_184 : decode cX5_digest 184 = .ok (.lmul, 1) := by decide +kernel
theorem dX5_digest_185 : decode cX5_digest 185 = .ok (.aload_n 0, 1) := by decide +kernel
theorem dX5_digest_186 : decode cX5_digest 186 = .ok (.getfield 23, 3) := by decide +kernel
theorem dX5_digest_189 : decode cX5_digest 189 = .ok (.iload_n 3, 1) := by decide +kernel
theorem dX5_digest_190 : decode cX5_digest 190 = .ok (.iaload, 1) := by decide +kernel
theorem dX5_digest_191 : decode cX5_digest 191 = .ok (.i2l, 1) := by decide +kernel
theorem dX5_digest_192 : decode cX5_digest 192 = .ok (.ladd, 1) := by decide +kernel
theorem dX5_digest_193 : decode cX5_digest 193 = .ok (.lstore_n 1, 1) := by decide +kernel
theorem dX5_digest_194 : decode cX5_digest 194 = .ok (.iconst 0, 1) := by decide +kernel
theorem dX5_digest_195 : decode cX5_digest 195 = .ok (.istore 4, 2) := by decide +kernel
theorem dX5_digest_197 : decode cX5_digest 197 = .ok (.iload 4, 2) := by decide +kernel
theorem dX5_digest_199 : decode cX5_digest 199 = .ok (.aload_n 0, 1) := by decide +kernel
theorem dX5_digest_200 : decode cX5_digest 200 = .ok (.getfield 23, 3) := by decide +kernel
theorem dX5_digest_203 : decode cX5_digest 203 = .ok (.iload_n 3, 1) := by decide +kernel
theorem dX5_digest_204 : decode cX5_digest 204 = .ok (.iaload, 1) := by decide +kernel
theorem dX5_digest_205 : decode cX5_digest 205 = .ok (.if_icmp .ge 29, 3) := by decide +kernel
theorem dX5_digest_208 : decode cX5_digest 208 = .ok (.ldc2_w 228, 3) := by decide +kernel
theorem dX5_digest_211 : decode cX5_digest 211 = .ok (.lload_n 1, 1) := by decide +kernel
theorem dX5_digest_212 : decode cX5_digest 212 = .ok (.lmul, 1) := by decide +kernel
theorem dX5_digest_213 : decode cX5_digest 213 = .ok (.aload_n 0, 1) := by decide +kernel
theorem dX5_digest_214 : decode cX5_digest 214 = .ok (.getfield 26, 3) := by decide +kernel
theorem dX5_digest_217 : decode cX5_digest 217 = .ok (.bipush 60, 2) := by decide +kernel
theorem dX5_digest_219 : decode cX5_digest 219 = .ok (.iload_n 3, 1) := by decide +kernel
theorem dX5_digest_220 : decode cX5_digest 220 = .ok (.imul, 1) := by decide +kernel
theorem dX5_digest_221 : decode cX5_digest 221 = .ok (.iload 4, 2) := by decide +kernel
theorem dX5_digest_223 : decode cX5_digest 223 = .ok (.iadd, 1) := by decide +kernel
theorem dX5_digest_224 : decode cX5_digest 224 = .ok (.baload, 1) := by decide +kernel
theorem dX5_digest_225 : decode cX5_digest 225 = .ok (.i2l, 1) := by decide +kernel
theorem dX5_digest_226 : decode cX5_digest 226 = .ok (.ladd, 1) := by decide +kernel
theorem dX5_digest_227 : decode cX5_digest 227 = .ok (.lstore_n 1, 1) := by decide +kernel
theorem dX5_digest_228 : decode cX5_digest 228 = .ok (.iinc 4 1, 3) := by decide +kernel
theorem dX5_digest_231 : decode cX5_digest 231 = .ok (.goto (-34), 3) := by decide +kernel
theorem dX5_digest_234 : decode cX5_digest 234 = .ok (.iinc 3 1, 3) := by decide +kernel
theorem dX5_digest_237 : decode cX5_digest 237 = .ok (.goto (-62), 3) := by decide +kernel
theorem dX5_digest_240 : decode cX5_digest 240 = .ok (.lload_n 1, 1) := by decide +kernel
theorem dX5_digest_241 : decode cX5_digest 241 = .ok (.lreturn, 1) := by decide +kernel
theorem dJ6_bitCount_0f7a4_0 : decode cJ6_bitCount_0f7a4 0 = .ok (.iload_n 0, 1) := by decide +kernel
theorem dJ6_bitCount_0f7a4_1 : decode cJ6_bitCount_0f7a4 1 = .ok (.iload_n 0, 1) := by decide +kernel
theorem dJ6_bitCount_0f7a4_2 : decode cJ6_bitCount_0f7a4 2 = .ok (.iconst 1, 1) := by decide +kernel
theorem dJ6_bitCount_0f7a4_3 : decode cJ6_bitCount_0f7a4 3 = .ok (.iushr, 1) := by decide +kernel
theorem dJ6_bitCount_0f7a4_4 : decode cJ6_bitCount_0f7a4 4 = .ok (.ldc_w 265, 3) := by decide +kernel
theorem dJ6_bitCount_0f7a4_7 : decode cJ6_bitCount_0f7a4 7 = .ok (.iand, 1) := by decide +kernel
theorem dJ6_bitCount_0f7a4_8 : decode cJ6_bitCount_0f7a4 8 = .ok (.isub, 1) := by decide +kernel
theorem dJ6_bitCount_0f7a4_9 : decode cJ6_bitCount_0f7a4 9 = .ok (.istore_n 0, 1) := by decide +kernel
theorem dJ6_bitCount_0f7a4_10 : decode cJ6_bitCount_0f7a4 10 = .ok (.iload_n 0, 1) := by decide +kernel
theorem dJ6_bitCount_0f7a4_11 : decode cJ6_bitCount_0f7a4 11 = .ok (.ldc_w 266, 3) := by decide +kernel
theorem dJ6_bitCount_0f7a4_14 : decode cJ6_bitCount_0f7a4 14 = .ok (.iand, 1) := by decide +kernel
theorem dJ6_bitCount_0f7a4_15 : decode cJ6_bitCount_0f7a4 15 = .ok (.iload_n 0, 1) := by decide +kernel
theorem dJ6_bitCount_0f7a4_16 : decode cJ6_bitCount_0f7a4 16 = .ok (.iconst 2, 1) := by decide +kernel
theorem dJ6_bitCount_0f7a4_17 : decode cJ6_bitCount_0f7a4 17 = .ok (.iushr, 1) := by decide +kernel
theorem dJ6_bitCount_0f7a4_18 : decode cJ6_bitCount_0f7a4 18 = .ok (.ldc_w 266, 3) := by decide +kernel
theorem dJ6_bitCount_0f7a4_21 : decode cJ6_bitCount_0f7a4 21 = .ok (.iand, 1) := by decide +kernel
theorem dJ6_bitCount_0f7a4_22 : decode cJ6_bitCount_0f7a4 22 = .ok (.iadd, 1) := by decide +kernel
theorem dJ6_bitCount_0f7a4_23 : decode cJ6_bitCount_0f7a4 23 = .ok (.istore_n 0, 1) := by decide +kernel
theorem dJ6_bitCount_0f7a4_24 : decode cJ6_bitCount_0f7a4 24 = .ok (.iload_n 0, 1) := by decide +kernel
theorem dJ6_bitCount_0f7a4_25 : decode cJ6_bitCount_0f7a4 25 = .ok (.iload_n 0, 1) := by decide +kernel
theorem dJ6_bitCount_0f7a4_26 : decode cJ6_bitCount_0f7a4 26 = .ok (.iconst 4, 1) := by decide +kernel
theorem dJ6_bitCount_0f7a4_27 : decode cJ6_bitCount_0f7a4 27 = .ok (.iushr, 1) := by decide +kernel
theorem dJ6_bitCount_0f7a4_28 : decode cJ6_bitCount_0f7a4 28 = .ok (.iadd, 1) := by decide +kernel
theorem dJ6_bitCount_0f7a4_29 : decode cJ6_bitCount_0f7a4 29 = .ok (.ldc_w 267, 3) := by decide +kernel
theorem dJ6_bitCount_0f7a4_32 : decode cJ6_bitCount_0f7a4 32 = .ok (.iand, 1) := by decide +kernel
theorem dJ6_bitCount_0f7a4_33 : decode cJ6_bitCount_0f7a4 33 = .ok (.istore_n 0, 1) := by decide +kernel
theorem dJ6_bitCount_0f7a4_34 : decode cJ6_bitCount_0f7a4 34 = .ok (.iload_n 0, 1) := by decide +kernel
theorem dJ6_bitCount_0f7a4_35 : decode cJ6_bitCount_0f7a4 35 = .ok (.iload_n 0, 1) := by decide +kernel
theorem dJ6_bitCount_0f7a4_36 : decode cJ6_bitCount_0f7a4 36 = .ok (.bipush 8, 2) := by decide +kernel
theorem dJ6_bitCount_0f7a4_38 : decode cJ6_bitCount_0f7a4 38 = .ok (.iushr, 1) := by decide +kernel
theorem dJ6_bitCount_0f7a4_39 : decode cJ6_bitCount_0f7a4 39 = .ok (.iadd, 1) := by decide +kernel
theorem dJ6_bitCount_0f7a4_40 : decode cJ6_bitCount_0f7a4 40 = .ok (.istore_n 0, 1) := by decide +kernel
theorem dJ6_bitCount_0f7a4_41 : decode cJ6_bitCount_0f7a4 41 = .ok (.iload_n 0, 1) := by decide +kernel
theorem dJ6_bitCount_0f7a4_42 : decode cJ6_bitCount_0f7a4 42 = .ok (.iload_n 0, 1) := by decide +kernel
theorem dJ6_bitCount_0f7a4_43 : decode cJ6_bitCount_0f7a4 43 = .ok (.bipush 16, 2) := by decide +kernel
theorem dJ6_bitCount_0f7a4_45 : decode cJ6_bitCount_0f7a4 45 = .ok (.iushr, 1) := by decide +kernel
theorem dJ6_bitCount_0f7a4_46 : decode cJ6_bitCount_0f7a4 46 = .ok (.iadd, 1) := by decide +kernel
theorem dJ6_bitCount_0f7a4_47 : decode cJ6_bitCount_0f7a4 47 = .ok (.istore_n 0, 1) := by decide +kernel
theorem dJ6_bitCount_0f7a4_48 : decode cJ6_bitCount_0f7a4 48 = .ok (.iload_n 0, 1) := by decide +kernel
theorem dJ6_bitCount_0f7a4_49 : decode cJ6_bitCount_0f7a4 49 = .ok (.bipush 63, 2) := by decide +kernel
theorem dJ6_bitCount_0f7a4_51 : decode cJ6_bitCount_0f7a4 51 = .ok (.iand, 1) := by decide +kernel
theorem dJ6_bitCount_0f7a4_52 : decode cJ6_bitCount_0f7a4 52 = .ok (.ireturn, 1) := by decide +kernel
theorem dJ9_max_7cf53_0 : decode cJ9_max_7cf53 0 = .ok (.iload_n 0, 1) := by decide +kernel
theorem dJ9_max_7cf53_1 : decode cJ9_max_7cf53 1 = .ok (.iload_n 1, 1) := by decide +kernel
theorem dJ9_max_7cf53_2 : decode cJ9_max_7cf53 2 = .ok (.if_icmp .lt 7, 3) := by decide +kernel
theorem dJ9_max_7cf53_5 : decode cJ9_max_7cf53 5 = .ok (.iload_n 0, 1) := by decide +kernel
theorem dJ9_max_7cf53_6 : decode cJ9_max_7cf53 6 = .ok (.goto 4, 3) := by decide +kernel
theorem dJ9_max_7cf53_9 : decode cJ9_max_7cf53 9 = .ok (.iload_n 1, 1) := by decide +kernel
theorem dJ9_max_7cf53_10 : decode cJ9_max_7cf53 10 = .ok (.ireturn, 1) := by decide +kernel
theorem dJ9_min_7cf53_0 : decode cJ9_min_7cf53 0 = .ok (.iload_n 0, 1) := by decide +kernel
theorem dJ9_min_7cf53_1 : decode cJ9_min_7cf53 1 = .ok (.iload_n 1, 1) := by decide +kernel
theorem dJ9_min_7cf53_2 : decode cJ9_min_7cf53 2 = .ok (.if_icmp .gt 7, 3) := by decide +kernel
theorem dJ9_min_7cf53_5 : decode cJ9_min_7cf53 5 = .ok (.iload_n 0, 1) := by decide +kernel
theorem dJ9_min_7cf53_6 : decode cJ9_min_7cf53 6 = .ok (.goto 4, 3) := by decide +kernel
theorem dJ9_min_7cf53_9 : decode cJ9_min_7cf53 9 = .ok (.iload_n 1, 1) := by decide +kernel
theorem dJ9_min_7cf53_10 : decode cJ9_min_7cf53 10 = .ok (.ireturn, 1) := by decide +kernel
theorem dL_law_0 : decode cL_law 0 = .ok (.new 7, 3) := by decide +kernel
theorem dL_law_3 : decode cL_law 3 = .ok (.dup, 1) := by decide +kernel
theorem dL_law_4 : decode cL_law 4 = .ok (.invokespecial 9, 3) := by decide +kernel
theorem dL_law_7 : decode cL_law 7 = .ok (.astore_n 1, 1) := by decide +kernel
theorem dL_law_8 : decode cL_law 8 = .ok (.new 10, 3) := by decide +kernel
theorem dL_law_11 : decode cL_law 11 = .ok (.dup, 1) := by decide +kernel
theorem dL_law_12 : decode cL_law 12 = .ok (.invokespecial 12, 3) := by decide +kernel
theorem dL_law_15 : decode cL_law 15 = .ok (.astore_n 2, 1) := by decide +kernel
theorem dL_law_16 : decode cL_law 16 = .ok (.iconst 0, 1) := by decide +kernel
theorem dL_law_17 : decode cL_law 17 = .ok (.istore_n 3, 1) := by decide +kernel
theorem dL_law_18 : decode cL_law 18 = .ok (.iload_n 3, 1) := by decide +kernel
theorem dL_law_19 : decode cL_law 19 = .ok (.aload_n 0, 1) := by decide +kernel
theorem dL_law_20 : decode cL_law 20 = .ok (.arraylength, 1) := by decide +kernel
theorem dL_law_21 : decode cL_law 21 = .ok (.bipush 6, 2) := by decide +kernel
theorem dL_law_23 : decode cL_law 23 = .ok (.isub, 1) := by decide +kernel
theorem dL_law_24 : decode cL_law 24 = .ok (.if_icmp .gt 1200, 3) := by decide +kernel
theorem dL_law_27 : decode cL_law 27 = .ok (.aload_n 0, 1) := by decide +kernel
theorem dL_law_28 : decode cL_law 28 = .ok (.iload_n 3, 1) := by decide +kernel
theorem dL_law_29 : decode cL_law 29 = .ok (.iaload, 1) := by decide +kernel
theorem dL_law_30 : decode cL_law 30 = .ok (.bipush 63, 2) := by decide +kernel
theorem dL_law_32 : decode cL_law 32 = .ok (.iand, 1) := by decide +kernel
theorem dL_law_33 : decode cL_law 33 = .ok (.tableswitch 1185 0 40 #[179, 212, 255, 288, 311, 374, 397, 430, 473, 496, 519, 552, 585, 608, 631, 644, 667, 690, 713, 736, 749, 762, 785, 808, 831, 844, 857, 870, 903, 936, 969, 992, 1015, 1038, 1071, 1084, 1098, 1112, 1135, 1148, 1171], 179) := by decide +kernel
theorem dL_law_212 : decode cL_law 212 = .ok (.aload_n 1, 1) := by decide +kernel
theorem dL_law_213 : decode cL_law 213 = .ok (.aload_n 0, 1) := by decide +kernel
theorem dL_law_214 : decode cL_law 214 = .ok (.iload_n 3, 1) := by decide +kernel
theorem dL_law_215 : decode cL_law 215 = .ok (.iconst 1, 1) := by decide +kernel
theorem dL_law_216 : decode cL_law 216 = .ok (.iadd, 1) := by decide +kernel
theorem dL_law_217 : decode cL_law 217 = .ok (.iaload, 1) := by decide +kernel
theorem dL_law_218 : decode cL_law 218 = .ok (.aload_n 0, 1) := by decide +kernel
theorem dL_law_219 : decode cL_law 219 = .ok (.iload_n 3, 1) := by decide +kernel
theorem dL_law_220 : decode cL_law 220 = .ok (.iconst 2, 1) := by decide +kernel
theorem dL_law_221 : decode cL_law 221 = .ok (.iadd, 1) := by decide +kernel
theorem dL_law_222 : decode cL_law 222 = .ok (.iaload, 1) := by decide +kernel
theorem dL_law_223 : decode cL_law 223 = .ok (.invokevirtual 13, 3) := by decide +kernel
theorem dL_law_226 : decode cL_law 226 = .ok (.aload_n 2, 1) := by decide +kernel
theorem dL_law_227 : decode cL_law 227 = .ok (.aload_n 0, 1) := by decide +kernel
theorem dL_law_228 : decode cL_law 228 = .ok (.iload_n 3, 1) := by decide +kernel
theorem dL_law_229 : decode cL_law 229 = .ok (.iconst 1, 1) := by decide +kernel
theorem dL_law_230 : decode cL_law 230 = .ok (.iadd, 1) := by decide +kernel
theorem dL_law_231 : decode cL_law 231 = .ok (.iaload, 1) := by decide +kernel
theorem dL_law_232 : decode cL_law 232 = .ok (.aload_n 0, 1) := by decide +kernel
theorem dL_law_233 : decode cL_law 233 = .ok (.iload_n 3, 1) := by decide +kernel
theorem dL_law_234 : decode cL_law 234 = .ok (.iconst 2, 1) := by decide +kernel
theorem dL_law_235 : decode cL_law 235 = .ok (.iadd, 1) := by decide +kernel
theorem dL_law_236 : decode cL_law 236 = .ok (.iaload, 1) := by decide +kernel
theorem dL_law_237 : decode cL_law 237 = .ok (.invokevirtual 17, 3) := by decide +kernel
theorem dL_law_240 : decode cL_law 240 = .ok (.if_icmp .eq 978, 3) := by decide +kernel
theorem dL_law_243 : decode cL_law 243 = .ok (.iconst 0, 1) := by decide +kernel
theorem dL_law_244 : decode cL_law 244 = .ok (.ireturn, 1) := by decide +kernel
theorem dL_law_245 : decode cL_law 245 = .ok (.aload_n 1, 1) := by decide +kernel
theorem dL_law_246 : decode cL_law 246 = .ok (.aload_n 0, 1) := by decide +kernel
theorem dL_law_247 : decode cL_law 247 = .ok (.iload_n 3, 1) := by decide +kernel
theorem dL_law_248 : decode cL_law 248 = .ok (.iconst 1, 1) := by decide +kernel
theorem dL_law_249 : decode cL_law 249 = .ok (.iadd, 1) := by decide +kernel
theorem dL_law_250 : decode cL_law 250 = .ok (.iaload, 1) := by decide +kernel
theorem dL_law_251 : decode cL_law 251 = .ok (.aload_n 0, 1) := by decide +kernel
theorem dL_law_252 : decode cL_law 252 = .ok (.iload_n 3, 1) := by decide +kernel
theorem dL_law_253 : decode cL_law 253 = .ok (.iconst 2, 1) := by decide +kernel
theorem dL_law_254 : decode cL_law 254 = .ok (.iadd, 1) := by decide +kernel
theorem dL_law_255 : decode cL_law 255 = .ok (.iaload, 1) := by decide +kernel
theorem dL_law_256 : decode cL_law 256 = .ok (.aload_n 0, 1) := by decide +kernel
theorem dL_law_257 : decode cL_law 257 = .ok (.iload_n 3, 1) := by decide +kernel
theorem dL_law_258 : decode cL_law 258 = .ok (.iconst 3, 1) := by decide +kernel
theorem dL_law_259 : decode cL_law 259 = .ok (.iadd, 1) := by decide +kernel
theorem dL_law_260 : decode cL_law 260 = .ok (.iaload, 1) := by decide +kernel
theorem dL_law_261 : decode cL_law 261 = .ok (.invokevirtual 18, 3) := by decide +kernel
theorem dL_law_264 : decode cL_law 264 = .ok (.aload_n 2, 1) := by decide +kernel
theorem dL_law_265 : decode cL_law 265 = .ok (.aload_n 0, 1) := by decide +kernel
theorem dL_law_266 : decode cL_law 266 = .ok (.iload_n 3, 1) := by decide +kernel
theorem dL_law_267 : decode cL_law 267 = .ok (.iconst 1, 1) := by decide +kernel
theorem dL_law_268 : decode cL_law 268 = .ok (.iadd, 1) := by decide +kernel
theorem dL_law_269 : decode cL_law 269 = .ok (.iaload, 1) := by decide +kernel
theorem dL_law_270 : decode cL_law 270 = .ok (.aload_n 0, 1) := by decide +kernel
theorem dL_law_271 : decode cL_law 271 = .ok (.iload_n 3, 1) := by decide +kernel
theorem dL_law_272 : decode cL_law 272 = .ok (.iconst 2, 1) := by decide +kernel
theorem dL_law_273 : decode cL_law 273 = .ok (.iadd, 1) := by decide +kernel
theorem dL_law_274 : decode cL_law 274 = .ok (.iaload, 1) := by decide +kernel
theorem dL_law_275 : decode cL_law 275 = .ok (.aload_n 0, 1) := by decide +kernel
theorem dL_law_276 : decode cL_law 276 = .ok (.iload_n 3, 1) := by decide +kernel
theorem dL_law_277 : decode cL_law 277 = .ok (.iconst 3, 1) := by decide +kernel
theorem dL_law_278 : decode cL_law 278 = .ok (.iadd, 1) := by decide +kernel
theorem dL_law_279 : decode cL_law 279 = .ok (.iaload, 1) := by decide +kernel
theorem dL_law_280 : decode cL_law 280 = .ok (.invokevirtual 22, 3) := by decide +kernel
theorem dL_law_283 : decode cL_law 283 = .ok (.if_icmp .eq 935, 3) := by decide +kernel
theorem dL_law_286 : decode cL_law 286 = .ok (.iconst 0, 1) := by decide +kernel
theorem dL_law_287 : decode cL_law 287 = .ok (.ireturn, 1) := by decide +kernel
theorem dL_law_288 : decode cL_law 288 = .ok (.aload_n 1, 1) := by decide +kernel
theorem dL_law_289 : decode cL_law 289 = .ok (.aload_n 0, 1) := by decide +kernel
theorem dL_law_290 : decode cL_law 290 = .ok (.iload_n 3, 1) := by decide +kernel
theorem dL_law_291 : decode cL_law 291 = .ok (.iconst 1, 1) := by decide +kernel
theorem dL_law_292 : decode cL_law 292 = .ok (.iadd, 1) := by decide +kernel
theorem dL_law_293 : decode cL_law 293 = .ok (.iaload, 1) := by decide +kernel
theorem dL_law_294 : decode cL_law 294 = .ok (.aload_n 0, 1) := by decide +kernel
theorem dL_law_295 : decode cL_law 295 = .ok (.iload_n 3, 1) := by decide +kernel
theorem dL_law_296 : decode cL_law 296 = .ok (.iconst 2, 1) := by decide +kernel
theorem dL_law_297 : decode cL_law 297 = .ok (.iadd, 1) := by decide +kernel
theorem dL_law_298 : decode cL_law 298 = .ok (.iaload, 1) := by decide +kernel
theorem dL_law_299 : decode cL_law 299 = .ok (.invokevirtual 23, 3) := by decide +kernel
theorem dL_law_302 : decode cL_law 302 = .ok (.aload_n 2, 1) := by decide +kernel
theorem dL_law_303 : decode cL_law 303 = .ok (.aload_n 0, 1) := by decide +kernel
theorem dL_law_304 : decode cL_law 304 = .ok (.iload_n 3, 1) := by decide +kernel
theorem dL_law_305 : decode cL_law 305 = .ok (.iconst 1, 1) := by decide +kernel
theorem dL_law_306 : decode cL_law 306 = .ok (.iadd, 1) := by decide +kernel
theorem dL_law_307 : decode cL_law 307 = .ok (.iaload, 1) := by decide +kernel
theorem dL_law_308 : decode cL_law 308 = .ok (.aload_n 0, 1) := by decide +kernel
theorem dL_law_309 : decode cL_law 309 = .ok (.iload_n 3, 1) := by decide +kernel
theorem dL_law_310 : decode cL_law 310 = .ok (.iconst 2, 1) := by decide +kernel
theorem dL_law_311 : decode cL_law 311 = .ok (.iadd, 1) := by decide +kernel
theorem dL_law_312 : decode cL_law 312 = .ok (.iaload, 1) := by decide +kernel
theorem dL_law_313 : decode cL_law 313 = .ok (.invokevirtual 26, 3) := by decide +kernel
theorem dL_law_316 : decode cL_law 316 = .ok (.if_icmp .eq 902, 3) := by decide +kernel
theorem dL_law_319 : decode cL_law 319 = .ok (.iconst 0, 1) := by decide +kernel
theorem dL_law_320 : decode cL_law 320 = .ok (.ireturn, 1) := by decide +kernel
theorem dL_law_321 : decode cL_law 321 = .ok (.aload_n 1, 1) := by decide +kernel
theorem dL_law_322 : decode cL_law 322 = .ok (.aload_n 0, 1) := by decide +kernel
theorem dL_law_323 : decode cL_law 323 = .ok (.iload_n 3, 1) := by decide +kernel
theorem dL_law_324 : decode cL_law 324 = .ok (.iconst 1, 1) := by decide +kernel
theorem dL_law_325 : decode cL_law 325 = .ok (.iadd, 1) := by decide +kernel
theorem dL_law_326 : decode cL_law 326 = .ok (.iaload, 1) := by decide +kernel
theorem dL_law_327 : decode cL_law 327 = .ok (.invokevirtual 27, 3) := by decide +kernel
theorem dL_law_330 : decode cL_law 330 = .ok (.aload_n 2, 1) := by decide +kernel
theorem dL_law_331 : decode cL_law 331 = .ok (.aload_n 0, 1) := by decide +kernel
theorem dL_law_332 : decode cL_law 332 = .ok (.iload_n 3, 1) := by decide +kernel
theorem dL_law_333 : decode cL_law 333 = .ok (.iconst 1, 1) := by decide +kernel
theorem dL_law_334 : decode cL_law 334 = .ok (.iadd, 1) := by decide +kernel
theorem dL_law_335 : decode cL_law 335 = .ok (.iaload, 1) := by decide +kernel
theorem dL_law_336 : decode cL_law 336 = .ok (.invokevirtual 31, 3) := by decide +kernel
theorem dL_law_339 : decode cL_law 339 = .ok (.if_icmp .eq 879, 3) := by decide +kernel
theorem dL_law_342 : decode cL_law 342 = .ok (.iconst 0, 1) := by decide +kernel
theorem dL_law_343 : decode cL_law 343 = .ok (.ireturn, 1) := by decide +kernel
theorem dL_law_344 : decode cL_law 344 = .ok (.aload_n 1, 1) := by decide +kernel
theorem dL_law_345 : decode cL_law 345 = .ok (.aload_n 0, 1) := by decide +kernel
theorem dL_law_346 : decode cL_law 346 = .ok (.iload_n 3, 1) := by decide +kernel
theorem dL_law_347 : decode cL_law 347 = .ok (.iconst 1, 1) := by decide +kernel
theorem dL_law_348 : decode cL_law 348 = .ok (.iadd, 1) := by decide +kernel
theorem dL_law_349 : decode cL_law 349 = .ok (.iaload, 1) := by decide +kernel
theorem dL_law_350 : decode cL_law 350 = .ok (.aload_n 0, 1) := by decide +kernel
theorem dL_law_351 : decode cL_law 351 = .ok (.iload_n 3, 1) := by decide +kernel
theorem dL_law_352 : decode cL_law 352 = .ok (.iconst 2, 1) := by decide +kernel
theorem dL_law_353 : decode cL_law 353 = .ok (.iadd, 1) := by decide +kernel
theorem dL_law_354 : decode cL_law 354 = .ok (.iaload, 1) := by decide +kernel
theorem dL_law_355 : decode cL_law 355 = .ok (.aload_n 0, 1) := by decide +kernel
theorem dL_law_356 : decode cL_law 356 = .ok (.iload_n 3, 1) := by decide +kernel
theorem dL_law_357 : decode cL_law 357 = .ok (.iconst 3, 1) := by decide +kernel
theorem dL_law_358 : decode cL_law 358 = .ok (.iadd, 1) := by decide +kernel
theorem dL_law_359 : decode cL_law 359 = .ok (.iaload, 1) := by decide +kernel
theorem dL_law_360 : decode cL_law 360 = .ok (.aload_n 0, 1) := by decide +kernel
theorem dL_law_361 : decode cL_law 361 = .ok (.iload_n 3, 1) := by decide +kernel
theorem dL_law_362 : decode cL_law 362 = .ok (.iconst 4, 1) := by decide +kernel
theorem dL_law_363 : decode cL_law 363 = .ok (.iadd, 1) := by decide +kernel
theorem dL_law_364 : decode cL_law 364 = .ok (.iaload, 1) := by decide +kernel
theorem dL_law_365 : decode cL_law 365 = .ok (.aload_n 0, 1) := by decide +kernel
theorem dL_law_366 : decode cL_law 366 = .ok (.iload_n 3, 1) := by decide +kernel
theorem dL_law_367 : decode cL_law 367 = .ok (.iconst 5, 1) := by decide +kernel
theorem dL_law_368 : decode cL_law 368 = .ok (.iadd, 1) := by decide +kernel
theorem dL_law_369 : decode cL_law 369 = .ok (.iaload, 1) := by decide +kernel
theorem dL_law_370 : decode cL_law 370 = .ok (.invokevirtual 32, 3) := by decide +kernel
theorem dL_law_373 : decode cL_law 373 = .ok (.aload_n 2, 1) := by decide +kernel
theorem dL_law_374 : decode cL_law 374 = .ok (.aload_n 0, 1) := by decide +kernel
theorem dL_law_375 : decode cL_law 375 = .ok (.iload_n 3, 1) := by decide +kernel
theorem dL_law_376 : decode cL_law 376 = .ok (.iconst 1, 1) := by decide +kernel
theorem dL_law_377 : decode cL_law 377 = .ok (.iadd, 1) := by decide +kernel
theorem dL_law_378 : decode cL_law 378 = .ok (.iaload, 1) := by decide +kernel
theorem dL_law_379 : decode cL_law 379 = .ok (.aload_n 0, 1) := by decide +kernel
theorem dL_law_380 : decode cL_law 380 = .ok (.iload_n 3, 1) := by decide +kernel
theorem dL_law_381 : decode cL_law 381 = .ok (.iconst 2, 1) := by decide +kernel
theorem dL_law_382 : decode cL_law 382 = .ok (.iadd, 1) := by decide +kernel
theorem dL_law_383 : decode cL_law 383 = .ok (.iaload, 1) := by decide +kernel
theorem dL_law_384 : decode cL_law 384 = .ok (.aload_n 0, 1) := by decide +kernel
theorem dL_law_385 : decode cL_law 385 = .ok (.iload_n 3, 1) := by decide +kernel
theorem dL_law_386 : decode cL_law 386 = .ok (.iconst 3, 1) := by decide +kernel
theorem dL_law_387 : decode cL_law 387 = .ok (.iadd, 1) := by decide +kernel
theorem dL_law_388 : decode cL_law 388 = .ok (.iaload, 1) := by decide +kernel
theorem dL_law_389 : decode cL_law 389 = .ok (.aload_n 0, 1) := by decide +kernel
theorem dL_law_390 : decode cL_law 390 = .ok (.iload_n 3, 1) := by decide +kernel
theorem dL_law_391 : decode cL_law 391 = .ok (.iconst 4, 1) := by decide +kernel
theorem dL_law_392 : decode cL_law 392 = .ok (.iadd, 1) := by decide +kernel
theorem dL_law_393 : decode cL_law 393 = .ok (.iaload, 1) := by decide +kernel
theorem dL_law_394 : decode cL_law 394 = .ok (.aload_n 0, 1) := by decide +kernel
theorem dL_law_395 : decode cL_law 395 = .ok (.iload_n 3, 1) := by decide +kernel
theorem dL_law_396 : decode cL_law 396 = .ok (.iconst 5, 1) := by decide +kernel
theorem dL_law_397 : decode cL_law 397 = .ok (.iadd, 1) := by decide +kernel
theorem dL_law_398 : decode cL_law 398 = .ok (.iaload, 1) := by decide +kernel
theorem dL_law_399 : decode cL_law 399 = .ok (.invokevirtual 36, 3) := by decide +kernel
theorem dL_law_402 : decode cL_law 402 = .ok (.if_icmp .eq 816, 3) := by decide +kernel
theorem dL_law_405 : decode cL_law 405 = .ok (.iconst 0, 1) := by decide +kernel
theorem dL_law_406 : decode cL_law 406 = .ok (.ireturn, 1) := by decide +kernel
theorem dL_law_407 : decode cL_law 407 = .ok (.aload_n 1, 1) := by decide +kernel
theorem dL_law_408 : decode cL_law 408 = .ok (.aload_n 0, 1) := by decide +kernel
theorem dL_law_409 : decode cL_law 409 = .ok (.iload_n 3, 1) := by decide +kernel
theorem dL_law_410 : decode cL_law 410 = .ok (.iconst 1, 1) := by decide +kernel
theorem dL_law_411 : decode cL_law 411 = .ok (.iadd, 1) := by decide +kernel
theorem dL_law_412 : decode cL_law 412 = .ok (.iaload, 1) := by decide +kernel
theorem dL_law_413 : decode cL_law 413 = .ok (.invokevirtual 37, 3) := by decide +kernel
theorem dL_law_416 : decode cL_law 416 = .ok (.aload_n 2, 1) := by decide +kernel
theorem dL_law_417 : decode cL_law 417 = .ok (.aload_n 0, 1) := by decide +kernel
theorem dL_law_418 : decode cL_law 418 = .ok (.iload_n 3, 1) := by decide +kernel
theorem dL_law_419 : decode cL_law 419 = .ok (.iconst 1, 1) := by decide +kernel
theorem dL_law_420 : decode cL_law 420 = .ok (.iadd, 1) := by decide +kernel
theorem dL_law_421 : decode cL_law 421 = .ok (.iaload, 1) := by decide +kernel
theorem dL_law_422 : decode cL_law 422 = .ok (.invokevirtual 40, 3) := by decide +kernel
theorem dL_law_425 : decode cL_law 425 = .ok (.if_icmp .eq 793, 3) := by decide +kernel
theorem dL_law_428 : decode cL_law 428 = .ok (.iconst 0, 1) := by decide +kernel
theorem dL_law_429 : decode cL_law 429 = .ok (.ireturn, 1) := by decide +kernel
theorem dL_law_430 : decode cL_law 430 = .ok (.aload_n 1, 1) := by decide +kernel
theorem dL_law_431 : decode cL_law 431 = .ok (.aload_n 0, 1) := by decide +kernel
theorem dL_law_432 : decode cL_law 432 = .ok (.iload_n 3, 1) := by decide +kernel
theorem dL_law_433 : decode cL_law 433 = .ok (.iconst 1, 1) := by decide +kernel
theorem dL_law_434 : decode cL_law 434 = .ok (.iadd, 1) := by decide +kernel
theorem dL_law_435 : decode cL_law 435 = .ok (.iaload, 1) := by decide +kernel
theorem dL_law_436 : decode cL_law 436 = .ok (.aload_n 0, 1) := by decide +kernel
theorem dL_law_437 : decode cL_law 437 = .ok (.iload_n 3, 1) := by decide +kernel
theorem dL_law_438 : decode cL_law 438 = .ok (.iconst 2, 1) := by decide +kernel
theorem dL_law_439 : decode cL_law 439 = .ok (.iadd, 1) := by decide +kernel
theorem dL_law_440 : decode cL_law 440 = .ok (.iaload, 1) := by decide +kernel
theorem dL_law_441 : decode cL_law 441 = .ok (.invokevirtual 41, 3) := by decide +kernel
theorem dL_law_444 : decode cL_law 444 = .ok (.aload_n 2, 1) := by decide +kernel
theorem dL_law_445 : decode cL_law 445 = .ok (.aload_n 0, 1) := by decide +kernel
theorem dL_law_446 : decode cL_law 446 = .ok (.iload_n 3, 1) := by decide +kernel
theorem dL_law_447 : decode cL_law 447 = .ok (.iconst 1, 1) := by decide +kernel
theorem dL_law_448 : decode cL_law 448 = .ok (.iadd, 1) := by decide +kernel
theorem dL_law_449 : decode cL_law 449 = .ok (.iaload, 1) := by decide +kernel
theorem dL_law_450 : decode cL_law 450 = .ok (.aload_n 0, 1) := by decide +kernel
theorem dL_law_451 : decode cL_law 451 = .ok (.iload_n 3, 1) := by decide +kernel
theorem dL_law_452 : decode cL_law 452 = .ok (.iconst 2, 1) := by decide +kernel
theorem dL_law_453 : decode cL_law 453 = .ok (.iadd, 1) := by decide +kernel
theorem dL_law_454 : decode cL_law 454 = .ok (.iaload, 1) := by decide +kernel
theorem dL_law_455 : decode cL_law 455 = .ok (.invokevirtual 44, 3) := by decide +kernel
theorem dL_law_458 : decode cL_law 458 = .ok (.if_icmp .eq 760, 3) := by decide +kernel
theorem dL_law_461 : decode cL_law 461 = .ok (.iconst 0, 1) := by decide +kernel
theorem dL_law_462 : decode cL_law 462 = .ok (.ireturn, 1) := by decide +kernel
theorem dL_law_463 : decode cL_law 463 = .ok (.aload_n 1, 1) := by decide +kernel
theorem dL_law_464 : decode cL_law 464 = .ok (.aload_n 0, 1) := by decide +kernel
theorem dL_law_465 : decode cL_law 465 = .ok (.iload_n 3, 1) := by decide +kernel
theorem dL_law_466 : decode cL_law 466 = .ok (.iconst 1, 1) := by decide +kernel
theorem dL_law_467 : decode cL_law 467 = .ok (.iadd, 1) := by decide +kernel
theorem dL_law_468 : decode cL_law 468 = .ok (.iaload, 1) := by decide +kernel
theorem dL_law_469 : decode cL_law 469 = .ok (.aload_n 0, 1) := by decide +kernel
theorem dL_law_470 : decode cL_law 470 = .ok (.iload_n 3, 1) := by decide +kernel
theorem dL_law_471 : decode cL_law 471 = .ok (.iconst 2, 1) := by decide +kernel
theorem dL_law_472 : decode cL_law 472 = .ok (.iadd, 1) := by decide +kernel
theorem dL_law_473 : decode cL_law 473 = .ok (.iaload, 1) := by decide +kernel
theorem dL_law_474 : decode cL_law 474 = .ok (.aload_n 0, 1) := by decide +kernel
theorem dL_law_475 : decode cL_law 475 = .ok (.iload_n 3, 1) := by decide +kernel
theorem dL_law_476 : decode cL_law 476 = .ok (.iconst 3, 1) := by decide +kernel
theorem dL_law_477 : decode cL_law 477 = .ok (.iadd, 1) := by decide +kernel
theorem dL_law_478 : decode cL_law 478 = .ok (.iaload, 1) := by decide +kernel
theorem dL_law_479 : decode cL_law 479 = .ok (.invokevirtual 45, 3) := by decide +kernel
theorem dL_law_482 : decode cL_law 482 = .ok (.aload_n 2, 1) := by decide +kernel
theorem dL_law_483 : decode cL_law 483 = .ok (.aload_n 0, 1) := by decide +kernel
theorem dL_law_484 : decode cL_law 484 = .ok (.iload_n 3, 1) := by decide +kernel
theorem dL_law_485 : decode cL_law 485 = .ok (.iconst 1, 1) := by decide +kernel
theorem dL_law_486 : decode cL_law 486 = .ok (.iadd, 1) := by decide +kernel
theorem dL_law_487 : decode cL_law 487 = .ok (.iaload, 1) := by decide +kernel
theorem dL_law_488 : decode cL_law 488 = .ok (.aload_n 0, 1) := by decide +kernel
theorem dL_law_489 : decode cL_law 489 = .ok (.iload_n 3, 1) := by decide +kernel
theorem dL_law_490 : decode cL_law 490 = .ok (.iconst 2, 1) := by decide +kernel
theorem dL_law_491 : decode cL_law 491 = .ok (.iadd, 1) := by decide +kernel
theorem dL_law_492 : decode cL_law 492 = .ok (.iaload, 1) := by decide +kernel
theorem dL_law_493 : decode cL_law 493 = .ok (.aload_n 0, 1) := by decide +kernel
theorem dL_law_494 : decode cL_law 494 = .ok (.iload_n 3, 1) := by decide +kernel
theorem dL_law_495 : decode cL_law 495 = .ok (.iconst 3, 1) := by decide +kernel
theorem dL_law_496 : decode cL_law 496 = .ok (.iadd, 1) := by decide +kernel
theorem dL_law_497 : decode cL_law 497 = .ok (.iaload, 1) := by decide +kernel
theorem dL_law_498 : decode cL_law 498 = .ok (.invokevirtual 48, 3) := by decide +kernel
theorem dL_law_501 : decode cL_law 501 = .ok (.if_icmp .eq 717, 3) := by decide +kernel
theorem dL_law_504 : decode cL_law 504 = .ok (.iconst 0, 1) := by decide +kernel
theorem dL_law_505 : decode cL_law 505 = .ok (.ireturn, 1) := by decide +kernel
theorem dL_law_506 : decode cL_law 506 = .ok (.aload_n 1, 1) := by decide +kernel
theorem dL_law_507 : decode cL_law 507 = .ok (.aload_n 0, 1) := by decide +kernel
theorem dL_law_508 : decode cL_law 508 = .ok (.iload_n 3, 1) := by decide +kernel
theorem dL_law_509 : decode cL_law 509 = .ok (.iconst 1, 1) := by decide +kernel
theorem dL_law_510 : decode cL_law 510 = .ok (.iadd, 1) := by decide +kernel
theorem dL_law_511 : decode cL_law 511 = .ok (.iaload, 1) := by decide +kernel
theorem dL_law_512 : decode cL_law 512 = .ok (.invokevirtual 49, 3) := by decide +kernel
theorem dL_law_515 : decode cL_law 515 = .ok (.aload_n 2, 1) := by decide +kernel
theorem dL_law_516 : decode cL_law 516 = .ok (.aload_n 0, 1) := by decide +kernel
theorem dL_law_517 : decode cL_law 517 = .ok (.iload_n 3, 1) := by decide +kernel
theorem dL_law_518 : decode cL_law 518 = .ok (.iconst 1, 1) := by decide +kernel
theorem dL_law_519 : decode cL_law 519 = .ok (.iadd, 1) := by decide +kernel
theorem dL_law_520 : decode cL_law 520 = .ok (.iaload, 1) := by decide +kernel
theorem dL_law_521 : decode cL_law 521 = .ok (.invokevirtual 52, 3) := by decide +kernel
theorem dL_law_524 : decode cL_law 524 = .ok (.if_icmp .eq 694, 3) := by decide +kernel
theorem dL_law_527 : decode cL_law 527 = .ok (.iconst 0, 1) := by decide +kernel
theorem dL_law_528 : decode cL_law 528 = .ok (.ireturn, 1) := by decide +kernel
theorem dL_law_529 : decode cL_law 529 = .ok (.aload_n 1, 1) := by decide +kernel
theorem dL_law_530 : decode cL_law 530 = .ok (.aload_n 0, 1) := by decide +kernel
theorem dL_law_531 : decode cL_law 531 = .ok (.iload_n 3, 1) := by decide +kernel
theorem dL_law_532 : decode cL_law 532 = .ok (.iconst 1, 1) := by decide +kernel
theorem dL_law_533 : decode cL_law 533 = .ok (.iadd, 1) := by decide +kernel
theorem dL_law_534 : decode cL_law 534 = .ok (.iaload, 1) := by decide +kernel
theorem dL_law_535 : decode cL_law 535 = .ok (.invokevirtual 53, 3) := by decide +kernel
theorem dL_law_538 : decode cL_law 538 = .ok (.aload_n 2, 1) := by decide +kernel
theorem dL_law_539 : decode cL_law 539 = .ok (.aload_n 0, 1) := by decide +kernel
theorem dL_law_540 : decode cL_law 540 = .ok (.iload_n 3, 1) := by decide +kernel
theorem dL_law_541 : decode cL_law 541 = .ok (.iconst 1, 1) := by decide +kernel
theorem dL_law_542 : decode cL_law 542 = .ok (.iadd, 1) := by decide +kernel
theorem dL_law_543 : decode cL_law 543 = .ok (.iaload, 1) := by decide +kernel
theorem dL_law_544 : decode cL_law 544 = .ok (.invokevirtual 56, 3) := by decide +kernel
theorem dL_law_547 : decode cL_law 547 = .ok (.if_icmp .eq 671, 3) := by decide +kernel
theorem dL_law_550 : decode cL_law 550 = .ok (.iconst 0, 1) := by decide +kernel
theorem dL_law_551 : decode cL_law 551 = .ok (.ireturn, 1) := by decide +kernel
theorem dL_law_552 : decode cL_law 552 = .ok (.aload_n 1, 1) := by decide +kernel
theorem dL_law_553 : decode cL_law 553 = .ok (.aload_n 0, 1) := by decide +kernel
theorem dL_law_554 : decode cL_law 554 = .ok (.iload_n 3, 1) := by decide +kernel
theorem dL_law_555 : decode cL_law 555 = .ok (.iconst 1, 1) := by decide +kernel
theorem dL_law_556 : decode cL_law 556 = .ok (.iadd, 1) := by decide +kernel
theorem dL_law_557 : decode cL_law 557 = .ok (.iaload, 1) := by decide +kernel
theorem dL_law_558 : decode cL_law 558 = .ok (.aload_n 0, 1) := by decide +kernel
theorem dL_law_559 : decode cL_law 559 = .ok (.iload_n 3, 1) := by decide +kernel
theorem dL_law_560 : decode cL_law 560 = .ok (.iconst 2, 1) := by decide +kernel
theorem dL_law_561 : decode cL_law 561 = .ok (.iadd, 1) := by decide +kernel
theorem dL_law_562 : decode cL_law 562 = .ok (.iaload, 1) := by decide +kernel
theorem dL_law_563 : decode cL_law 563 = .ok (.invokevirtual 57, 3) := by decide +kernel
theorem dL_law_566 : decode cL_law 566 = .ok (.aload_n 2, 1) := by decide +kernel
theorem dL_law_567 : decode cL_law 567 = .ok (.aload_n 0, 1) := by decide +kernel
theorem dL_law_568 : decode cL_law 568 = .ok (.iload_n 3, 1) := by decide +kernel
theorem dL_law_569 : decode cL_law 569 = .ok (.iconst 1, 1) := by decide +kernel
theorem dL_law_570 : decode cL_law 570 = .ok (.iadd, 1) := by decide +kernel
theorem dL_law_571 : decode cL_law 571 = .ok (.iaload, 1) := by decide +kernel
theorem dL_law_572 : decode cL_law 572 = .ok (.aload_n 0, 1) := by decide +kernel
theorem dL_law_573 : decode cL_law 573 = .ok (.iload_n 3, 1) := by decide +kernel
theorem dL_law_574 : decode cL_law 574 = .ok (.iconst 2, 1) := by decide +kernel
theorem dL_law_575 : decode cL_law 575 = .ok (.iadd, 1) := by decide +kernel
theorem dL_law_576 : decode cL_law 576 = .ok (.iaload, 1) := by decide +kernel
theorem dL_law_577 : decode cL_law 577 = .ok (.invokevirtual 60, 3) := by decide +kernel
theorem dL_law_580 : decode cL_law 580 = .ok (.if_icmp .eq 638, 3) := by decide +kernel
theorem dL_law_583 : decode cL_law 583 = .ok (.iconst 0, 1) := by decide +kernel
theorem dL_law_584 : decode cL_law 584 = .ok (.ireturn, 1) := by decide +kernel
theorem dL_law_585 : decode cL_law 585 = .ok (.aload_n 1, 1) := by decide +kernel
theorem dL_law_586 : decode cL_law 586 = .ok (.aload_n 0, 1) := by decide +kernel
theorem dL_law_587 : decode cL_law 587 = .ok (.iload_n 3, 1) := by decide +kernel
theorem dL_law_588 : decode cL_law 588 = .ok (.iconst 1, 1) := by decide +kernel
theorem dL_law_589 : decode cL_law 589 = .ok (.iadd, 1) := by decide +kernel
theorem dL_law_590 : decode cL_law 590 = .ok (.iaload, 1) := by decide +kernel
theorem dL_law_591 : decode cL_law 591 = .ok (.aload_n 0, 1) := by decide +kernel
theorem dL_law_592 : decode cL_law 592 = .ok (.iload_n 3, 1) := by decide +kernel
theorem dL_law_593 : decode cL_law 593 = .ok (.iconst 2, 1) := by decide +kernel
theorem dL_law_594 : decode cL_law 594 = .ok (.iadd, 1) := by decide +kernel
theorem dL_law_595 : decode cL_law 595 = .ok (.iaload, 1) := by decide +kernel
theorem dL_law_596 : decode cL_law 596 = .ok (.invokevirtual 61, 3) := by decide +kernel
theorem dL_law_599 : decode cL_law 599 = .ok (.aload_n 2, 1) := by decide +kernel
theorem dL_law_600 : decode cL_law 600 = .ok (.aload_n 0, 1) := by decide +kernel
theorem dL_law_601 : decode cL_law 601 = .ok (.iload_n 3, 1) := by decide +kernel
theorem dL_law_602 : decode cL_law 602 = .ok (.iconst 1, 1) := by decide +kernel
theorem dL_law_603 : decode cL_law 603 = .ok (.iadd, 1) := by decide +kernel
theorem dL_law_604 : decode cL_law 604 = .ok (.iaload, 1) := by decide +kernel
theorem dL_law_605 : decode cL_law 605 = .ok (.aload_n 0, 1) := by decide +kernel
theorem dL_law_606 : decode cL_law 606 = .ok (.iload_n 3, 1) := by decide +kernel
theorem dL_law_607 : decode cL_law 607 = .ok (.iconst 2, 1) := by decide +kernel
theorem dL_law_608 : decode cL_law 608 = .ok (.iadd, 1) := by decide +kernel
theorem dL_law_609 : decode cL_law 609 = .ok (.iaload, 1) := by decide +kernel
theorem dL_law_610 : decode cL_law 610 = .ok (.invokevirtual 64, 3) := by decide +kernel
theorem dL_law_613 : decode cL_law 613 = .ok (.if_icmp .eq 605, 3) := by decide +kernel
theorem dL_law_616 : decode cL_law 616 = .ok (.iconst 0, 1) := by decide +kernel
theorem dL_law_617 : decode cL_law 617 = .ok (.ireturn, 1) := by decide +kernel
theorem dL_law_618 : decode cL_law 618 = .ok (.aload_n 1, 1) := by decide +kernel
theorem dL_law_619 : decode cL_law 619 = .ok (.aload_n 0, 1) := by decide +kernel
theorem dL_law_620 : decode cL_law 620 = .ok (.iload_n 3, 1) := by decide +kernel
theorem dL_law_621 : decode cL_law 621 = .ok (.iconst 1, 1) := by decide +kernel
theorem dL_law_622 : decode cL_law 622 = .ok (.iadd, 1) := by decide +kernel
theorem dL_law_623 : decode cL_law 623 = .ok (.iaload, 1) := by decide +kernel
theorem dL_law_624 : decode cL_law 624 = .ok (.invokevirtual 65, 3) := by decide +kernel
theorem dL_law_627 : decode cL_law 627 = .ok (.aload_n 2, 1) := by decide +kernel
theorem dL_law_628 : decode cL_law 628 = .ok (.aload_n 0, 1) := by decide +kernel
theorem dL_law_629 : decode cL_law 629 = .ok (.iload_n 3, 1) := by decide +kernel
theorem dL_law_630 : decode cL_law 630 = .ok (.iconst 1, 1) := by decide +kernel
theorem dL_law_631 : decode cL_law 631 = .ok (.iadd, 1) := by decide +kernel
theorem dL_law_632 : decode cL_law 632 = .ok (.iaload, 1) := by decide +kernel
theorem dL_law_633 : decode cL_law 633 = .ok (.invokevirtual 68, 3) := by decide +kernel
theorem dL_law_636 : decode cL_law 636 = .ok (.if_icmp .eq 582, 3) := by decide +kernel
theorem dL_law_639 : decode cL_law 639 = .ok (.iconst 0, 1) := by decide +kernel
theorem dL_law_640 : decode cL_law 640 = .ok (.ireturn, 1) := by decide +kernel
theorem dL_law_641 : decode cL_law 641 = .ok (.aload_n 1, 1) := by decide +kernel
theorem dL_law_642 : decode cL_law 642 = .ok (.aload_n 0, 1) := by decide +kernel
theorem dL_law_643 : decode cL_law 643 = .ok (.iload_n 3, 1) := by decide +kernel
theorem dL_law_644 : decode cL_law 644 = .ok (.iconst 1, 1) := by decide +kernel
theorem dL_law_645 : decode cL_law 645 = .ok (.iadd, 1) := by decide +kernel
theorem dL_law_646 : decode cL_law 646 = .ok (.iaload, 1) := by decide +kernel
theorem dL_law_647 : decode cL_law 647 = .ok (.invokevirtual 69, 3) := by decide +kernel
theorem dL_law_650 : decode cL_law 650 = .ok (.aload_n 2, 1) := by decide +kernel
theorem dL_law_651 : decode cL_law 651 = .ok (.aload_n 0, 1) := by decide +kernel
theorem dL_law_652 : decode cL_law 652 = .ok (.iload_n 3, 1) := by decide +kernel
theorem dL_law_653 : decode cL_law 653 = .ok (.iconst 1, 1) := by decide +kernel
theorem dL_law_654 : decode cL_law 654 = .ok (.iadd, 1) := by decide +kernel
theorem dL_law_655 : decode cL_law 655 = .ok (.iaload, 1) := by decide +kernel
theorem dL_law_656 : decode cL_law 656 = .ok (.invokevirtual 72, 3) := by decide +kernel
theorem dL_law_659 : decode cL_law 659 = .ok (.if_icmp .eq 559, 3) := by decide +kernel
theorem dL_law_662 : decode cL_law 662 = .ok (.iconst 0, 1) := by decide +kernel
theorem dL_law_663 : decode cL_law 663 = .ok (.ireturn, 1) := by decide +kernel
theorem dL_law_664 : decode cL_law 664 = .ok (.aload_n 1, 1) := by decide +kernel
theorem dL_law_665 : decode cL_law 665 = .ok (.invokevirtual 73, 3) := by decide +kernel
theorem dL_law_668 : decode cL_law 668 = .ok (.aload_n 2, 1) := by decide +kernel
theorem dL_law_669 : decode cL_law 669 = .ok (.invokevirtual 77, 3) := by decide +kernel
theorem dL_law_672 : decode cL_law 672 = .ok (.if_icmp .eq 546, 3) := by decide +kernel
theorem dL_law_675 : decode cL_law 675 = .ok (.iconst 0, 1) := by decide +kernel
theorem dL_law_676 : decode cL_law 676 = .ok (.ireturn, 1) := by decide +kernel
theorem dL_law_677 : decode cL_law 677 = .ok (.aload_n 1, 1) := by decide +kernel
theorem dL_law_678 : decode cL_law 678 = .ok (.aload_n 0, 1) := by decide +kernel
theorem dL_law_679 : decode cL_law 679 = .ok (.iload_n 3, 1) := by decide +kernel
theorem dL_law_680 : decode cL_law 680 = .ok (.iconst 1, 1) := by decide +kernel
theorem dL_law_681 : decode cL_law 681 = .ok (.iadd, 1) := by decide +kernel
theorem dL_law_682 : decode cL_law 682 = .ok (.iaload, 1) := by decide +kernel
theorem dL_law_683 : decode cL_law 683 = .ok (.invokevirtual 78, 3) := by decide +kernel
theorem dL_law_686 : decode cL_law 686 = .ok (.aload_n 2, 1) := by decide +kernel
theorem dL_law_687 : decode cL_law 687 = .ok (.aload_n 0, 1) := by decide +kernel
theorem dL_law_688 : decode cL_law 688 = .ok (.iload_n 3, 1) := by decide +kernel
theorem dL_law_689 : decode cL_law 689 = .ok (.iconst 1, 1) := by decide +kernel
theorem dL_law_690 : decode cL_law 690 = .ok (.iadd, 1) := by decide +kernel
theorem dL_law_691 : decode cL_law 691 = .ok (.iaload, 1) := by decide +kernel
theorem dL_law_692 : decode cL_law 692 = .ok (.invokevirtual 81, 3) := by decide +kernel
theorem dL_law_695 : decode cL_law 695 = .ok (.if_icmp .eq 523, 3) := by decide +kernel
theorem dL_law_698 : decode cL_law 698 = .ok (.iconst 0, 1) := by decide +kernel
theorem dL_law_699 : decode cL_law 699 = .ok (.ireturn, 1) := by decide +kernel
theorem dL_law_700 : decode cL_law 700 = .ok (.aload_n 1, 1) := by decide +kernel
theorem dL_law_701 : decode cL_law 701 = .ok (.aload_n 0, 1) := by decide +kernel
theorem dL_law_702 : decode cL_law 702 = .ok (.iload_n 3, 1) := by decide +kernel
theorem dL_law_703 : decode cL_law 703 = .ok (.iconst 1, 1) := by decide +kernel
theorem dL_law_704 : decode cL_law 704 = .ok (.iadd, 1) := by decide +kernel
theorem dL_law_705 : decode cL_law 705 = .ok (.iaload, 1) := by decide +kernel
theorem dL_law_706 : decode cL_law 706 = .ok (.invokevirtual 82, 3) := by decide +kernel
theorem dL_law_709 : decode cL_law 709 = .ok (.aload_n 2, 1) := by decide +kernel
theorem dL_law_710 : decode cL_law 710 = .ok (.aload_n 0, 1) := by decide +kernel
theorem dL_law_711 : decode cL_law 711 = .ok (.iload_n 3, 1) := by decide +kernel
theorem dL_law_712 : decode cL_law 712 = .ok (.iconst 1, 1) := by decide +kernel
theorem dL_law_713 : decode cL_law 713 = .ok (.iadd, 1) := by decide +kernel
theorem dL_law_714 : decode cL_law 714 = .ok (.iaload, 1) := by decide +kernel
theorem dL_law_715 : decode cL_law 715 = .ok (.invokevirtual 85, 3) := by decide +kernel
theorem dL_law_718 : decode cL_law 718 = .ok (.if_icmp .eq 500, 3) := by decide +kernel
theorem dL_law_721 : decode cL_law 721 = .ok (.iconst 0, 1) := by decide +kernel
theorem dL_law_722 : decode cL_law 722 = .ok (.ireturn, 1) := by decide +kernel
theorem dL_law_723 : decode cL_law 723 = .ok (.aload_n 1, 1) := by decide +kernel
theorem dL_law_724 : decode cL_law 724 = .ok (.aload_n 0, 1) := by decide +kernel
theorem dL_law_725 : decode cL_law 725 = .ok (.iload_n 3, 1) := by decide +kernel
theorem dL_law_726 : decode cL_law 726 = .ok (.iconst 1, 1) := by decide +kernel
theorem dL_law_727 : decode cL_law 727 = .ok (.iadd, 1) := by decide +kernel
theorem dL_law_728 : decode cL_law 728 = .ok (.iaload, 1) := by decide +kernel
theorem dL_law_729 : decode cL_law 729 = .ok (.invokevirtual 86, 3) := by decide +kernel
theorem dL_law_732 : decode cL_law 732 = .ok (.aload_n 2, 1) := by decide +kernel
theorem dL_law_733 : decode cL_law 733 = .ok (.aload_n 0, 1) := by decide +kernel
theorem dL_law_734 : decode cL_law 734 = .ok (.iload_n 3, 1) := by decide +kernel
theorem dL_law_735 : decode cL_law 735 = .ok (.iconst 1, 1) := by decide +kernel
theorem dL_law_736 : decode cL_law 736 = .ok (.iadd, 1) := by decide +kernel
theorem dL_law_737 : decode cL_law 737 = .ok (.iaload, 1) := by decide +kernel
theorem dL_law_738 : decode cL_law 738 = .ok (.invokevirtual 89, 3) := by decide +kernel
theorem dL_law_741 : decode cL_law 741 = .ok (.if_icmp .eq 477, 3) := by decide +kernel
theorem dL_law_744 : decode cL_law 744 = .ok (.iconst 0, 1) := by decide +kernel
theorem dL_law_745 : decode cL_law 745 = .ok (.ireturn, 1) := by decide +kernel
theorem dL_law_746 : decode cL_law 746 = .ok (.aload_n 1, 1) := by decide +kernel
theorem dL_law_747 : decode cL_law 747 = .ok (.aload_n 0, 1) := by decide +kernel
theorem dL_law_748 : decode cL_law 748 = .ok (.iload_n 3, 1) := by decide +kernel
theorem dL_law_749 : decode cL_law 749 = .ok (.iconst 1, 1) := by decide +kernel
theorem dL_law_750 : decode cL_law 750 = .ok (.iadd, 1) := by decide +kernel
theorem dL_law_751 : decode cL_law 751 = .ok (.iaload, 1) := by decide +kernel
theorem dL_law_752 : decode cL_law 752 = .ok (.invokevirtual 90, 3) := by decide +kernel
theorem dL_law_755 : decode cL_law 755 = .ok (.aload_n 2, 1) := by decide +kernel
theorem dL_law_756 : decode cL_law 756 = .ok (.aload_n 0, 1) := by decide +kernel
theorem dL_law_757 : decode cL_law 757 = .ok (.iload_n 3, 1) := by decide +kernel
theorem dL_law_758 : decode cL_law 758 = .ok (.iconst 1, 1) := by decide +kernel
theorem dL_law_759 : decode cL_law 759 = .ok (.iadd, 1) := by decide +kernel
theorem dL_law_760 : decode cL_law 760 = .ok (.iaload, 1) := by decide +kernel
theorem dL_law_761 : decode cL_law 761 = .ok (.invokevirtual 93, 3) := by decide +kernel
theorem dL_law_764 : decode cL_law 764 = .ok (.if_icmp .eq 454, 3) := by decide +kernel
theorem dL_law_767 : decode cL_law 767 = .ok (.iconst 0, 1) := by decide +kernel
theorem dL_law_768 : decode cL_law 768 = .ok (.ireturn, 1) := by decide +kernel
theorem dL_law_769 : decode cL_law 769 = .ok (.aload_n 1, 1) := by decide +kernel
theorem dL_law_770 : decode cL_law 770 = .ok (.invokevirtual 94, 3) := by decide +kernel
theorem dL_law_773 : decode cL_law 773 = .ok (.aload_n 2, 1) := by decide +kernel
theorem dL_law_774 : decode cL_law 774 = .ok (.invokevirtual 97, 3) := by decide +kernel
theorem dL_law_777 : decode cL_law 777 = .ok (.if_icmp .eq 441, 3) := by decide +kernel
theorem dL_law_780 : decode cL_law 780 = .ok (.iconst 0, 1) := by decide +kernel
theorem dL_law_781 : decode cL_law 781 = .ok (.ireturn, 1) := by decide +kernel
theorem dL_law_782 : decode cL_law 782 = .ok (.aload_n 1, 1) := by decide +kernel
theorem dL_law_783 : decode cL_law 783 = .ok (.invokevirtual 98, 3) := by decide +kernel
theorem dL_law_786 : decode cL_law 786 = .ok (.aload_n 2, 1) := by decide +kernel
theorem dL_law_787 : decode cL_law 787 = .ok (.invokevirtual 101, 3) := by decide +kernel
theorem dL_law_790 : decode cL_law 790 = .ok (.if_icmp .eq 428, 3) := by decide +kernel
theorem dL_law_793 : decode cL_law 793 = .ok (.iconst 0, 1) := by decide +kernel
theorem dL_law_794 : decode cL_law 794 = .ok (.ireturn, 1) := by decide +kernel
theorem dL_law_795 : decode cL_law 795 = .ok (.aload_n 1, 1) := by decide +kernel
theorem dL_law_796 : decode cL_law 796 = .ok (.aload_n 0, 1) := by decide +kernel
theorem dL_law_797 : decode cL_law 797 = .ok (.iload_n 3, 1) := by decide +kernel
theorem dL_law_798 : decode cL_law 798 = .ok (.iconst 1, 1) := by decide +kernel
theorem dL_law_799 : decode cL_law 799 = .ok (.iadd, 1) := by decide +kernel
theorem dL_law_800 : decode cL_law 800 = .ok (.iaload, 1) := by decide +kernel
theorem dL_law_801 : decode cL_law 801 = .ok (.invokevirtual 102, 3) := by decide +kernel
theorem dL_law_804 : decode cL_law 804 = .ok (.aload_n 2, 1) := by decide +kernel
theorem dL_law_805 : decode cL_law 805 = .ok (.aload_n 0, 1) := by decide +kernel
theorem dL_law_806 : decode cL_law 806 = .ok (.iload_n 3, 1) := by decide +kernel
theorem dL_law_807 : decode cL_law 807 = .ok (.iconst 1, 1) := by decide +kernel
theorem dL_law_808 : decode cL_law 808 = .ok (.iadd, 1) := by decide +kernel
theorem dL_law_809 : decode cL_law 809 = .ok (.iaload, 1) := by decide +kernel
theorem dL_law_810 : decode cL_law 810 = .ok (.invokevirtual 105, 3) := by decide +kernel
theorem dL_law_813 : decode cL_law 813 = .ok (.if_icmp .eq 405, 3) := by decide +kernel
theorem dL_law_816 : decode cL_law 816 = .ok (.iconst 0, 1) := by decide +kernel
theorem dL_law_817 : decode cL_law 817 = .ok (.ireturn, 1) := by decide +kernel
theorem dL_law_818 : decode cL_law 818 = .ok (.aload_n 1, 1) := by decide +kernel
theorem dL_law_819 : decode cL_law 819 = .ok (.aload_n 0, 1) := by decide +kernel
theorem dL_law_820 : decode cL_law 820 = .ok (.iload_n 3, 1) := by decide +kernel
theorem dL_law_821 : decode cL_law 821 = .ok (.iconst 1, 1) := by decide +kernel
theorem dL_law_822 : decode cL_law 822 = .ok (.iadd, 1) := by decide +kernel
theorem dL_law_823 : decode cL_law 823 = .ok (.iaload, 1) := by decide +kernel
theorem dL_law_824 : decode cL_law 824 = .ok (.invokevirtual 106, 3) := by decide +kernel
theorem dL_law_827 : decode cL_law 827 = .ok (.aload_n 2, 1) := by decide +kernel
theorem dL_law_828 : decode cL_law 828 = .ok (.aload_n 0, 1) := by decide +kernel
theorem dL_law_829 : decode cL_law 829 = .ok (.iload_n 3, 1) := by decide +kernel
theorem dL_law_830 : decode cL_law 830 = .ok (.iconst 1, 1) := by decide +kernel
theorem dL_law_831 : decode cL_law 831 = .ok (.iadd, 1) := by decide +kernel
theorem dL_law_832 : decode cL_law 832 = .ok (.iaload, 1) := by decide +kernel
theorem dL_law_833 : decode cL_law 833 = .ok (.invokevirtual 109, 3) := by decide +kernel
theorem dL_law_836 : decode cL_law 836 = .ok (.if_icmp .eq 382, 3) := by decide +kernel
theorem dL_law_839 : decode cL_law 839 = .ok (.iconst 0, 1) := by decide +kernel
theorem dL_law_840 : decode cL_law 840 = .ok (.ireturn, 1) := by decide +kernel
theorem dL_law_841 : decode cL_law 841 = .ok (.aload_n 1, 1) := by decide +kernel
theorem dL_law_842 : decode cL_law 842 = .ok (.aload_n 0, 1) := by decide +kernel
theorem dL_law_843 : decode cL_law 843 = .ok (.iload_n 3, 1) := by decide +kernel
theorem dL_law_844 : decode cL_law 844 = .ok (.iconst 1, 1) := by decide +kernel
theorem dL_law_845 : decode cL_law 845 = .ok (.iadd, 1) := by decide +kernel
theorem dL_law_846 : decode cL_law 846 = .ok (.iaload, 1) := by decide +kernel
theorem dL_law_847 : decode cL_law 847 = .ok (.invokevirtual 110, 3) := by decide +kernel
theorem dL_law_850 : decode cL_law 850 = .ok (.aload_n 2, 1) := by decide +kernel
theorem dL_law_851 : decode cL_law 851 = .ok (.aload_n 0, 1) := by decide +kernel
theorem dL_law_852 : decode cL_law 852 = .ok (.iload_n 3, 1) := by decide +kernel
theorem dL_law_853 : decode cL_law 853 = .ok (.iconst 1, 1) := by decide +kernel
theorem dL_law_854 : decode cL_law 854 = .ok (.iadd, 1) := by decide +kernel
theorem dL_law_855 : decode cL_law 855 = .ok (.iaload, 1) := by decide +kernel
theorem dL_law_856 : decode cL_law 856 = .ok (.invokevirtual 113, 3) := by decide +kernel
theorem dL_law_859 : decode cL_law 859 = .ok (.if_icmp .eq 359, 3) := by decide +kernel
theorem dL_law_862 : decode cL_law 862 = .ok (.iconst 0, 1) := by decide +kernel
theorem dL_law_863 : decode cL_law 863 = .ok (.ireturn, 1) := by decide +kernel
theorem dL_law_864 : decode cL_law 864 = .ok (.aload_n 1, 1) := by decide +kernel
theorem dL_law_865 : decode cL_law 865 = .ok (.invokevirtual 114, 3) := by decide +kernel
theorem dL_law_868 : decode cL_law 868 = .ok (.aload_n 2, 1) := by decide +kernel
theorem dL_law_869 : decode cL_law 869 = .ok (.invokevirtual 117, 3) := by decide +kernel
theorem dL_law_872 : decode cL_law 872 = .ok (.if_icmp .eq 346, 3) := by decide +kernel
theorem dL_law_875 : decode cL_law 875 = .ok (.iconst 0, 1) := by decide +kernel
theorem dL_law_876 : decode cL_law 876 = .ok (.ireturn, 1) := by decide +kernel
theorem dL_law_877 : decode cL_law 877 = .ok (.aload_n 1, 1) := by decide +kernel
theorem dL_law_878 : decode cL_law 878 = .ok (.invokevirtual 118, 3) := by decide +kernel
theorem dL_law_881 : decode cL_law 881 = .ok (.aload_n 2, 1) := by decide +kernel
theorem dL_law_882 : decode cL_law 882 = .ok (.invokevirtual 121, 3) := by decide +kernel
theorem dL_law_885 : decode cL_law 885 = .ok (.if_icmp .eq 333, 3) := by decide +kernel
theorem dL_law_888 : decode cL_law 888 = .ok (.iconst 0, 1) := by decide +kernel
theorem dL_law_889 : decode cL_law 889 = .ok (.ireturn, 1) := by decide +kernel
theorem dL_law_890 : decode cL_law 890 = .ok (.aload_n 1, 1) := by decide +kernel
theorem dL_law_891 : decode cL_law 891 = .ok (.invokevirtual 122, 3) := by decide +kernel
theorem dL_law_894 : decode cL_law 894 = .ok (.aload_n 2, 1) := by decide +kernel
theorem dL_law_895 : decode cL_law 895 = .ok (.invokevirtual 125, 3) := by decide +kernel
theorem dL_law_898 : decode cL_law 898 = .ok (.if_icmp .eq 320, 3) := by decide +kernel
theorem dL_law_901 : decode cL_law 901 = .ok (.iconst 0, 1) := by decide +kernel
theorem dL_law_902 : decode cL_law 902 = .ok (.ireturn, 1) := by decide +kernel
theorem dL_law_903 : decode cL_law 903 = .ok (.aload_n 1, 1) := by decide +kernel
theorem dL_law_904 : decode cL_law 904 = .ok (.aload_n 0, 1) := by decide +kernel
theorem dL_law_905 : decode cL_law 905 = .ok (.iload_n 3, 1) := by decide +kernel
theorem dL_law_906 : decode cL_law 906 = .ok (.iconst 1, 1) := by decide +kernel
theorem dL_law_907 : decode cL_law 907 = .ok (.iadd, 1) := by decide +kernel
theorem dL_law_908 : decode cL_law 908 = .ok (.iaload, 1) := by decide +kernel
theorem dL_law_909 : decode cL_law 909 = .ok (.aload_n 0, 1) := by decide +kernel
theorem dL_law_910 : decode cL_law 910 = .ok (.iload_n 3, 1) := by decide +kernel
theorem dL_law_911 : decode cL_law 911 = .ok (.iconst 2, 1) := by decide +kernel
theorem dL_law_912 : decode cL_law 912 = .ok (.iadd, 1) := by decide +kernel
theorem dL_law_913 : decode cL_law 913 = .ok (.iaload, 1) := by decide +kernel
theorem dL_law_914 : decode cL_law 914 = .ok (.invokevirtual 126, 3) := by decide +kernel
theorem dL_law_917 : decode cL_law 917 = .ok (.aload_n 2, 1) := by decide +kernel
theorem dL_law_918 : decode cL_law 918 = .ok (.aload_n 0, 1) := by decide +kernel
theorem dL_law_919 : decode cL_law 919 = .ok (.iload_n 3, 1) := by decide +kernel
theorem dL_law_920 : decode cL_law 920 = .ok (.iconst 1, 1) := by decide +kernel
theorem dL_law_921 : decode cL_law 921 = .ok (.iadd, 1) := by decide +kernel
theorem dL_law_922 : decode cL_law 922 = .ok (.iaload, 1) := by decide +kernel
theorem dL_law_923 : decode cL_law 923 = .ok (.aload_n 0, 1) := by decide +kernel
theorem dL_law_924 : decode cL_law 924 = .ok (.iload_n 3, 1) := by decide +kernel
theorem dL_law_925 : decode cL_law 925 = .ok (.iconst 2, 1) := by decide +kernel
theorem dL_law_926 : decode cL_law 926 = .ok (.iadd, 1) := by decide +kernel
theorem dL_law_927 : decode cL_law 927 = .ok (.iaload, 1) := by decide +kernel
theorem dL_law_928 : decode cL_law 928 = .ok (.invokevirtual 129, 3) := by decide +kernel
theorem dL_law_931 : decode cL_law 931 = .ok (.if_icmp .eq 287, 3) := by decide +kernel
theorem dL_law_934 : decode cL_law 934 = .ok (.iconst 0, 1) := by decide +kernel
theorem dL_law_935 : decode cL_law 935 = .ok (.ireturn, 1) := by decide +kernel
theorem dL_law_936 : decode cL_law 936 = .ok (.aload_n 1, 1) := by decide +kernel
theorem dL_law_937 : decode cL_law 937 = .ok (.aload_n 0, 1) := by decide +kernel
theorem dL_law_938 : decode cL_law 938 = .ok (.iload_n 3, 1) := by decide +kernel
theorem dL_law_939 : decode cL_law 939 = .ok (.iconst 1, 1) := by decide +kernel
theorem dL_law_940 : decode cL_law 940 = .ok (.iadd, 1) := by decide +kernel
theorem dL_law_941 : decode cL_law 941 = .ok (.iaload, 1) := by decide +kernel
theorem dL_law_942 : decode cL_law 942 = .ok (.aload_n 0, 1) := by decide +kernel
theorem dL_law_943 : decode cL_law 943 = .ok (.iload_n 3, 1) := by decide +kernel
theorem dL_law_944 : decode cL_law 944 = .ok (.iconst 2, 1) := by decide +kernel
theorem dL_law_945 : decode cL_law 945 = .ok (.iadd, 1) := by decide +kernel
theorem dL_law_946 : decode cL_law 946 = .ok (.iaload, 1) := by decide +kernel
theorem dL_law_947 : decode cL_law 947 = .ok (.invokevirtual 130, 3) := by decide +kernel
theorem dL_law_950 : decode cL_law 950 = .ok (.aload_n 2, 1) := by decide +kernel
theorem dL_law_951 : decode cL_law 951 = .ok (.aload_n 0, 1) := by decide +kernel
theorem dL_law_952 : decode cL_law 952 = .ok (.iload_n 3, 1) := by decide +kernel
theorem dL_law_953 : decode cL_law 953 = .ok (.iconst 1, 1) := by decide +kernel
theorem dL_law_954 : decode cL_law 954 = .ok (.iadd, 1) := by decide +kernel
theorem dL_law_955 : decode cL_law 955 = .ok (.iaload, 1) := by decide +kernel
theorem dL_law_956 : decode cL_law 956 = .ok (.aload_n 0, 1) := by decide +kernel
theorem dL_law_957 : decode cL_law 957 = .ok (.iload_n 3, 1) := by decide +kernel
theorem dL_law_958 : decode cL_law 958 = .ok (.iconst 2, 1) := by decide +kernel
theorem dL_law_959 : decode cL_law 959 = .ok (.iadd, 1) := by decide +kernel
theorem dL_law_960 : decode cL_law 960 = .ok (.iaload, 1) := by decide +kernel
theorem dL_law_961 : decode cL_law 961 = .ok (.invokevirtual 133, 3) := by decide +kernel
theorem dL_law_964 : decode cL_law 964 = .ok (.if_icmp .eq 254, 3) := by decide +kernel
theorem dL_law_967 : decode cL_law 967 = .ok (.iconst 0, 1) := by decide +kernel
theorem dL_law_968 : decode cL_law 968 = .ok (.ireturn, 1) := by decide +kernel
theorem dL_law_969 : decode cL_law 969 = .ok (.aload_n 1, 1) := by decide +kernel
theorem dL_law_970 : decode cL_law 970 = .ok (.aload_n 0, 1) := by decide +kernel
theorem dL_law_971 : decode cL_law 971 = .ok (.iload_n 3, 1) := by decide +kernel
theorem dL_law_972 : decode cL_law 972 = .ok (.iconst 1, 1) := by decide +kernel
theorem dL_law_973 : decode cL_law 973 = .ok (.iadd, 1) := by decide +kernel
theorem dL_law_974 : decode cL_law 974 = .ok (.iaload, 1) := by decide +kernel
theorem dL_law_975 : decode cL_law 975 = .ok (.aload_n 0, 1) := by decide +kernel
theorem dL_law_976 : decode cL_law 976 = .ok (.iload_n 3, 1) := by decide +kernel
theorem dL_law_977 : decode cL_law 977 = .ok (.iconst 2, 1) := by decide +kernel
theorem dL_law_978 : decode cL_law 978 = .ok (.iadd, 1) := by decide +kernel
theorem dL_law_979 : decode cL_law 979 = .ok (.iaload, 1) := by decide +kernel
theorem dL_law_980 : decode cL_law 980 = .ok (.invokevirtual 134, 3) := by decide +kernel
theorem dL_law_983 : decode cL_law 983 = .ok (.aload_n 2, 1) := by decide +kernel
theorem dL_law_984 : decode cL_law 984 = .ok (.aload_n 0, 1) := by decide +kernel
theorem dL_law_985 : decode cL_law 985 = .ok (.iload_n 3, 1) := by decide +kernel
theorem dL_law_986 : decode cL_law 986 = .ok (.iconst 1, 1) := by decide +kernel
theorem dL_law_987 : decode cL_law 987 = .ok (.iadd, 1) := by decide +kernel
theorem dL_law_988 : decode cL_law 988 = .ok (.iaload, 1) := by decide +kernel
theorem dL_law_989 : decode cL_law 989 = .ok (.aload_n 0, 1) := by decide +kernel
theorem dL_law_990 : decode cL_law 990 = .ok (.iload_n 3, 1) := by decide +kernel
theorem dL_law_991 : decode cL_law 991 = .ok (.iconst 2, 1) := by decide +kernel
theorem dL_law_992 : decode cL_law 992 = .ok (.iadd, 1) := by decide +kernel
theorem dL_law_993 : decode cL_law 993 = .ok (.iaload, 1) := by decide +kernel
theorem dL_law_994 : decode cL_law 994 = .ok (.invokevirtual 137, 3) := by decide +kernel
theorem dL_law_997 : decode cL_law 997 = .ok (.if_icmp .eq 221, 3) := by decide +kernel
theorem dL_law_1000 : decode cL_law 1000 = .ok (.iconst 0, 1) := by decide +kernel
theorem dL_law_1001 : decode cL_law 1001 = .ok (.ireturn, 1) := by decide +kernel
theorem dL_law_1002 : decode cL_law 1002 = .ok (.aload_n 1, 1) := by decide +kernel
theorem dL_law_1003 : decode cL_law 1003 = .ok (.aload_n 0, 1) := by decide +kernel
theorem dL_law_1004 : decode cL_law 1004 = .ok (.iload_n 3, 1) := by decide +kernel
theorem dL_law_1005 : decode cL_law 1005 = .ok (.iconst 1, 1) := by decide +kernel
theorem dL_law_1006 : decode cL_law 1006 = .ok (.iadd, 1) := by decide +kernel
theorem dL_law_1007 : decode cL_law 1007 = .ok (.iaload, 1) := by decide +kernel
theorem dL_law_1008 : decode cL_law 1008 = .ok (.invokevirtual 138, 3) := by decide +kernel
theorem dL_law_1011 : decode cL_law 1011 = .ok (.aload_n 2, 1) := by decide +kernel
theorem dL_law_1012 : decode cL_law 1012 = .ok (.aload_n 0, 1) := by decide +kernel
theorem dL_law_1013 : decode cL_law 1013 = .ok (.iload_n 3, 1) := by decide +kernel
theorem dL_law_1014 : decode cL_law 1014 = .ok (.iconst 1, 1) := by decide +kernel
theorem dL_law_1015 : decode cL_law 1015 = .ok (.iadd, 1) := by decide +kernel
theorem dL_law_1016 : decode cL_law 1016 = .ok (.iaload, 1) := by decide +kernel
theorem dL_law_1017 : decode cL_law 1017 = .ok (.invokevirtual 141, 3) := by decide +kernel
theorem dL_law_1020 : decode cL_law 1020 = .ok (.if_icmp .eq 198, 3) := by decide +kernel
theorem dL_law_1023 : decode cL_law 1023 = .ok (.iconst 0, 1) := by decide +kernel
theorem dL_law_1024 : decode cL_law 1024 = .ok (.ireturn, 1) := by decide +kernel
theorem dL_law_1025 : decode cL_law 1025 = .ok (.aload_n 1, 1) := by decide +kernel
theorem dL_law_1026 : decode cL_law 1026 = .ok (.aload_n 0, 1) := by decide +kernel
theorem dL_law_1027 : decode cL_law 1027 = .ok (.iload_n 3, 1) := by decide +kernel
theorem dL_law_1028 : decode cL_law 1028 = .ok (.iconst 1, 1) := by decide +kernel
theorem dL_law_1029 : decode cL_law 1029 = .ok (.iadd, 1) := by decide +kernel
theorem dL_law_1030 : decode cL_law 1030 = .ok (.iaload, 1) := by decide +kernel
theorem dL_law_1031 : decode cL_law 1031 = .ok (.invokevirtual 142, 3) := by decide +kernel
theorem dL_law_1034 : decode cL_law 1034 = .ok (.aload_n 2, 1) := by decide +kernel
theorem dL_law_1035 : decode cL_law 1035 = .ok (.aload_n 0, 1) := by decide +kernel
theorem dL_law_1036 : decode cL_law 1036 = .ok (.iload_n 3, 1) := by decide +kernel
theorem dL_law_1037 : decode cL_law 1037 = .ok (.iconst 1, 1) := by decide +kernel
theorem dL_law_1038 : decode cL_law 1038 = .ok (.iadd, 1) := by decide +kernel
theorem dL_law_1039 : decode cL_law 1039 = .ok (.iaload, 1) := by decide +kernel
theorem dL_law_1040 : decode cL_law 1040 = .ok (.invokevirtual 145, 3) := by decide +kernel
theorem dL_law_1043 : decode cL_law 1043 = .ok (.if_icmp .eq 175, 3) := by decide +kernel
theorem dL_law_1046 : decode cL_law 1046 = .ok (.iconst 0, 1) := by decide +kernel
theorem dL_law_1047 : decode cL_law 1047 = .ok (.ireturn, 1) := by decide +kernel
theorem dL_law_1048 : decode cL_law 1048 = .ok (.aload_n 1, 1) := by decide +kernel
theorem dL_law_1049 : decode cL_law 1049 = .ok (.aload_n 0, 1) := by decide +kernel
theorem dL_law_1050 : decode cL_law 1050 = .ok (.iload_n 3, 1) := by decide +kernel
theorem dL_law_1051 : decode cL_law 1051 = .ok (.iconst 1, 1) := by decide +kernel
theorem dL_law_1052 : decode cL_law 1052 = .ok (.iadd, 1) := by decide +kernel
theorem dL_law_1053 : decode cL_law 1053 = .ok (.iaload, 1) := by decide +kernel
theorem dL_law_1054 : decode cL_law 1054 = .ok (.invokevirtual 146, 3) := by decide +kernel
theorem dL_law_1057 : decode cL_law 1057 = .ok (.aload_n 2, 1) := by decide +kernel
theorem dL_law_1058 : decode cL_law 1058 = .ok (.aload_n 0, 1) := by decide +kernel
theorem dL_law_1059 : decode cL_law 1059 = .ok (.iload_n 3, 1) := by decide +kernel
theorem dL_law_1060 : decode cL_law 1060 = .ok (.iconst 1, 1) := by decide +kernel
theorem dL_law_1061 : decode cL_law 1061 = .ok (.iadd, 1) := by decide +kernel
theorem dL_law_1062 : decode cL_law 1062 = .ok (.iaload, 1) := by decide +kernel
theorem dL_law_1063 : decode cL_law 1063 = .ok (.invokevirtual 149, 3) := by decide +kernel
theorem dL_law_1066 : decode cL_law 1066 = .ok (.if_icmp .eq 152, 3) := by decide +kernel
theorem dL_law_1069 : decode cL_law 1069 = .ok (.iconst 0, 1) := by decide +kernel
theorem dL_law_1070 : decode cL_law 1070 = .ok (.ireturn, 1) := by decide +kernel
theorem dL_law_1071 : decode cL_law 1071 = .ok (.aload_n 1, 1) := by decide +kernel
theorem dL_law_1072 : decode cL_law 1072 = .ok (.aload_n 0, 1) := by decide +kernel
theorem dL_law_1073 : decode cL_law 1073 = .ok (.iload_n 3, 1) := by decide +kernel
theorem dL_law_1074 : decode cL_law 1074 = .ok (.iconst 1, 1) := by decide +kernel
theorem dL_law_1075 : decode cL_law 1075 = .ok (.iadd, 1) := by decide +kernel
theorem dL_law_1076 : decode cL_law 1076 = .ok (.iaload, 1) := by decide +kernel
theorem dL_law_1077 : decode cL_law 1077 = .ok (.aload_n 0, 1) := by decide +kernel
theorem dL_law_1078 : decode cL_law 1078 = .ok (.iload_n 3, 1) := by decide +kernel
theorem dL_law_1079 : decode cL_law 1079 = .ok (.iconst 2, 1) := by decide +kernel
theorem dL_law_1080 : decode cL_law 1080 = .ok (.iadd, 1) := by decide +kernel
theorem dL_law_1081 : decode cL_law 1081 = .ok (.iaload, 1) := by decide +kernel
theorem dL_law_1082 : decode cL_law 1082 = .ok (.invokevirtual 150, 3) := by decide +kernel
theorem dL_law_1085 : decode cL_law 1085 = .ok (.aload_n 2, 1) := by decide +kernel
theorem dL_law_1086 : decode cL_law 1086 = .ok (.aload_n 0, 1) := by decide +kernel
theorem dL_law_1087 : decode cL_law 1087 = .ok (.iload_n 3, 1) := by decide +kernel
theorem dL_law_1088 : decode cL_law 1088 = .ok (.iconst 1, 1) := by decide +kernel
theorem dL_law_1089 : decode cL_law 1089 = .ok (.iadd, 1) := by decide +kernel
theorem dL_law_1090 : decode cL_law 1090 = .ok (.iaload, 1) := by decide +kernel
theorem dL_law_1091 : decode cL_law 1091 = .ok (.aload_n 0, 1) := by decide +kernel
theorem dL_law_1092 : decode cL_law 1092 = .ok (.iload_n 3, 1) := by decide +kernel
theorem dL_law_1093 : decode cL_law 1093 = .ok (.iconst 2, 1) := by decide +kernel
theorem dL_law_1094 : decode cL_law 1094 = .ok (.iadd, 1) := by decide +kernel
theorem dL_law_1095 : decode cL_law 1095 = .ok (.iaload, 1) := by decide +kernel
theorem dL_law_1096 : decode cL_law 1096 = .ok (.invokevirtual 153, 3) := by decide +kernel
theorem dL_law_1099 : decode cL_law 1099 = .ok (.if_icmp .eq 119, 3) := by decide +kernel
theorem dL_law_1102 : decode cL_law 1102 = .ok (.iconst 0, 1) := by decide +kernel
theorem dL_law_1103 : decode cL_law 1103 = .ok (.ireturn, 1) := by decide +kernel
theorem dL_law_1104 : decode cL_law 1104 = .ok (.aload_n 1, 1) := by decide +kernel
theorem dL_law_1105 : decode cL_law 1105 = .ok (.invokevirtual 154, 3) := by decide +kernel
theorem dL_law_1108 : decode cL_law 1108 = .ok (.aload_n 2, 1) := by decide +kernel
theorem dL_law_1109 : decode cL_law 1109 = .ok (.invokevirtual 157, 3) := by decide +kernel
theorem dL_law_1112 : decode cL_law 1112 = .ok (.if_icmp .eq 106, 3) := by decide +kernel
theorem dL_law_1115 : decode cL_law 1115 = .ok (.iconst 0, 1) := by decide +kernel
theorem dL_law_1116 : decode cL_law 1116 = .ok (.ireturn, 1) := by decide +kernel
theorem dL_law_1117 : decode cL_law 1117 = .ok (.aload_n 1, 1) := by decide +kernel
theorem dL_law_1118 : decode cL_law 1118 = .ok (.invokevirtual 158, 3) := by decide +kernel
theorem dL_law_1121 : decode cL_law 1121 = .ok (.aload_n 2, 1) := by decide +kernel
theorem dL_law_1122 : decode cL_law 1122 = .ok (.invokevirtual 162, 3) := by decide +kernel
theorem dL_law_1125 : decode cL_law 1125 = .ok (.lcmp, 1) := by decide +kernel
theorem dL_law_1126 : decode cL_law 1126 = .ok (.ifCond .eq 92, 3) := by decide +kernel
theorem dL_law_1129 : decode cL_law 1129 = .ok (.iconst 0, 1) := by decide +kernel
theorem dL_law_1130 : decode cL_law 1130 = .ok (.ireturn, 1) := by decide +kernel
theorem dL_law_1131 : decode cL_law 1131 = .ok (.aload_n 1, 1) := by decide +kernel
theorem dL_law_1132 : decode cL_law 1132 = .ok (.invokevirtual 163, 3) := by decide +kernel
theorem dL_law_1135 : decode cL_law 1135 = .ok (.aload_n 2, 1) := by decide +kernel
theorem dL_law_1136 : decode cL_law 1136 = .ok (.invokevirtual 166, 3) := by decide +kernel
theorem dL_law_1139 : decode cL_law 1139 = .ok (.lcmp, 1) := by decide +kernel
theorem dL_law_1140 : decode cL_law 1140 = .ok (.ifCond .eq 78, 3) := by decide +kernel
theorem dL_law_1143 : decode cL_law 1143 = .ok (.iconst 0, 1) := by decide +kernel
theorem dL_law_1144 : decode cL_law 1144 = .ok (.ireturn, 1) := by decide +kernel
theorem dL_law_1145 : decode cL_law 1145 = .ok (.aload_n 1, 1) := by decide +kernel
theorem dL_law_1146 : decode cL_law 1146 = .ok (.aload_n 0, 1) := by decide +kernel
theorem dL_law_1147 : decode cL_law 1147 = .ok (.iload_n 3, 1) := by decide +kernel
theorem dL_law_1148 : decode cL_law 1148 = .ok (.iconst 1, 1) := by decide +kernel
theorem dL_law_1149 : decode cL_law 1149 = .ok (.iadd, 1) := by decide +kernel
theorem dL_law_1150 : decode cL_law 1150 = .ok (.iaload, 1) := by decide +kernel
theorem dL_law_1151 : decode cL_law 1151 = .ok (.invokevirtual 167, 3) := by decide +kernel
theorem dL_law_1154 : decode cL_law 1154 = .ok (.aload_n 2, 1) := by decide +kernel
theorem dL_law_1155 : decode cL_law 1155 = .ok (.aload_n 0, 1) := by decide +kernel
theorem dL_law_1156 : decode cL_law 1156 = .ok (.iload_n 3, 1) := by decide +kernel
theorem dL_law_1157 : decode cL_law 1157 = .ok (.iconst 1, 1) := by decide +kernel
theorem dL_law_1158 : decode cL_law 1158 = .ok (.iadd, 1) := by decide +kernel
theorem dL_law_1159 : decode cL_law 1159 = .ok (.iaload, 1) := by decide +kernel
theorem dL_law_1160 : decode cL_law 1160 = .ok (.invokevirtual 170, 3) := by decide +kernel
theorem dL_law_1163 : decode cL_law 1163 = .ok (.if_icmp .eq 55, 3) := by decide +kernel
theorem dL_law_1166 : decode cL_law 1166 = .ok (.iconst 0, 1) := by decide +kernel
theorem dL_law_1167 : decode cL_law 1167 = .ok (.ireturn, 1) := by decide +kernel
theorem dL_law_1168 : decode cL_law 1168 = .ok (.aload_n 1, 1) := by decide +kernel
theorem dL_law_1169 : decode cL_law 1169 = .ok (.invokevirtual 171, 3) := by decide +kernel
theorem dL_law_1172 : decode cL_law 1172 = .ok (.aload_n 2, 1) := by decide +kernel
theorem dL_law_1173 : decode cL_law 1173 = .ok (.invokevirtual 174, 3) := by decide +kernel
theorem dL_law_1176 : decode cL_law 1176 = .ok (.if_icmp .eq 42, 3) := by decide +kernel
theorem dL_law_1179 : decode cL_law 1179 = .ok (.iconst 0, 1) := by decide +kernel
theorem dL_law_1180 : decode cL_law 1180 = .ok (.ireturn, 1) := by decide +kernel
theorem dL_law_1181 : decode cL_law 1181 = .ok (.aload_n 1, 1) := by decide +kernel
theorem dL_law_1182 : decode cL_law 1182 = .ok (.aload_n 0, 1) := by decide +kernel
theorem dL_law_1183 : decode cL_law 1183 = .ok (.iload_n 3, 1) := by decide +kernel
theorem dL_law_1184 : decode cL_law 1184 = .ok (.iconst 1, 1) := by decide +kernel
theorem dL_law_1185 : decode cL_law 1185 = .ok (.iadd, 1) := by decide +kernel
theorem dL_law_1186 : decode cL_law 1186 = .ok (.iaload, 1) := by decide +kernel
theorem dL_law_1187 : decode cL_law 1187 = .ok (.invokevirtual 175, 3) := by decide +kernel
theorem dL_law_1190 : decode cL_law 1190 = .ok (.aload_n 2, 1) := by decide +kernel
theorem dL_law_1191 : decode cL_law 1191 = .ok (.aload_n 0, 1) := by decide +kernel
theorem dL_law_1192 : decode cL_law 1192 = .ok (.iload_n 3, 1) := by decide +kernel
theorem dL_law_1193 : decode cL_law 1193 = .ok (.iconst 1, 1) := by decide +kernel
theorem dL_law_1194 : decode cL_law 1194 = .ok (.iadd, 1) := by decide +kernel
theorem dL_law_1195 : decode cL_law 1195 = .ok (.iaload, 1) := by decide +kernel
theorem dL_law_1196 : decode cL_law 1196 = .ok (.invokevirtual 178, 3) := by decide +kernel
theorem dL_law_1199 : decode cL_law 1199 = .ok (.if_icmp .eq 19, 3) := by decide +kernel
theorem dL_law_1202 : decode cL_law 1202 = .ok (.iconst 0, 1) := by decide +kernel
theorem dL_law_1203 : decode cL_law 1203 = .ok (.ireturn, 1) := by decide +kernel
theorem dL_law_1204 : decode cL_law 1204 = .ok (.aload_n 1, 1) := by decide +kernel
theorem dL_law_1205 : decode cL_law 1205 = .ok (.invokevirtual 179, 3) := by decide +kernel
theorem dL_law_1208 : decode cL_law 1208 = .ok (.aload_n 2, 1) := by decide +kernel
theorem dL_law_1209 : decode cL_law 1209 = .ok (.invokevirtual 182, 3) := by decide +kernel
theorem dL_law_1212 : decode cL_law 1212 = .ok (.lcmp, 1) := by decide +kernel
theorem dL_law_1213 : decode cL_law 1213 = .ok (.ifCond .eq 5, 3) := by decide +kernel
theorem dL_law_1216 : decode cL_law 1216 = .ok (.iconst 0, 1) := by decide +kernel
theorem dL_law_1217 : decode cL_law 1217 = .ok (.ireturn, 1) := by decide +kernel
theorem dL_law_1218 : decode cL_law 1218 = .ok (.iinc 3 6, 3) := by decide +kernel
theorem dL_law_1221 : decode cL_law 1221 = .ok (.goto (-1203), 3) := by decide +kernel
theorem dL_law_1224 : decode cL_law 1224 = .ok (.iconst 1, 1) := by decide +kernel
theorem dL_law_1225 : decode cL_law 1225 = .ok (.ireturn, 1) := by decide +kernel
end
section
/-! THE WORLD: one memory of numbered cells (class: 0 .. 38, reference: 39 .. 60); a state is what they hold -/
abbrev St : Type := (Nat → Nat → Int32) × (Nat → Nat → Int64)
def gi (u : St) (k i : Nat) : Int32 := u.1 k i
def gl (u : St) (k i : Nat) : Int64 := u.2 k i
def si (u : St) (k i : Nat) (v : Int32) : St := (fun a => if a = k then upd (u.1 a) i v else u.1 a, u.2)
def sl (u : St) (k i : Nat) (v : Int64) : St := (u.1, fun a => if a = k then vp_updL (u.2 a) i v else u.2 a)
def sc (u : St) (k sp dp n : Nat) : St := (fun a => if a = k then va_cpy (u.1 a) (u.1 a) sp dp n else u.1 a, u.2)
/-- a value is named -/
def nxt {α : Type} (x : α) (K : α → Prop) : Prop := K x
theorem nxt_get {α : Type} {x y : α} {K : α → Prop} (h : nxt x K) (e : y = x) : K y := e ▸ h
abbrev CS : Type := (Nat × Nat × Nat) ⊕ (Nat × List (Option Nat × Nat))
abbrev GG : Type := va_G × (Nat → Nat) × (Nat → ClassId) × (Nat → Nat)
def gad (g : GG) (k : Nat) : Nat := g.2.1 k
def gcy (g : GG) (k : Nat) : ClassId := g.2.2.1 k
def gst (g : GG) (k : Nat) : Nat := g.2.2.2 k
def wv (g : GG) (u : St) (k f : Nat) (s : Option Nat × Nat) : Value := match s with
  | (some j, _) => .ref (gad g j)
  | (none, 0) => .int (gi u k f)
  | (none, _ + 1) => .long (gl u k f)
def wc (g : GG) (u : St) (k : Nat) (s : CS) : va_E := match s with
  | .inl (0, n, _) => .inl (gcy g 0, n, .inl (u.1 k))
  | .inl (1, n, _) => .inl (gcy g 1, n, .inl (u.1 k))
  | .inl (_ + 2, n, b) => .inl (gcy g 2, n, .inr (.inr (.inr (.inr (fun i => if i < n then some (gad g (b + i)) else none)))))
  | .inr (ci, fs) => .inr (ci, fs.mapIdx (fun f s => wv g u k f s))
abbrev fI : Option Nat × Nat := (none, 0)
abbrev fL : Option Nat × Nat := (none, 1)
abbrev fR (j : Nat) : Option Nat × Nat := (some j, 0)
abbrev cA (n : Nat) : CS := .inl (0, n, 0)
abbrev cShelf (b : Nat) : CS := .inr (2, [fI, fI, fR (b + 1), fR (b + 2)])
abbrev cLayout (b : Nat) : CS := .inr (0, [fR (b + 1), fR (b + 2), fR (b + 3), fR (b + 4), fI])
abbrev cMoment (b : Nat) : CS := .inr (1, [fR (b + 1), fI, fI, fI])
abbrev cWires : CS := .inr (3, [fR 25, fR 26, fR 27, fR 28, fR 29, fI, fI, fI, fI])
abbrev cKeys : CS := .inr (4, [fR 1, fR 4, fR 7, fR 10, fR 15, fR 20, fR 22, fR 24, fR 30, fR 31, fR 38, fI, fI, fL, fL])
abbrev cModel : CS := .inr (5, [fI, fR 40, fI, fL, fL, fR 41, fR 42, fR 43, fR 44, fR 45, fI, fR 46, fR 47, fR 48, fR 49, fR 50, fI, fR 51, fR 52, fR 53, fR 54, fR 55, fR 56, fR 57, fR 58, fR 59, fR 60])
def cfg : List CS := [cKeys, cShelf 1, cA 6, cA 240, cShelf 4, cA 4, cA 240, cShelf 7, cA 4, cA 160, cLayout 10, cA 7, cA 7, cA 7, cA 7, cLayout 15, cA 7, cA 7, cA 7, cA 7, cMoment 20, cA 7, cMoment 22, cA 7, cWires, cA 7, cA 7, cA 4, cA 4, cA 4, cA 128, .inl (2, 6, 32), cA 128, cA 128, cA 128, cA 128, cA 128, cA 128, cA 6, cModel, cA 6, cA 6, cA 240, cA 4, .inl (1, 240, 0), cA 40, cA 14, cA 14, cA 14, cA 14, cA 410, cA 1230, cA 3, cA 10, cA 7, cA 7, cA 7, cA 4, cA 21, cA 6, cA 128]
def wsC (g : GG) (u : St) : va_W := cfg.mapIdx (fun k s => (gad g k, wc g u k s))
theorem cfg_len : cfg.length = 61 := rfl
theorem cfg_lt {k : Nat} {s : CS} (h : cfg[k]? = some s) : k < 61 := (List.getElem?_eq_some_iff.mp h).1
theorem cfg_has {k : Nat} (h : k < 61) : ∃ s, cfg[k]? = some s := ⟨cfg[k]'h, List.getElem?_eq_getElem h⟩
theorem wsC_get {g : GG} {u : St} {k : Nat} {s : CS} (h : cfg[k]? = some s) : (wsC g u)[k]? = some (gad g k, wc g u k s) := by
  unfold wsC
  rw [List.getElem?_mapIdx, h]
  rfl
theorem wsC_inv {g : GG} {u : St} {k : Nat} {q : Nat × va_E} (h : (wsC g u)[k]? = some q) : ∃ s, cfg[k]? = some s ∧ q = (gad g k, wc g u k s) := by
  unfold wsC at h
  rw [List.getElem?_mapIdx] at h
  cases hc : cfg[k]? with
  | none => rw [hc] at h; cases h
  | some s => rw [hc] at h; exact ⟨s, rfl, (Option.some.inj h).symm⟩
theorem wc_congr {g : GG} {u u' : St} {j : Nat} (h1 : u.1 j = u'.1 j) (h2 : u.2 j = u'.2 j) (s : CS) : wc g u j s = wc g u' j s := by
  match s with
  | .inl (0, n, _) => simp only [wc, h1]
  | .inl (1, n, _) => simp only [wc, h1]
  | .inl (_ + 2, n, b) => rfl
  | .inr (ci, fs) =>
    have e : (fun f s => wv g u j f s) = (fun f s => wv g u' j f s) := by
      funext f s
      match s with
      | (some j, _) => rfl
      | (none, 0) => simp only [wv, gi, h1]
      | (none, _ + 1) => simp only [wv, gl, h2]
    simp only [wc]
    rw [e]
theorem wsC_ext {g : GG} {u u' : St} {k : Nat} {s : CS} {x : Nat × va_E} (h : cfg[k]? = some s) (hx : x = (gad g k, wc g u' k s)) (h1 : ∀ j, j ≠ k → u.1 j = u'.1 j) (h2 : ∀ j, j ≠ k → u.2 j = u'.2 j) : (wsC g u).set k x = wsC g u' := by
  apply List.ext_getElem?
  intro j
  by_cases e : j = k
  · subst e
    have hl : j < (wsC g u).length := (List.getElem?_eq_some_iff.mp (wsC_get (g := g) (u := u) h)).1
    rw [List.getElem?_set_self hl, wsC_get h, hx]
  · rw [List.getElem?_set_ne (Ne.symm e)]
    cases hj : cfg[j]? with
    | none =>
      unfold wsC
      rw [List.getElem?_mapIdx, List.getElem?_mapIdx, hj]
      rfl
    | some s2 => rw [wsC_get hj, wsC_get hj, wc_congr (h1 j e) (h2 j e)]
theorem si_same {u : St} {k i : Nat} {v : Int32} : (si u k i v).1 k = upd (u.1 k) i v := if_pos rfl
theorem si_ne {u : St} {k i j : Nat} {v : Int32} (h : j ≠ k) : (si u k i v).1 j = u.1 j := if_neg h
theorem sc_same {u : St} {k sp dp n : Nat} : (sc u k sp dp n).1 k = va_cpy (u.1 k) (u.1 k) sp dp n := if_pos rfl
theorem sc_ne {u : St} {k sp dp n j : Nat} (h : j ≠ k) : (sc u k sp dp n).1 j = u.1 j := if_neg h
theorem sl_same {u : St} {k i : Nat} {v : Int64} : (sl u k i v).2 k = vp_updL (u.2 k) i v := if_pos rfl
theorem sl_ne {u : St} {k i j : Nat} {v : Int64} (h : j ≠ k) : (sl u k i v).2 j = u.2 j := if_neg h
theorem set_arr {g : GG} {u : St} {k n b i : Nat} {v : Int32} (h : cfg[k]? = some (.inl (0, n, b))) : (wsC g u).set k (gad g k, .inl (gcy g 0, n, .inl (upd (u.1 k) i v))) = wsC g (si u k i v) :=
  wsC_ext h (by simp only [wc, si_same]) (fun j hj => (si_ne hj).symm) (fun _ _ => rfl)
theorem set_byt {g : GG} {u : St} {k n b i : Nat} {v : Int32} (h : cfg[k]? = some (.inl (1, n, b))) : (wsC g u).set k (gad g k, .inl (gcy g 1, n, .inl (upd (u.1 k) i v))) = wsC g (si u k i v) :=
  wsC_ext h (by simp only [wc, si_same]) (fun j hj => (si_ne hj).symm) (fun _ _ => rfl)
theorem set_cpy {g : GG} {u : St} {k n b sp dp c : Nat} (h : cfg[k]? = some (.inl (0, n, b))) : (wsC g u).set k (gad g k, .inl (gcy g 0, n, .inl (va_cpy (u.1 k) (u.1 k) sp dp c))) = wsC g (sc u k sp dp c) :=
  wsC_ext h (by simp only [wc, sc_same]) (fun j hj => (sc_ne hj).symm) (fun _ _ => rfl)
theorem set_fI {g : GG} {u : St} {k ci f : Nat} {fs : List (Option Nat × Nat)} {v : Int32} (h : cfg[k]? = some (.inr (ci, fs))) (hf : fs[f]? = some (none, 0)) : (wsC g u).set k (gad g k, .inr (ci, (fs.mapIdx (fun f s => wv g u k f s)).set f (.int v))) = wsC g (si u k f v) := by
  refine wsC_ext h ?_ (fun j hj => (si_ne hj).symm) (fun _ _ => rfl)
  simp only [wc]
  congr 3
  apply List.ext_getElem?
  intro j
  by_cases e : j = f
  · subst e
    have hl : j < fs.length := (List.getElem?_eq_some_iff.mp hf).1
    rw [List.getElem?_set_self (by rw [List.length_mapIdx]; exact hl), List.getElem?_mapIdx, hf]
    simp only [Option.map_some, wv, gi, si_same, upd, if_pos]
  · rw [List.getElem?_set_ne (Ne.symm e), List.getElem?_mapIdx, List.getElem?_mapIdx]
    cases fs[j]? with
    | none => rfl
    | some s =>
      match s with
      | (some j, _) => rfl
      | (none, 0) => simp only [Option.map_some, wv, gi, si_same, upd, if_neg e]
      | (none, _ + 1) => rfl
theorem set_fL {g : GG} {u : St} {k ci f : Nat} {fs : List (Option Nat × Nat)} {v : Int64} (h : cfg[k]? = some (.inr (ci, fs))) (hf : fs[f]? = some (none, 1)) : (wsC g u).set k (gad g k, .inr (ci, (fs.mapIdx (fun f s => wv g u k f s)).set f (.long v))) = wsC g (sl u k f v) := by
  refine wsC_ext h ?_ (fun _ _ => rfl) (fun j hj => (sl_ne hj).symm)
  simp only [wc]
  congr 3
  apply List.ext_getElem?
  intro j
  by_cases e : j = f
  · subst e
    have hl : j < fs.length := (List.getElem?_eq_some_iff.mp hf).1
    rw [List.getElem?_set_self (by rw [List.length_mapIdx]; exact hl), List.getElem?_mapIdx, hf]
    simp only [Option.map_some, wv, gl, sl_same, vp_updL, if_pos]
  · rw [List.getElem?_set_ne (Ne.symm e), List.getElem?_mapIdx, List.getElem?_mapIdx]
    cases fs[j]? with
    | none => rfl
    | some s =>
      match s with
      | (some j, _) => rfl
      | (none, 0) => rfl
      | (none, _ + 1) => simp only [Option.map_some, wv, gl, sl_same, vp_updL, if_neg e]
/-! the addresses; what a method finds; contracts -/
def AD (g : GG) : Nat → Prop := fun q => ∃ k, k < 61 ∧ q = gad g k
def AA (g : GG) (sz : Nat) : Nat → Prop := fun q => AD g q ∨ sz ≤ q
theorem DC_move {A : Nat → Prop} {g : GG} {u u' : St} (h : va_D A (wsC g u)) : va_D A (wsC g u') := ⟨fun i j p q hp hq e => by
    obtain ⟨s1, c1, rfl⟩ := wsC_inv hp
    obtain ⟨s2, c2, rfl⟩ := wsC_inv hq
    exact h.1 i j _ _ (wsC_get c1) (wsC_get c2) e, fun k q hq => by
    obtain ⟨s, c, rfl⟩ := wsC_inv hq
    exact h.2 k (gad g k, wc g u k s) (wsC_get c)⟩
theorem DC_AD {A : Nat → Prop} {g : GG} {u : St} (h : va_D A (wsC g u)) : ∀ q, AD g q → A q := fun q hq => by
  obtain ⟨k, hk, rfl⟩ := hq
  obtain ⟨s, hs⟩ := cfg_has hk
  exact h.2 k _ (wsC_get hs)
def letT (j : Nat) : Int32 := match j with
  | 0 => 107
  | 1 => 118
  | 2 => 115
  | 3 => 117
  | 4 => 116
  | _ => 119
def sortT (j : Nat) : Int32 := match j with
  | 0 => -1
  | 1 => 0
  | 2 => 0
  | 3 => 0
  | 4 => 1
  | _ => 2
def ST (g : GG) (A : Nat → Prop) (U : State) (H : Heap) : Prop := va_Z "StrayKeys" "LETTERS" "[I" (.ref (gst g 0)) A U H ∧ va_T .int (gst g 0) 6 (fun j => .int (letT j)) A U H ∧ va_Z "StrayKeys" "SORT_OF" "[I" (.ref (gst g 1)) A U H ∧ va_T .int (gst g 1) 6 (fun j => .int (sortT j)) A U H
theorem ST.moved {g : GG} {A : Nat → Prop} {u U : State} {H : Heap} (hvm : u.vm.Alike U.vm) (h : ST g A u H) : ST g A U H := ⟨h.1.moved hvm, h.2.1.moved hvm, h.2.2.1.moved hvm, h.2.2.2.moved hvm⟩
theorem ST.kept {g : GG} {A : Nat → Prop} {U : State} {H H1 : Heap} (h : ST g A U H) (hq : ∀ a : Nat, a < H.size → ¬ A a → H1[a]? = H[a]?) : ST g A U H1 := ⟨h.1.kept hq, h.2.1.kept hq, h.2.2.1.kept hq, h.2.2.2.kept hq⟩
theorem ST.narrow {g : GG} {A B : Nat → Prop} {U : State} {H : Heap} (h : ST g A U H) (hAB : ∀ q, B q → A q) : ST g B U H := ⟨h.1.narrow hAB, h.2.1.narrow hAB, h.2.2.1.narrow hAB, h.2.2.2.narrow hAB⟩
theorem va_Z.wide {C n d : String} {v : Value} {A B : Nat → Prop} {U : State} {H : Heap} (h : va_Z C n d v A U H) (hAB : ∀ q, q < H.size → B q → A q) : va_Z C n d v B U H := by
  obtain ⟨cf, kf, fi, f, a, cell, h1, h2, h3, h4, h5, h6, h7, h8⟩ := h
  exact ⟨cf, kf, fi, f, a, cell, h1, h2, h3, h4, h5, h6, h7, fun z => h8 (hAB a (Array.getElem?_eq_some_iff.mp h5).1 z)⟩
theorem va_T.wide {ty : FieldType} {t N : Nat} {f : Nat → Value} {A B : Nat → Prop} {U : State} {H : Heap} (h : va_T ty t N f A U H) (hAB : ∀ q, q < H.size → B q → A q) : va_T ty t N f B U H := by
  obtain ⟨cell, h1, h2, h3, h4, h5, h6, h7⟩ := h
  exact ⟨cell, h1, h2, h3, h4, h5, h6, fun z => h7 (hAB t (Array.getElem?_eq_some_iff.mp h1).1 z)⟩
theorem ST.wide {g : GG} {A B : Nat → Prop} {U : State} {H : Heap} (h : ST g A U H) (hAB : ∀ q, q < H.size → B q → A q) : ST g B U H := ⟨h.1.wide hAB, h.2.1.wide hAB, h.2.2.1.wide hAB, h.2.2.2.wide hAB⟩
def KX (g : GG) (U : State) : Prop := va_K g.1 vwCl [(gcy g 0, .int), (gcy g 1, .byte), (gcy g 2, .array .int)] U
def NX (U : State) : Prop := (∀ q ∈ nestF, va_Nw (.fieldLinkNest q.1 q.2.1 q.2.2.1 q.2.2.2.1 q.2.2.2.2.1 q.2.2.2.2.2) U) ∧ ∀ q ∈ nestM, va_Nw (.methodLinkNest q.1 q.2.1 q.2.2.1 q.2.2.2) U
theorem NX.warm {s U : State} (hW : s.WarmedH U.vm) (h : NX s) : NX U := ⟨fun q hq => va_Nw.warmF hW (h.1 q hq), fun q hq => va_Nw.warmM hW (h.2 q hq)⟩
theorem NX.same {s U : State} (e : s.vm = U.vm) (h : NX s) : NX U := ⟨fun q hq => va_Nw.same rfl e (h.1 q hq), fun q hq => va_Nw.same rfl e (h.2 q hq)⟩
def WU (g : GG) (u : St) (U : State) : Prop := va_P g.1 vwCl (wsC g u) U.heap ∧ KX g U ∧ va_D (fun _ => True) (wsC g u) ∧ ST g (AD g) U U.heap ∧ NX U
def WQ (g : GG) (u : St) (t : State) : Prop := va_P g.1 vwCl (wsC g u) t.heap
def PC (g : GG) (av : List Value) (u : St) (sz : Nat) : Array Value → State → Prop := va_Pc av (fun U => U.heap.size = sz ∧ WU g u U)
theorem PC_blind {g : GG} {av : List Value} {u : St} {sz : Nat} : FrameBlind (PC g av u sz) := fun a U g' mk q => by
  obtain ⟨q0, q1, qP, qK, qD, qS, qN⟩ := q
  exact ⟨q0, q1, qP, va_K.moved (u := U) (U := U.calling g' mk a) (Vm.Alike.refl U.vm) qK, qD, ST.moved (u := U) (U := U.calling g' mk a) (Vm.Alike.refl U.vm) qS, NX.same (s := U) (U := U.calling g' mk a) rfl qN⟩
def CI (l : Launch) (y : MethodName) (cc : ByteArray) (nL : Nat) (ret : Option FieldType) (rm : Room) (g : GG) (av : List Value) (u : St) (Q : Int32 → St → Prop) : Prop := ∀ sz, Met l y (.code y cc nL ret :: BIG) rm (PC g av u sz) (va_Qi Q (WQ g) (AA g sz)) 0 0 (AA g sz)
def CL (l : Launch) (y : MethodName) (cc : ByteArray) (nL : Nat) (ret : Option FieldType) (rm : Room) (g : GG) (av : List Value) (u : St) (Q : Int64 → St → Prop) : Prop := ∀ sz, Met l y (.code y cc nL ret :: BIG) rm (PC g av u sz) (va_Ql Q (WQ g) (AA g sz)) 0 0 (AA g sz)
def CV (l : Launch) (y : MethodName) (cc : ByteArray) (nL : Nat) (ret : Option FieldType) (rm : Room) (g : GG) (av : List Value) (u : St) (Q : St → Prop) : Prop := ∀ sz, Met l y (.code y cc nL ret :: BIG) rm (PC g av u sz) (va_Qv Q (WQ g) (AA g sz)) 0 0 (AA g sz)
/-- what stays while a method runs -/
def MC (p : Program) (s : State) (m : MethodId) (args : Array Value) (meth : Method) (c : Code) (cc : ByteArray) (nL : Nat) (own : String) (ret : Option FieldType) (g : GG) (A : Nat → Prop) : Prop :=
  p.tables.exec = Jvm.exec ∧ c.code = cc ∧ c.maxLocals = nL ∧ s.vm.findClass own = some m.cls ∧ (∀ w ∈ BIG, w.before args s = true) ∧ KX g s ∧ meth.sig.returnType = ret ∧ meth.locks = false ∧ ST g A s s.heap ∧ NX s ∧ ∀ q, s.heap.size ≤ q → A q
/-- what moves -/
def WD (g : GG) (A : Nat → Prop) (s : State) (u : St) (H : Heap) (locs : List Loc) : Prop := va_P g.1 vwCl (wsC g u) H ∧ va_D A (wsC g u) ∧ va_S A s.heap H locs
theorem AA_in {g : GG} {A : Nat → Prop} {s : State} {u : St} {H : Heap} {locs : List Loc} (hA : ∀ q, s.heap.size ≤ q → A q) (hW : WD g A s u H locs) : ∀ q, AA g H.size q → A q := fun q hq => hq.elim (DC_AD hW.2.1 q) (fun h => hA q (Nat.le_trans hW.2.2.1 h))
section EN
variable {l : Launch} {y : MethodName} {cc : ByteArray} {nL : Nat} {ret : Option FieldType} {rm : Room} {g : GG} {av : List Value} {u : St} {own : String}
theorem ent {Qc : (Nat → Prop) → Array Value → State → Outcome → State → Prop} (hy : plainName y.cls = true) (ho : y.cls = own) (hlen : (lg_sl av).length ≤ nL)
    (body : ∀ (p : Program) (e : Env) (s : State) (m : MethodId) (below : List Frame) (meth : Method) (c : Code) (A : Nat → Prop) (ls : Array Slot), MC p s m av.toArray meth c cc nL own ret g A → lv_has ls nL (lv_args 0 av) → WD g A s u s.heap [] → W p l e rm s m av.toArray below meth c s.heap [] 0 0 (MQ below (Qc A) av.toArray s 0 0 A) (F0 m 0 ls [])) :
    ∀ sz, Met l y (.code y cc nL ret :: BIG) rm (PC g av u sz) (Qc (AA g sz)) 0 0 (AA g sz) := by
  intro sz
  refine Met.ofW (cc := cc) (maxL := nL) (ret := ret) hy rfl ?_
  intro p e s m args below meth c s₁ B hml hv
  obtain ⟨rfl, hsz, hP, hK, hD, hST, hN⟩ := hv
  subst hsz
  have hts := atoms_spec (ws := Cond.code y cc nL ret :: BIG) B.pre
  have hown : s.vm.findClass own = some m.cls := ho ▸ findClass_of_methodNamed B.named
  rw [lg_entry_eq]
  exact body p e s m below meth c (AA g s.heap.size) _ ⟨B.exec, B.bytes, hml, hown, fun w h => hts w (List.mem_cons_of_mem _ h), hK, B.returns, B.notSynchronized, hST.wide (fun q hq h => h.elim id (fun h => absurd hq (Nat.not_lt.mpr h))), hN, fun q h => Or.inr h⟩ (lv_entry av hlen) ⟨hP, ⟨hD.1, fun k q hk => by
    obtain ⟨s9, c9, rfl⟩ := wsC_inv hk
    exact Or.inl ⟨k, cfg_lt c9, rfl⟩⟩, va_S.rf⟩
end EN
end
section
/-! ROWS over the one world -/
section XR
variable {p : Program} {l : Launch} {e : Env} {R : Room} {s : State} {m : MethodId} {args : Array Value} {below : List Frame} {meth : Method} {c : Code} {H : Heap} {locs : List Loc} {cells slots : Nat} {Q : State → Prop}
variable {cc : ByteArray} {nL pc : Nat} {ls : Array Slot} {rest : List Value} {own : String} {ret : Option FieldType} {g : GG} {A : Nat → Prop} {u : St}
theorem x_iald (C : MC p s m args meth c cc nL own ret g A) (hW : WD g A s u H locs) {k n b : Nat} (hc : cfg[k]? = some (.inl (0, n, b))) {i : Int32} (hin : vp_in i n) (hdg : decode cc pc = .ok (.iaload, 1))
    (kk : W p l e R s m args below meth c H locs cells slots Q (F0 m (pc + 1) ls (.int (gi u k i.toNatClampNeg) :: rest))) : W p l e R s m args below meth c H locs cells slots Q (F0 m pc ls (.int i :: .ref (gad g k) :: rest)) :=
  va_iald (f := u.1 k) C.1 C.2.1 C.2.2.2.2.2.1 hW.1 k 0 (wsC_get hc) rfl hin hdg kk
theorem x_bald (C : MC p s m args meth c cc nL own ret g A) (hW : WD g A s u H locs) {k n b : Nat} (hc : cfg[k]? = some (.inl (1, n, b))) {i : Int32} (hin : vp_in i n) (hdg : decode cc pc = .ok (.baload, 1))
    (kk : W p l e R s m args below meth c H locs cells slots Q (F0 m (pc + 1) ls (.int (gi u k i.toNatClampNeg) :: rest))) : W p l e R s m args below meth c H locs cells slots Q (F0 m pc ls (.int i :: .ref (gad g k) :: rest)) :=
  va_bald (f := u.1 k) C.1 C.2.1 C.2.2.2.2.2.1 hW.1 k 1 (wsC_get hc) rfl hin hdg kk
theorem x_iast (C : MC p s m args meth c cc nL own ret g A) (hW : WD g A s u H locs) {k n b : Nat} (hc : cfg[k]? = some (.inl (0, n, b))) {i x : Int32} (hin : vp_in i n) (hdg : decode cc pc = .ok (.iastore, 1))
    (kk : ∀ (u1 : St) (H1 : Heap) (locs1 : List Loc), u1 = si u k i.toNatClampNeg x → WD g A s u1 H1 locs1 → W p l e R s m args below meth c H1 locs1 cells slots Q (F0 m (pc + 1) ls rest)) : W p l e R s m args below meth c H locs cells slots Q (F0 m pc ls (.int x :: .int i :: .ref (gad g k) :: rest)) :=
  va_iast (f := u.1 k) C.1 C.2.1 C.2.2.2.2.2.1 hW.1 hW.2.1 hW.2.2 k 0 (wsC_get hc) rfl hin hdg (fun H1 locs1 hP hD hS => kk _ H1 locs1 rfl ⟨set_arr hc ▸ hP, DC_move hW.2.1, hS⟩)
theorem x_bast (C : MC p s m args meth c cc nL own ret g A) (hW : WD g A s u H locs) {k n b : Nat} (hc : cfg[k]? = some (.inl (1, n, b))) {i x : Int32} (hin : vp_in i n) (hdg : decode cc pc = .ok (.bastore, 1))
    (kk : ∀ (u1 : St) (H1 : Heap) (locs1 : List Loc), u1 = si u k i.toNatClampNeg (vp_nar .byte x) → WD g A s u1 H1 locs1 → W p l e R s m args below meth c H1 locs1 cells slots Q (F0 m (pc + 1) ls rest)) : W p l e R s m args below meth c H locs cells slots Q (F0 m pc ls (.int x :: .int i :: .ref (gad g k) :: rest)) :=
  va_bast (f := u.1 k) C.1 C.2.1 C.2.2.2.2.2.1 hW.1 hW.2.1 hW.2.2 k 1 (wsC_get hc) rfl hin hdg (fun H1 locs1 hP hD hS => kk _ H1 locs1 rfl ⟨set_byt hc ▸ hP, DC_move hW.2.1, hS⟩)
theorem x_aald (C : MC p s m args meth c cc nL own ret g A) (hW : WD g A s u H locs) {k n b : Nat} (hc : cfg[k]? = some (.inl (2, n, b))) {i : Int32} (hin : vp_in i n) (hdg : decode cc pc = .ok (.aaload, 1))
    (kk : W p l e R s m args below meth c H locs cells slots Q (F0 m (pc + 1) ls (.ref (gad g (b + i.toNatClampNeg)) :: rest))) : W p l e R s m args below meth c H locs cells slots Q (F0 m pc ls (.int i :: .ref (gad g k) :: rest)) := by
  have hlt : i.toNatClampNeg < n := Nat.not_le.mp fun q => hin (Or.inr q)
  refine W.aald (v := .ref (gad g (b + i.toNatClampNeg))) (ty := .array .int) C.1 C.2.1 (hW.1 k _ (wsC_get hc)) ((C.2.2.2.2.2.1.2 2 _ rfl).1 n (fun j => va_rf (if j < n then some (gad g (b + j)) else none))) rfl (fun q => by cases q) (by show ¬ (i < 0 ∨ (arrV _ _ _).slots.size ≤ _); rw [arrV_size]; exact hin) (by show (arrV _ _ _).slots[_]? = _; rw [arrV_read _ _ hlt]; exact congrArg (fun z => some (va_rf z)) (if_pos hlt)) rfl rfl hdg kk
theorem x_geti (C : MC p s m args meth c cc nL own ret g A) (hW : WD g A s u H locs) {k ci f index N : Nat} {ref Cn : String} {Tt : u_T} {fs : List (Option Nat × Nat)} (hc : cfg[k]? = some (.inr (ci, fs))) (hcl : vwCl[ci]? = some (Cn, Tt, N)) (hin : ∀ w ∈ u_ws Cn Tt N, w ∈ BIG) (hk : f < N) (hr : (Tt f).1 = ref) {x : Option Nat × Nat} (hf : fs[f]? = some x) {v : Value} (hv : wv g u k f x = v) (hlink : Cond.fieldLink own index ref (Tt f).2.1 (Tt f).2.2.1 ∈ BIG) (hdg : decode cc pc = .ok (.getfield index, 3))
    (kk : W p l e R s m args below meth c H locs cells slots Q (F0 m (pc + 3) ls (v :: rest))) : W p l e R s m args below meth c H locs cells slots Q (F0 m pc ls (.ref (gad g k) :: rest)) :=
  va_get (v := v) C.1 C.2.1 C.2.2.2.2.1 hin C.2.2.2.1 C.2.2.2.2.2.1 hW.1 k (wsC_get hc) hcl f hk (C.2.2.2.2.1 _ hlink) (fun _ h9 => hr ▸ h9) (by rw [List.getElem?_mapIdx, hf]; exact congrArg some hv) hdg kk
theorem x_getN (C : MC p s m args meth c cc nL own ret g A) (hW : WD g A s u H locs) {k ci f index N : Nat} {ref Cn host : String} {Tt : u_T} {fs : List (Option Nat × Nat)} (hc : cfg[k]? = some (.inr (ci, fs))) (hcl : vwCl[ci]? = some (Cn, Tt, N)) (hin : ∀ w ∈ u_ws Cn Tt N, w ∈ BIG) (hk : f < N) (hr : (Tt f).1 = ref) {x : Option Nat × Nat} (hf : fs[f]? = some x) {v : Value} (hv : wv g u k f x = v) (hlink : (own, index, ref, (Tt f).2.1, (Tt f).2.2.1, host) ∈ nestF) (hdg : decode cc pc = .ok (.getfield index, 3))
    (kk : W p l e R s m args below meth c H locs cells slots Q (F0 m (pc + 3) ls (v :: rest))) : W p l e R s m args below meth c H locs cells slots Q (F0 m pc ls (.ref (gad g k) :: rest)) :=
  va_getN (v := v) (host := host) C.1 C.2.1 C.2.2.2.2.1 hin C.2.2.2.1 C.2.2.2.2.2.1 hW.1 k (wsC_get hc) hcl f hk (va_Nw.use rfl (C.2.2.2.2.2.2.2.2.2.1.1 _ hlink)) (fun _ h9 => hr ▸ h9) (by rw [List.getElem?_mapIdx, hf]; exact congrArg some hv) hdg kk
theorem x_puti (C : MC p s m args meth c cc nL own ret g A) (hW : WD g A s u H locs) {k ci f index N : Nat} {ref Cn : String} {Tt : u_T} {fs : List (Option Nat × Nat)} {ty0 : Nat → FieldType} (hc : cfg[k]? = some (.inr (ci, fs))) (hcl : vwCl[ci]? = some (Cn, Tt, N)) (hin : ∀ w ∈ u_ws Cn Tt N, w ∈ BIG) (hty : ∀ k, k < N → parseFieldDescriptor (Tt k).2.2.1 = some (ty0 k)) (hnm : ∀ a, a < N → ∀ b, b < N → a ≠ b → (Tt a).2.1 ≠ (Tt b).2.1) (hk : f < N) (hr : (Tt f).1 = ref) (hf : fs[f]? = some (none, 0)) (hfin : (Tt f).2.2.2 = false) (hd : ty0 f = .int) {x : Int32} (hlink : Cond.fieldLink own index ref (Tt f).2.1 (Tt f).2.2.1 ∈ BIG) (hdg : decode cc pc = .ok (.putfield index, 3))
    (kk : ∀ (u1 : St) (H1 : Heap) (locs1 : List Loc), u1 = si u k f x → WD g A s u1 H1 locs1 → W p l e R s m args below meth c H1 locs1 cells slots Q (F0 m (pc + 3) ls rest)) : W p l e R s m args below meth c H locs cells slots Q (F0 m pc ls (.int x :: .ref (gad g k) :: rest)) :=
  va_put (v := .int x) (ty := .int) C.1 C.2.1 C.2.2.2.2.1 hin ty0 hty hnm C.2.2.2.1 C.2.2.2.2.2.1 hW.1 hW.2.1 hW.2.2 k (wsC_get hc) hcl f hk (C.2.2.2.2.1 _ hlink) (fun _ h9 => hr ▸ h9) hfin (hd ▸ hty f hk) rfl rfl (by rw [List.length_mapIdx]; exact (List.getElem?_eq_some_iff.mp hf).1) hdg (fun H1 locs1 hP hD hS => kk _ H1 locs1 rfl ⟨set_fI hc hf ▸ hP, DC_move hW.2.1, hS⟩)
theorem x_putl (C : MC p s m args meth c cc nL own ret g A) (hW : WD g A s u H locs) {k ci f index N : Nat} {ref Cn : String} {Tt : u_T} {fs : List (Option Nat × Nat)} {ty0 : Nat → FieldType} (hc : cfg[k]? = some (.inr (ci, fs))) (hcl : vwCl[ci]? = some (Cn, Tt, N)) (hin : ∀ w ∈ u_ws Cn Tt N, w ∈ BIG) (hty : ∀ k, k < N → parseFieldDescriptor (Tt k).2.2.1 = some (ty0 k)) (hnm : ∀ a, a < N → ∀ b, b < N → a ≠ b → (Tt a).2.1 ≠ (Tt b).2.1) (hk : f < N) (hr : (Tt f).1 = ref) (hf : fs[f]? = some (none, 1)) (hfin : (Tt f).2.2.2 = false) (hd : ty0 f = .long) {x : Int64} (hlink : Cond.fieldLink own index ref (Tt f).2.1 (Tt f).2.2.1 ∈ BIG) (hdg : decode cc pc = .ok (.putfield index, 3))
    (kk : ∀ (u1 : St) (H1 : Heap) (locs1 : List Loc), u1 = sl u k f x → WD g A s u1 H1 locs1 → W p l e R s m args below meth c H1 locs1 cells slots Q (F0 m (pc + 3) ls rest)) : W p l e R s m args below meth c H locs cells slots Q (F0 m pc ls (.long x :: .ref (gad g k) :: rest)) :=
  va_put (v := .long x) (ty := .long) C.1 C.2.1 C.2.2.2.2.1 hin ty0 hty hnm C.2.2.2.1 C.2.2.2.2.2.1 hW.1 hW.2.1 hW.2.2 k (wsC_get hc) hcl f hk (C.2.2.2.2.1 _ hlink) (fun _ h9 => hr ▸ h9) hfin (hd ▸ hty f hk) rfl rfl (by rw [List.length_mapIdx]; exact (List.getElem?_eq_some_iff.mp hf).1) hdg (fun H1 locs1 hP hD hS => kk _ H1 locs1 rfl ⟨set_fL hc hf ▸ hP, DC_move hW.2.1, hS⟩)
theorem x_copy (C : MC p s m args meth c cc nL own ret g A) (hW : WD g A s u H locs) (hls : ls.size = nL) {k n b index : Nat} (hc : cfg[k]? = some (.inl (0, n, b))) (hlink : Cond.methodLink own index arraycopyName ∈ BIG) {sp dp z : Int32} (h1 : ¬ sp < 0) (h2 : ¬ dp < 0) (h3 : ¬ z < 0) (h4 : sp.toNatClampNeg + z.toNatClampNeg ≤ n) (h5 : dp.toNatClampNeg + z.toNatClampNeg ≤ n) (hfr : 1 ≤ R.frames) (hlo : (rest.map fun v => v.category).sum + (nativeFrameWords "java/lang/System" "arraycopy" 5 + 11) ≤ R.locals) (hdg : decode cc pc = .ok (.invokestatic index, 3))
    (kk : ∀ (u1 : St) (H1 : Heap) (locs1 : List Loc), u1 = sc u k sp.toNatClampNeg dp.toNatClampNeg z.toNatClampNeg → WD g A s u1 H1 locs1 → W p l e R s m args below meth c H1 locs1 cells slots Q (F0 m (pc + 3) ls rest)) : W p l e R s m args below meth c H locs cells slots Q (F0 m pc ls (.int z :: .int dp :: .ref (gad g k) :: .int sp :: .ref (gad g k) :: rest)) :=
  va_copyi (f := u.1 k) (g := u.1 k) (ty := .int) C.1 C.2.1 (C.2.2.1.trans hls.symm) C.2.2.2.1 (C.2.2.2.2.1 _ hlink) (C.2.2.2.2.1 _ qnat) (C.2.2.2.2.1 _ qy_arraycopyName) (C.2.2.2.2.1 _ qi_J10) C.2.2.2.2.2.1 hW.1 hW.2.1 hW.2.2 k k 0 0 (wsC_get hc) (wsC_get hc) rfl rfl rfl h1 h2 h3 h4 h5 (fun _ _ => rfl) hfr hlo hdg (fun H1 locs1 hP hD hS => kk _ H1 locs1 rfl ⟨set_cpy hc ▸ hP, DC_move hW.2.1, hS⟩)
theorem x_mmax (C : MC p s m args meth c cc nL own ret g A) (hls : ls.size = nL) {index : Nat} (hlink : Cond.methodLink own index Lib.Math.max.name ∈ BIG) (hfr : 1 ≤ R.frames) (hlo : (rest.map fun v => v.category).sum + 13 ≤ R.locals) (hcs : cells ≤ R.cells ∧ slots ≤ R.slots) {x y : Int32} (hdg : decode cc pc = .ok (.invokestatic index, 3))
    (kk : W p l e R s m args below meth c H locs cells slots Q (F0 m (pc + 3) ls (.int (if x < y then y else x) :: rest))) : W p l e R s m args below meth c H locs cells slots Q (F0 m pc ls (.int y :: .int x :: rest)) :=
  va_mmax C.1 C.2.1 (C.2.2.1.trans hls.symm) C.2.2.2.1 (C.2.2.2.2.1 _ hlink) (C.2.2.2.2.1 _ qy_max) (C.2.2.2.2.1 _ qi_J9) (C.2.2.2.2.1 _ qc_max) hfr hlo hcs.1 hcs.2 hdg kk
theorem x_mmin (C : MC p s m args meth c cc nL own ret g A) (hls : ls.size = nL) {index : Nat} (hlink : Cond.methodLink own index Lib.Math.min.name ∈ BIG) (hfr : 1 ≤ R.frames) (hlo : (rest.map fun v => v.category).sum + 13 ≤ R.locals) (hcs : cells ≤ R.cells ∧ slots ≤ R.slots) {x y : Int32} (hdg : decode cc pc = .ok (.invokestatic index, 3))
    (kk : W p l e R s m args below meth c H locs cells slots Q (F0 m (pc + 3) ls (.int (if y < x then y else x) :: rest))) : W p l e R s m args below meth c H locs cells slots Q (F0 m pc ls (.int y :: .int x :: rest)) :=
  va_mmin C.1 C.2.1 (C.2.2.1.trans hls.symm) C.2.2.2.1 (C.2.2.2.2.1 _ hlink) (C.2.2.2.2.1 _ qy_min) (C.2.2.2.2.1 _ qi_J9) (C.2.2.2.2.1 _ qc_min) hfr hlo hcs.1 hcs.2 hdg kk
/-- the two tables -/
theorem x_letters (C : MC p s m args meth c cc nL own ret g A) (hW : WD g A s u H locs) {index : Nat} (hlink : (own, index, "StrayKeys", "LETTERS", "[I", "StrayKeys") ∈ nestF) (hdg : decode cc pc = .ok (.getstatic index, 3))
    (kk : W p l e R s m args below meth c H locs cells slots Q (F0 m (pc + 3) ls (.ref (gst g 0) :: rest))) : W p l e R s m args below meth c H locs cells slots Q (F0 m pc ls rest) := by
  obtain ⟨cf, kf, fi, f, a, cell, h1, h2, h3, h4, h5, h6, h7, h8⟩ := C.2.2.2.2.2.2.2.2.1.1
  intro T hT X
  obtain ⟨vm', X', st⟩ := X.getstaticNest C.1 C.2.2.2.1 (va_Nw.use rfl (C.2.2.2.2.2.2.2.2.2.1.1 _ hlink)) h1 h2 h3 h4 (cell₁ := cell) (v := .ref (gst g 0)) (by rw [hT, hW.2.2.2.1 a (Array.getElem?_eq_some_iff.mp h5).1 h8]; exact h5) (fun e => by rw [e] at h6; cases h6) h7 (g := F0 m pc ls rest) rfl (by rw [C.2.1]; exact hdg)
  obtain ⟨t, a1, b1⟩ := kk (T.setVm vm') hT X'
  exact ⟨t, st t a1, b1⟩
theorem x_sorts (C : MC p s m args meth c cc nL own ret g A) (hW : WD g A s u H locs) {index : Nat} (hlink : Cond.fieldLink own index "StrayKeys" "SORT_OF" "[I" ∈ BIG) (hdg : decode cc pc = .ok (.getstatic index, 3))
    (kk : W p l e R s m args below meth c H locs cells slots Q (F0 m (pc + 3) ls (.ref (gst g 1) :: rest))) : W p l e R s m args below meth c H locs cells slots Q (F0 m pc ls rest) :=
  va_gets C.1 C.2.1 C.2.2.2.2.2.2.2.2.1.2.2.1 hW.2.2 C.2.2.2.1 (C.2.2.2.2.1 _ hlink) (fun _ h => h) hdg kk
theorem x_letld (C : MC p s m args meth c cc nL own ret g A) (hW : WD g A s u H locs) {i : Int32} (hin : vp_in i 6) (hdg : decode cc pc = .ok (.iaload, 1))
    (kk : W p l e R s m args below meth c H locs cells slots Q (F0 m (pc + 1) ls (.int (letT i.toNatClampNeg) :: rest))) : W p l e R s m args below meth c H locs cells slots Q (F0 m pc ls (.int i :: .ref (gst g 0) :: rest)) :=
  va_ti C.1 C.2.1 C.2.2.2.2.2.2.2.2.1.2.1 hW.2.2 hin rfl hdg kk
theorem x_sortld (C : MC p s m args meth c cc nL own ret g A) (hW : WD g A s u H locs) {i : Int32} (hin : vp_in i 6) (hdg : decode cc pc = .ok (.iaload, 1))
    (kk : W p l e R s m args below meth c H locs cells slots Q (F0 m (pc + 1) ls (.int (sortT i.toNatClampNeg) :: rest))) : W p l e R s m args below meth c H locs cells slots Q (F0 m pc ls (.int i :: .ref (gst g 1) :: rest)) :=
  va_ti C.1 C.2.1 C.2.2.2.2.2.2.2.2.1.2.2.2 hW.2.2 hin rfl hdg kk
/-! ends -/
theorem x_iret {Qp : Int32 → St → Prop} (C : MC p s m args meth c cc nL own (some .int) g A) (hW : WD g A s u H locs) {v : Int32} (h : Qp v u) (hdg : decode cc pc = .ok (.ireturn, 1)) : W p l e R s m args below meth c H locs cells slots (MQ below (va_Qi Qp (WQ g) A) args s cells slots A) (F0 m pc ls [.int v]) :=
  W.iret (hlocks := C.2.2.2.2.2.2.2.1) C.1 C.2.1 C.2.2.2.2.2.2.1 (fun t ht hWm => ⟨⟨v, u, rfl, h, by unfold WQ; rw [ht]; exact hW.1⟩, hW.2.2.F ht⟩) hW.2.2.2.2 hdg
theorem x_zret {Qp : Int32 → St → Prop} (C : MC p s m args meth c cc nL own (some .boolean) g A) (hW : WD g A s u H locs) {v : Int32} (hn : narrow .boolean (.int v) = .int v) (h : Qp v u) (hdg : decode cc pc = .ok (.ireturn, 1)) : W p l e R s m args below meth c H locs cells slots (MQ below (va_Qi Qp (WQ g) A) args s cells slots A) (F0 m pc ls [.int v]) :=
  W.zret (hlocks := C.2.2.2.2.2.2.2.1) C.1 C.2.1 C.2.2.2.2.2.2.1 hn (fun t ht hWm => ⟨⟨v, u, rfl, h, by unfold WQ; rw [ht]; exact hW.1⟩, hW.2.2.F ht⟩) hW.2.2.2.2 hdg
theorem x_lret {Qp : Int64 → St → Prop} (C : MC p s m args meth c cc nL own (some .long) g A) (hW : WD g A s u H locs) {v : Int64} (h : Qp v u) (hdg : decode cc pc = .ok (.lreturn, 1)) : W p l e R s m args below meth c H locs cells slots (MQ below (va_Ql Qp (WQ g) A) args s cells slots A) (F0 m pc ls [.long v]) :=
  W.lret (hlocks := C.2.2.2.2.2.2.2.1) C.1 C.2.1 C.2.2.2.2.2.2.1 (fun t ht hWm => ⟨⟨v, u, rfl, h, by unfold WQ; rw [ht]; exact hW.1⟩, hW.2.2.F ht⟩) hW.2.2.2.2 hdg
theorem x_vret {Qp : St → Prop} (C : MC p s m args meth c cc nL own none g A) (hW : WD g A s u H locs) (h : Qp u) (hdg : decode cc pc = .ok (.return_, 1)) : W p l e R s m args below meth c H locs cells slots (MQ below (va_Qv Qp (WQ g) A) args s cells slots A) (F0 m pc ls []) :=
  W.vret (hlocks := C.2.2.2.2.2.2.2.1) C.1 C.2.1 C.2.2.2.2.2.2.1 (fun t ht hWm => ⟨⟨u, rfl, h, by unfold WQ; rw [ht]; exact hW.1⟩, hW.2.2.F ht⟩) hW.2.2.2.2 hdg
/-! calls -/
theorem x_pre (C : MC p s m args meth c cc nL own ret g A) (hW : WD g A s u H locs) : ∀ U : State, U.heap = H → s.WarmedH U.vm → U.heap.size = H.size ∧ WU g u U := fun U hU hWm => by
  refine ⟨by rw [hU], by rw [hU]; exact hW.1, va_K.moved hWm.alike C.2.2.2.2.2.1, hW.2.1.weaken (fun _ _ _ _ => trivial), ?_, C.2.2.2.2.2.2.2.2.2.1.warm hWm⟩
  rw [hU]
  exact ((C.2.2.2.2.2.2.2.2.1.kept hW.2.2.2.1).moved hWm.alike).narrow (DC_AD hW.2.1)
/-- a method that can be called: its words -/
def KM (y : MethodName) (bytes : ByteArray) (maxL : Nat) (rt : Option FieldType) (n : Nat) : Prop := Cond.code y bytes maxL rt ∈ BIG ∧ Cond.instanceMethod y ∈ BIG ∧ Cond.selects y.cls y y ∈ BIG ∧ Cond.initialized y.cls ∈ BIG ∧ y.cls ≠ "java/lang/invoke/MethodHandle" ∧ y.cls ≠ "java/lang/invoke/VarHandle" ∧ (parseMethodDescriptor y.desc).map (fun d => d.parameters.length) = some n
def KS (y : MethodName) (bytes : ByteArray) (maxL : Nat) (rt : Option FieldType) (n : Nat) : Prop := Cond.code y bytes maxL rt ∈ BIG ∧ Cond.static y ∈ BIG ∧ Cond.initialized y.cls ∈ BIG ∧ y.cls ≠ "java/lang/invoke/MethodHandle" ∧ y.cls ≠ "java/lang/invoke/VarHandle" ∧ (parseMethodDescriptor y.desc).map (fun d => d.parameters.length) = some n
variable {y : MethodName} {bytes : ByteArray} {maxL n index : Nat} {rt : Option FieldType} {rm : Room} {st0 As : List Value}
theorem x_runV {Qc : (Nat → Prop) → Array Value → State → Outcome → State → Prop} (C : MC p s m args meth c cc nL own ret g A) (hW : WD g A s u H locs) {k ci N : Nat} {Tt : u_T} {fs : List (Option Nat × Nat)} (hM : ∀ sz, Met l y (.code y bytes maxL rt :: BIG) rm (PC g (.ref (gad g k) :: As) u sz) (Qc (AA g sz)) 0 0 (AA g sz)) (km : KM y bytes maxL rt n) (hc : cfg[k]? = some (.inr (ci, fs))) (hcl : vwCl[ci]? = some (y.cls, Tt, N)) (hl : Cond.methodLink own index y ∈ BIG) (hrm : rm.cells = 0 ∧ rm.slots = 0) (hR : rm.frames + 1 ≤ R.frames ∧ 8 + (maxL + 11) + rm.locals ≤ R.locals) (hn : As.length = n) (hls : ls.size = nL) (hst : st0 = As.reverse ++ .ref (gad g k) :: rest) (hrest : (rest.map fun v => v.category).sum ≤ 8) (hcs : cells ≤ R.cells ∧ slots ≤ R.slots) (hdg : decode cc pc = .ok (.invokevirtual index, 3)) :
    va_Run p l e R s m args below meth c H locs cells slots 0 0 (F0 m pc ls st0) rest (Qc (AA g H.size) (Value.ref (gad g k) :: As).toArray) (AA g H.size) := by
  have ok := C.2.2.2.2.1
  exact va_runV (C := y.cls) ⟨C.1, C.2.1, C.2.2.1, C.2.2.2.1, ok⟩ (hM H.size) ⟨callB_of n ok (good_big km.1) rfl hrm.1 hrm.2 (ok _ km.2.2.2.1) (ok _ hl) km.2.2.2.2 hR, ok _ km.2.1, ok _ km.2.2.1⟩ ⟨PC_blind, va_recv (q := (y.cls, Tt, N)) C.2.2.2.2.2.1 hW.1 hcl (wsC_get hc), fun U hU hWm => ⟨rfl, x_pre C hW U hU hWm⟩⟩ rfl hn hls hst (lv_room hrest) hdg hcs
theorem x_runS {Qc : (Nat → Prop) → Array Value → State → Outcome → State → Prop} (C : MC p s m args meth c cc nL own ret g A) (hW : WD g A s u H locs) (hM : ∀ sz, Met l y (.code y bytes maxL rt :: BIG) rm (PC g As u sz) (Qc (AA g sz)) 0 0 (AA g sz)) (km : KS y bytes maxL rt n) (hl : Cond.methodLink own index y ∈ BIG) (hrm : rm.cells = 0 ∧ rm.slots = 0) (hR : rm.frames + 1 ≤ R.frames ∧ 8 + (maxL + 11) + rm.locals ≤ R.locals) (hn : As.length = n) (hls : ls.size = nL) (hst : st0 = As.reverse ++ rest) (hrest : (rest.map fun v => v.category).sum ≤ 8) (hcs : cells ≤ R.cells ∧ slots ≤ R.slots) (hdg : decode cc pc = .ok (.invokestatic index, 3)) :
    va_Run p l e R s m args below meth c H locs cells slots 0 0 (F0 m pc ls st0) rest (Qc (AA g H.size) As.toArray) (AA g H.size) := by
  have ok := C.2.2.2.2.1
  exact va_runS ⟨C.1, C.2.1, C.2.2.1, C.2.2.2.1, ok⟩ (hM H.size) ⟨callB_of n ok (good_big km.1) rfl hrm.1 hrm.2 (ok _ km.2.2.1) (ok _ hl) km.2.2.2 hR, ok _ km.2.1⟩ ⟨PC_blind, fun U hU hWm => ⟨rfl, x_pre C hW U hU hWm⟩⟩ rfl hn hls hst (lv_room hrest) hdg hcs
theorem x_runSN {host : String} {Qc : (Nat → Prop) → Array Value → State → Outcome → State → Prop} (C : MC p s m args meth c cc nL own ret g A) (hW : WD g A s u H locs) (hM : ∀ sz, Met l y (.code y bytes maxL rt :: BIG) rm (PC g As u sz) (Qc (AA g sz)) 0 0 (AA g sz)) (km : KS y bytes maxL rt n) (hl : (own, index, y, host) ∈ nestM) (hrm : rm.cells = 0 ∧ rm.slots = 0) (hR : rm.frames + 1 ≤ R.frames ∧ 8 + (maxL + 11) + rm.locals ≤ R.locals) (hn : As.length = n) (hls : ls.size = nL) (hst : st0 = As.reverse ++ rest) (hrest : (rest.map fun v => v.category).sum ≤ 8) (hcs : cells ≤ R.cells ∧ slots ≤ R.slots) (hdg : decode cc pc = .ok (.invokestatic index, 3)) :
    va_Run p l e R s m args below meth c H locs cells slots 0 0 (F0 m pc ls st0) rest (Qc (AA g H.size) As.toArray) (AA g H.size) := by
  have ok := C.2.2.2.2.1
  exact va_runSN (host := host) ⟨C.1, C.2.1, C.2.2.1, C.2.2.2.1, ok⟩ (hM H.size) ⟨va_cnB n ok (good_big km.1) rfl hrm.1 hrm.2 (C.2.2.2.2.2.2.2.2.2.1.2 _ hl) (ok _ km.2.2.1) km.2.2.2 hR, ok _ km.2.1, trivial⟩ ⟨PC_blind, fun U hU hWm => ⟨rfl, x_pre C hW U hU hWm⟩⟩ rfl hn hls hst (lv_room hrest) hdg hcs
theorem x_goi {Qp : Int32 → St → Prop} {a : Array Value} (C : MC p s m args meth c cc nL own ret g A) (hW : WD g A s u H locs) (hr : va_Run p l e R s m args below meth c H locs cells slots 0 0 (F0 m pc ls st0) rest (va_Qi Qp (WQ g) (AA g H.size) a) (AA g H.size))
    (kk : ∀ (r : Int32) (u1 : St) (H1 : Heap) (locs1 : List Loc), Qp r u1 → WD g A s u1 H1 locs1 → W p l e R s m args below meth c H1 locs1 cells slots Q (F0 m (pc + 3) ls (.int r :: rest))) : W p l e R s m args below meth c H locs cells slots Q (F0 m pc ls st0) :=
  va_calli hr hW.2.2 (fun q _ h => AA_in C.2.2.2.2.2.2.2.2.2.2 hW q h) (AA_in C.2.2.2.2.2.2.2.2.2.2 hW) (fun r u1 t H1 locs1 ht hvm hp hB _ _ hS => kk r u1 H1 locs1 hp ⟨by unfold WQ at hB; rw [ht] at hB; exact hB, DC_move hW.2.1, hS⟩)
theorem x_gol {Qp : Int64 → St → Prop} {a : Array Value} (C : MC p s m args meth c cc nL own ret g A) (hW : WD g A s u H locs) (hr : va_Run p l e R s m args below meth c H locs cells slots 0 0 (F0 m pc ls st0) rest (va_Ql Qp (WQ g) (AA g H.size) a) (AA g H.size))
    (kk : ∀ (r : Int64) (u1 : St) (H1 : Heap) (locs1 : List Loc), Qp r u1 → WD g A s u1 H1 locs1 → W p l e R s m args below meth c H1 locs1 cells slots Q (F0 m (pc + 3) ls (.long r :: rest))) : W p l e R s m args below meth c H locs cells slots Q (F0 m pc ls st0) :=
  va_calll hr hW.2.2 (fun q _ h => AA_in C.2.2.2.2.2.2.2.2.2.2 hW q h) (AA_in C.2.2.2.2.2.2.2.2.2.2 hW) (fun r u1 t H1 locs1 ht hvm hp hB _ _ hS => kk r u1 H1 locs1 hp ⟨by unfold WQ at hB; rw [ht] at hB; exact hB, DC_move hW.2.1, hS⟩)
theorem x_gov {Qp : St → Prop} {a : Array Value} (C : MC p s m args meth c cc nL own ret g A) (hW : WD g A s u H locs) (hr : va_Run p l e R s m args below meth c H locs cells slots 0 0 (F0 m pc ls st0) rest (va_Qv Qp (WQ g) (AA g H.size) a) (AA g H.size))
    (kk : ∀ (u1 : St) (H1 : Heap) (locs1 : List Loc), Qp u1 → WD g A s u1 H1 locs1 → W p l e R s m args below meth c H1 locs1 cells slots Q (F0 m (pc + 3) ls rest)) : W p l e R s m args below meth c H locs cells slots Q (F0 m pc ls st0) :=
  va_callv hr hW.2.2 (fun q _ h => AA_in C.2.2.2.2.2.2.2.2.2.2 hW q h) (AA_in C.2.2.2.2.2.2.2.2.2.2 hW) (fun u1 t H1 locs1 ht hvm hp hB _ _ hS => kk u1 H1 locs1 hp ⟨by unfold WQ at hB; rw [ht] at hB; exact hB, DC_move hW.2.1, hS⟩)
end XR
end
