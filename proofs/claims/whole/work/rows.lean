section
-- ===== PART A: goes FIRST, ahead of the names: the tables' words, and 'selects' of the private methods out of them =====
/-- a private method of a class that the tables say can be made, by its rows of tables_1 -/
def lw_okq (q : MethodName × Nat) : Prop := (q.1.cls ≠ "java/lang/invoke/MethodHandle" ∧ q.1.cls ≠ "java/lang/invoke/VarHandle") ∧ Cond.instantiable q.1.cls q.2 ∈ tables_1 ∧ Cond.privateMethod q.1 ∈ tables_1 ∧ Cond.instanceMethod q.1 ∈ tables_1
theorem lw_p0 : lw_okq (⟨"HouseInRoom", "finding", "(I)I"⟩, 9) := ⟨⟨by decide +kernel, by decide +kernel⟩, List.mem_of_getElem? (i := 18) (by decide +kernel), List.mem_of_getElem? (i := 245) (by decide +kernel), List.mem_of_getElem? (i := 246) (by decide +kernel)⟩
theorem lw_p1 : lw_okq (⟨"HouseInRoom", "isThing", "(I)Z"⟩, 9) := ⟨⟨by decide +kernel, by decide +kernel⟩, List.mem_of_getElem? (i := 18) (by decide +kernel), List.mem_of_getElem? (i := 282) (by decide +kernel), List.mem_of_getElem? (i := 283) (by decide +kernel)⟩
theorem lw_p2 : lw_okq (⟨"HouseInRoom", "isOne", "(I)Z"⟩, 9) := ⟨⟨by decide +kernel, by decide +kernel⟩, List.mem_of_getElem? (i := 18) (by decide +kernel), List.mem_of_getElem? (i := 323) (by decide +kernel), List.mem_of_getElem? (i := 324) (by decide +kernel)⟩
theorem lw_p3 : lw_okq (⟨"HouseInRoom", "goTo", "(II)I"⟩, 9) := ⟨⟨by decide +kernel, by decide +kernel⟩, List.mem_of_getElem? (i := 18) (by decide +kernel), List.mem_of_getElem? (i := 372) (by decide +kernel), List.mem_of_getElem? (i := 373) (by decide +kernel)⟩
theorem lw_p4 : lw_okq (⟨"HouseInRoom$World", "standingIn", "(I)I"⟩, 18) := ⟨⟨by decide +kernel, by decide +kernel⟩, List.mem_of_getElem? (i := 26) (by decide +kernel), List.mem_of_getElem? (i := 399) (by decide +kernel), List.mem_of_getElem? (i := 400) (by decide +kernel)⟩
theorem lw_p5 : lw_okq (⟨"HouseInRoom$World", "enter", "(IIIII)V"⟩, 18) := ⟨⟨by decide +kernel, by decide +kernel⟩, List.mem_of_getElem? (i := 26) (by decide +kernel), List.mem_of_getElem? (i := 403) (by decide +kernel), List.mem_of_getElem? (i := 404) (by decide +kernel)⟩
theorem lw_p6 : lw_okq (⟨"HouseInRoom", "foundOrNone", "(I)I"⟩, 9) := ⟨⟨by decide +kernel, by decide +kernel⟩, List.mem_of_getElem? (i := 18) (by decide +kernel), List.mem_of_getElem? (i := 462) (by decide +kernel), List.mem_of_getElem? (i := 463) (by decide +kernel)⟩
theorem lw_p7 : lw_okq (⟨"HouseInRoom", "isTask", "(III)Z"⟩, 9) := ⟨⟨by decide +kernel, by decide +kernel⟩, List.mem_of_getElem? (i := 18) (by decide +kernel), List.mem_of_getElem? (i := 470) (by decide +kernel), List.mem_of_getElem? (i := 471) (by decide +kernel)⟩
theorem lw_p8 : lw_okq (⟨"HouseInRoom$Search", "explore", "(LHouseInRoom$World;IIIZ)V"⟩, 4) := ⟨⟨by decide +kernel, by decide +kernel⟩, List.mem_of_getElem? (i := 110) (by decide +kernel), List.mem_of_getElem? (i := 478) (by decide +kernel), List.mem_of_getElem? (i := 479) (by decide +kernel)⟩
theorem lw_p9 : lw_okq (⟨"HouseInRoom$Search", "settle", "(I)Z"⟩, 4) := ⟨⟨by decide +kernel, by decide +kernel⟩, List.mem_of_getElem? (i := 110) (by decide +kernel), List.mem_of_getElem? (i := 490) (by decide +kernel), List.mem_of_getElem? (i := 491) (by decide +kernel)⟩
theorem lw_p10 : lw_okq (⟨"HouseInRoom$Search", "spread", "(LHouseInRoom$World;IJZ)V"⟩, 4) := ⟨⟨by decide +kernel, by decide +kernel⟩, List.mem_of_getElem? (i := 110) (by decide +kernel), List.mem_of_getElem? (i := 494) (by decide +kernel), List.mem_of_getElem? (i := 495) (by decide +kernel)⟩
theorem lw_p11 : lw_okq (⟨"HouseInRoom", "isRoomAndThing", "(I)Z"⟩, 9) := ⟨⟨by decide +kernel, by decide +kernel⟩, List.mem_of_getElem? (i := 18) (by decide +kernel), List.mem_of_getElem? (i := 556) (by decide +kernel), List.mem_of_getElem? (i := 557) (by decide +kernel)⟩
theorem lw_p12 : lw_okq (⟨"HouseInRoom", "stepsWithDoor", "(IIIII)I"⟩, 9) := ⟨⟨by decide +kernel, by decide +kernel⟩, List.mem_of_getElem? (i := 18) (by decide +kernel), List.mem_of_getElem? (i := 564) (by decide +kernel), List.mem_of_getElem? (i := 565) (by decide +kernel)⟩
theorem lw_p13 : lw_okq (⟨"HouseInRoom$World", "actByDraws", "(I)V"⟩, 18) := ⟨⟨by decide +kernel, by decide +kernel⟩, List.mem_of_getElem? (i := 26) (by decide +kernel), List.mem_of_getElem? (i := 597) (by decide +kernel), List.mem_of_getElem? (i := 598) (by decide +kernel)⟩
theorem lw_p14 : lw_okq (⟨"HouseInRoom$World", "draw", "()I"⟩, 18) := ⟨⟨by decide +kernel, by decide +kernel⟩, List.mem_of_getElem? (i := 26) (by decide +kernel), List.mem_of_getElem? (i := 601) (by decide +kernel), List.mem_of_getElem? (i := 602) (by decide +kernel)⟩
theorem lw_p15 : lw_okq (⟨"HouseInRoom$Tape", "endOf", "(I)I"⟩, 6) := ⟨⟨by decide +kernel, by decide +kernel⟩, List.mem_of_getElem? (i := 130) (by decide +kernel), List.mem_of_getElem? (i := 644) (by decide +kernel), List.mem_of_getElem? (i := 645) (by decide +kernel)⟩
def lw_privs_1 : List (MethodName × Nat) := [(⟨"HouseInRoom", "finding", "(I)I"⟩, 9), (⟨"HouseInRoom", "isThing", "(I)Z"⟩, 9), (⟨"HouseInRoom", "isOne", "(I)Z"⟩, 9), (⟨"HouseInRoom", "goTo", "(II)I"⟩, 9), (⟨"HouseInRoom$World", "standingIn", "(I)I"⟩, 18), (⟨"HouseInRoom$World", "enter", "(IIIII)V"⟩, 18), (⟨"HouseInRoom", "foundOrNone", "(I)I"⟩, 9), (⟨"HouseInRoom", "isTask", "(III)Z"⟩, 9), (⟨"HouseInRoom$Search", "explore", "(LHouseInRoom$World;IIIZ)V"⟩, 4), (⟨"HouseInRoom$Search", "settle", "(I)Z"⟩, 4), (⟨"HouseInRoom$Search", "spread", "(LHouseInRoom$World;IJZ)V"⟩, 4), (⟨"HouseInRoom", "isRoomAndThing", "(I)Z"⟩, 9), (⟨"HouseInRoom", "stepsWithDoor", "(IIIII)I"⟩, 9), (⟨"HouseInRoom$World", "actByDraws", "(I)V"⟩, 18), (⟨"HouseInRoom$World", "draw", "()I"⟩, 18), (⟨"HouseInRoom$Tape", "endOf", "(I)I"⟩, 6)]
theorem lw_r1 : ∀ q ∈ lw_privs_1, lw_okq q := List.forall_mem_cons.mpr ⟨lw_p0, List.forall_mem_cons.mpr ⟨lw_p1, List.forall_mem_cons.mpr ⟨lw_p2, List.forall_mem_cons.mpr ⟨lw_p3, List.forall_mem_cons.mpr ⟨lw_p4, List.forall_mem_cons.mpr ⟨lw_p5, List.forall_mem_cons.mpr ⟨lw_p6, List.forall_mem_cons.mpr ⟨lw_p7, List.forall_mem_cons.mpr ⟨lw_p8, List.forall_mem_cons.mpr ⟨lw_p9, List.forall_mem_cons.mpr ⟨lw_p10, List.forall_mem_cons.mpr ⟨lw_p11, List.forall_mem_cons.mpr ⟨lw_p12, List.forall_mem_cons.mpr ⟨lw_p13, List.forall_mem_cons.mpr ⟨lw_p14, List.forall_mem_cons.mpr ⟨lw_p15, fun _ h => absurd h List.not_mem_nil⟩⟩⟩⟩⟩⟩⟩⟩⟩⟩⟩⟩⟩⟩⟩⟩
theorem lw_p16 : lw_okq (⟨"HouseInRoom$Tape", "valueOf", "(III)I"⟩, 6) := ⟨⟨by decide +kernel, by decide +kernel⟩, List.mem_of_getElem? (i := 130) (by decide +kernel), List.mem_of_getElem? (i := 651) (by decide +kernel), List.mem_of_getElem? (i := 652) (by decide +kernel)⟩
theorem lw_p17 : lw_okq (⟨"HouseInRoom$Tape", "wordIn", "(II)I"⟩, 6) := ⟨⟨by decide +kernel, by decide +kernel⟩, List.mem_of_getElem? (i := 130) (by decide +kernel), List.mem_of_getElem? (i := 655) (by decide +kernel), List.mem_of_getElem? (i := 656) (by decide +kernel)⟩
theorem lw_p18 : lw_okq (⟨"HouseInRoom$Tape", "isWordIn", "(Ljava/lang/String;II)Z"⟩, 6) := ⟨⟨by decide +kernel, by decide +kernel⟩, List.mem_of_getElem? (i := 130) (by decide +kernel), List.mem_of_getElem? (i := 680) (by decide +kernel), List.mem_of_getElem? (i := 681) (by decide +kernel)⟩
theorem lw_p19 : lw_okq (⟨"HouseInRoom$Tape", "numberIn", "(II)I"⟩, 6) := ⟨⟨by decide +kernel, by decide +kernel⟩, List.mem_of_getElem? (i := 130) (by decide +kernel), List.mem_of_getElem? (i := 732) (by decide +kernel), List.mem_of_getElem? (i := 733) (by decide +kernel)⟩
theorem lw_p20 : lw_okq (⟨"HouseInRoom$Tape", "addToken", "(III)V"⟩, 6) := ⟨⟨by decide +kernel, by decide +kernel⟩, List.mem_of_getElem? (i := 130) (by decide +kernel), List.mem_of_getElem? (i := 739) (by decide +kernel), List.mem_of_getElem? (i := 740) (by decide +kernel)⟩
theorem lw_p21 : lw_okq (⟨"HouseInRoom$TextReader", "parseItem", "()V"⟩, 7) := ⟨⟨by decide +kernel, by decide +kernel⟩, List.mem_of_getElem? (i := 156) (by decide +kernel), List.mem_of_getElem? (i := 743) (by decide +kernel), List.mem_of_getElem? (i := 744) (by decide +kernel)⟩
theorem lw_p22 : lw_okq (⟨"HouseInRoom$TextReader", "parseOne", "()V"⟩, 7) := ⟨⟨by decide +kernel, by decide +kernel⟩, List.mem_of_getElem? (i := 156) (by decide +kernel), List.mem_of_getElem? (i := 751) (by decide +kernel), List.mem_of_getElem? (i := 752) (by decide +kernel)⟩
theorem lw_p23 : lw_okq (⟨"HouseInRoom$TextReader", "refuse", "()V"⟩, 7) := ⟨⟨by decide +kernel, by decide +kernel⟩, List.mem_of_getElem? (i := 156) (by decide +kernel), List.mem_of_getElem? (i := 755) (by decide +kernel), List.mem_of_getElem? (i := 756) (by decide +kernel)⟩
theorem lw_p24 : lw_okq (⟨"HouseInRoom$TextReader", "takePerhaps", "(IIII)I"⟩, 7) := ⟨⟨by decide +kernel, by decide +kernel⟩, List.mem_of_getElem? (i := 156) (by decide +kernel), List.mem_of_getElem? (i := 759) (by decide +kernel), List.mem_of_getElem? (i := 760) (by decide +kernel)⟩
theorem lw_p25 : lw_okq (⟨"HouseInRoom$TextReader", "takeNumber", "(III)I"⟩, 7) := ⟨⟨by decide +kernel, by decide +kernel⟩, List.mem_of_getElem? (i := 156) (by decide +kernel), List.mem_of_getElem? (i := 763) (by decide +kernel), List.mem_of_getElem? (i := 764) (by decide +kernel)⟩
theorem lw_p26 : lw_okq (⟨"HouseInRoom$TextReader", "addItem", "(IIII)V"⟩, 7) := ⟨⟨by decide +kernel, by decide +kernel⟩, List.mem_of_getElem? (i := 156) (by decide +kernel), List.mem_of_getElem? (i := 772) (by decide +kernel), List.mem_of_getElem? (i := 773) (by decide +kernel)⟩
theorem lw_p27 : lw_okq (⟨"HouseInRoom$TextReader", "parseDoor", "(I)V"⟩, 7) := ⟨⟨by decide +kernel, by decide +kernel⟩, List.mem_of_getElem? (i := 156) (by decide +kernel), List.mem_of_getElem? (i := 776) (by decide +kernel), List.mem_of_getElem? (i := 777) (by decide +kernel)⟩
theorem lw_p28 : lw_okq (⟨"HouseInRoom$TextReader", "parseRule", "(II)V"⟩, 7) := ⟨⟨by decide +kernel, by decide +kernel⟩, List.mem_of_getElem? (i := 156) (by decide +kernel), List.mem_of_getElem? (i := 780) (by decide +kernel), List.mem_of_getElem? (i := 781) (by decide +kernel)⟩
theorem lw_p29 : lw_okq (⟨"HouseInRoom$TextReader", "parseThing", "(I)V"⟩, 7) := ⟨⟨by decide +kernel, by decide +kernel⟩, List.mem_of_getElem? (i := 156) (by decide +kernel), List.mem_of_getElem? (i := 785) (by decide +kernel), List.mem_of_getElem? (i := 786) (by decide +kernel)⟩
theorem lw_p30 : lw_okq (⟨"HouseInRoom$TextReader", "takeSign", "()V"⟩, 7) := ⟨⟨by decide +kernel, by decide +kernel⟩, List.mem_of_getElem? (i := 156) (by decide +kernel), List.mem_of_getElem? (i := 793) (by decide +kernel), List.mem_of_getElem? (i := 794) (by decide +kernel)⟩
theorem lw_p31 : lw_okq (⟨"HouseInRoom", "makeSo", "(I)V"⟩, 9) := ⟨⟨by decide +kernel, by decide +kernel⟩, List.mem_of_getElem? (i := 18) (by decide +kernel), List.mem_of_getElem? (i := 801) (by decide +kernel), List.mem_of_getElem? (i := 802) (by decide +kernel)⟩
def lw_privs_2 : List (MethodName × Nat) := [(⟨"HouseInRoom$Tape", "valueOf", "(III)I"⟩, 6), (⟨"HouseInRoom$Tape", "wordIn", "(II)I"⟩, 6), (⟨"HouseInRoom$Tape", "isWordIn", "(Ljava/lang/String;II)Z"⟩, 6), (⟨"HouseInRoom$Tape", "numberIn", "(II)I"⟩, 6), (⟨"HouseInRoom$Tape", "addToken", "(III)V"⟩, 6), (⟨"HouseInRoom$TextReader", "parseItem", "()V"⟩, 7), (⟨"HouseInRoom$TextReader", "parseOne", "()V"⟩, 7), (⟨"HouseInRoom$TextReader", "refuse", "()V"⟩, 7), (⟨"HouseInRoom$TextReader", "takePerhaps", "(IIII)I"⟩, 7), (⟨"HouseInRoom$TextReader", "takeNumber", "(III)I"⟩, 7), (⟨"HouseInRoom$TextReader", "addItem", "(IIII)V"⟩, 7), (⟨"HouseInRoom$TextReader", "parseDoor", "(I)V"⟩, 7), (⟨"HouseInRoom$TextReader", "parseRule", "(II)V"⟩, 7), (⟨"HouseInRoom$TextReader", "parseThing", "(I)V"⟩, 7), (⟨"HouseInRoom$TextReader", "takeSign", "()V"⟩, 7), (⟨"HouseInRoom", "makeSo", "(I)V"⟩, 9)]
theorem lw_r2 : ∀ q ∈ lw_privs_2, lw_okq q := List.forall_mem_cons.mpr ⟨lw_p16, List.forall_mem_cons.mpr ⟨lw_p17, List.forall_mem_cons.mpr ⟨lw_p18, List.forall_mem_cons.mpr ⟨lw_p19, List.forall_mem_cons.mpr ⟨lw_p20, List.forall_mem_cons.mpr ⟨lw_p21, List.forall_mem_cons.mpr ⟨lw_p22, List.forall_mem_cons.mpr ⟨lw_p23, List.forall_mem_cons.mpr ⟨lw_p24, List.forall_mem_cons.mpr ⟨lw_p25, List.forall_mem_cons.mpr ⟨lw_p26, List.forall_mem_cons.mpr ⟨lw_p27, List.forall_mem_cons.mpr ⟨lw_p28, List.forall_mem_cons.mpr ⟨lw_p29, List.forall_mem_cons.mpr ⟨lw_p30, List.forall_mem_cons.mpr ⟨lw_p31, fun _ h => absurd h List.not_mem_nil⟩⟩⟩⟩⟩⟩⟩⟩⟩⟩⟩⟩⟩⟩⟩⟩
theorem lw_p32 : lw_okq (⟨"HouseInRoomModel", "opensDoor", "(IIZ)V"⟩, 20) := ⟨⟨by decide +kernel, by decide +kernel⟩, List.mem_of_getElem? (i := 888) (by decide +kernel), List.mem_of_getElem? (i := 894) (by decide +kernel), List.mem_of_getElem? (i := 895) (by decide +kernel)⟩
theorem lw_p33 : lw_okq (⟨"HouseInRoomModel", "finding", "(I)I"⟩, 20) := ⟨⟨by decide +kernel, by decide +kernel⟩, List.mem_of_getElem? (i := 888) (by decide +kernel), List.mem_of_getElem? (i := 970) (by decide +kernel), List.mem_of_getElem? (i := 971) (by decide +kernel)⟩
theorem lw_p34 : lw_okq (⟨"HouseInRoomModel", "isOpen", "(II)Z"⟩, 20) := ⟨⟨by decide +kernel, by decide +kernel⟩, List.mem_of_getElem? (i := 888) (by decide +kernel), List.mem_of_getElem? (i := 975) (by decide +kernel), List.mem_of_getElem? (i := 976) (by decide +kernel)⟩
theorem lw_p35 : lw_okq (⟨"HouseInRoomModel", "lays", "(III)V"⟩, 20) := ⟨⟨by decide +kernel, by decide +kernel⟩, List.mem_of_getElem? (i := 888) (by decide +kernel), List.mem_of_getElem? (i := 992) (by decide +kernel), List.mem_of_getElem? (i := 993) (by decide +kernel)⟩
theorem lw_p36 : lw_okq (⟨"HouseInRoomModel", "isThing", "(I)Z"⟩, 20) := ⟨⟨by decide +kernel, by decide +kernel⟩, List.mem_of_getElem? (i := 888) (by decide +kernel), List.mem_of_getElem? (i := 1000) (by decide +kernel), List.mem_of_getElem? (i := 1001) (by decide +kernel)⟩
theorem lw_p37 : lw_okq (⟨"HouseInRoomModel", "weighs", "(II)I"⟩, 20) := ⟨⟨by decide +kernel, by decide +kernel⟩, List.mem_of_getElem? (i := 888) (by decide +kernel), List.mem_of_getElem? (i := 1004) (by decide +kernel), List.mem_of_getElem? (i := 1005) (by decide +kernel)⟩
theorem lw_p38 : lw_okq (⟨"HouseInRoomModel", "comes", "(II)V"⟩, 20) := ⟨⟨by decide +kernel, by decide +kernel⟩, List.mem_of_getElem? (i := 888) (by decide +kernel), List.mem_of_getElem? (i := 1024) (by decide +kernel), List.mem_of_getElem? (i := 1025) (by decide +kernel)⟩
theorem lw_p39 : lw_okq (⟨"HouseInRoomModel", "isOne", "(I)Z"⟩, 20) := ⟨⟨by decide +kernel, by decide +kernel⟩, List.mem_of_getElem? (i := 888) (by decide +kernel), List.mem_of_getElem? (i := 1032) (by decide +kernel), List.mem_of_getElem? (i := 1033) (by decide +kernel)⟩
theorem lw_p40 : lw_okq (⟨"HouseInRoomModel", "canWalk", "(II)Z"⟩, 20) := ⟨⟨by decide +kernel, by decide +kernel⟩, List.mem_of_getElem? (i := 888) (by decide +kernel), List.mem_of_getElem? (i := 1048) (by decide +kernel), List.mem_of_getElem? (i := 1049) (by decide +kernel)⟩
theorem lw_p41 : lw_okq (⟨"HouseInRoomModel", "roomOf", "(I)I"⟩, 20) := ⟨⟨by decide +kernel, by decide +kernel⟩, List.mem_of_getElem? (i := 888) (by decide +kernel), List.mem_of_getElem? (i := 1052) (by decide +kernel), List.mem_of_getElem? (i := 1053) (by decide +kernel)⟩
theorem lw_p42 : lw_okq (⟨"HouseInRoomModel", "levelOf", "(I)I"⟩, 20) := ⟨⟨by decide +kernel, by decide +kernel⟩, List.mem_of_getElem? (i := 888) (by decide +kernel), List.mem_of_getElem? (i := 1056) (by decide +kernel), List.mem_of_getElem? (i := 1057) (by decide +kernel)⟩
theorem lw_p43 : lw_okq (⟨"HouseInRoomModel", "goes", "(III)V"⟩, 20) := ⟨⟨by decide +kernel, by decide +kernel⟩, List.mem_of_getElem? (i := 888) (by decide +kernel), List.mem_of_getElem? (i := 1060) (by decide +kernel), List.mem_of_getElem? (i := 1061) (by decide +kernel)⟩
theorem lw_p44 : lw_okq (⟨"HouseInRoomModel", "isBefore", "(I)Z"⟩, 20) := ⟨⟨by decide +kernel, by decide +kernel⟩, List.mem_of_getElem? (i := 888) (by decide +kernel), List.mem_of_getElem? (i := 1068) (by decide +kernel), List.mem_of_getElem? (i := 1069) (by decide +kernel)⟩
theorem lw_p45 : lw_okq (⟨"HouseInRoomModel", "canCarry", "(III)Z"⟩, 20) := ⟨⟨by decide +kernel, by decide +kernel⟩, List.mem_of_getElem? (i := 888) (by decide +kernel), List.mem_of_getElem? (i := 1080) (by decide +kernel), List.mem_of_getElem? (i := 1081) (by decide +kernel)⟩
theorem lw_p46 : lw_okq (⟨"HouseInRoomModel", "standing", "(II)I"⟩, 20) := ⟨⟨by decide +kernel, by decide +kernel⟩, List.mem_of_getElem? (i := 888) (by decide +kernel), List.mem_of_getElem? (i := 1084) (by decide +kernel), List.mem_of_getElem? (i := 1085) (by decide +kernel)⟩
theorem lw_p47 : lw_okq (⟨"HouseInRoomModel", "brings", "(IIII)I"⟩, 20) := ⟨⟨by decide +kernel, by decide +kernel⟩, List.mem_of_getElem? (i := 888) (by decide +kernel), List.mem_of_getElem? (i := 1088) (by decide +kernel), List.mem_of_getElem? (i := 1089) (by decide +kernel)⟩
def lw_privs_3 : List (MethodName × Nat) := [(⟨"HouseInRoomModel", "opensDoor", "(IIZ)V"⟩, 20), (⟨"HouseInRoomModel", "finding", "(I)I"⟩, 20), (⟨"HouseInRoomModel", "isOpen", "(II)Z"⟩, 20), (⟨"HouseInRoomModel", "lays", "(III)V"⟩, 20), (⟨"HouseInRoomModel", "isThing", "(I)Z"⟩, 20), (⟨"HouseInRoomModel", "weighs", "(II)I"⟩, 20), (⟨"HouseInRoomModel", "comes", "(II)V"⟩, 20), (⟨"HouseInRoomModel", "isOne", "(I)Z"⟩, 20), (⟨"HouseInRoomModel", "canWalk", "(II)Z"⟩, 20), (⟨"HouseInRoomModel", "roomOf", "(I)I"⟩, 20), (⟨"HouseInRoomModel", "levelOf", "(I)I"⟩, 20), (⟨"HouseInRoomModel", "goes", "(III)V"⟩, 20), (⟨"HouseInRoomModel", "isBefore", "(I)Z"⟩, 20), (⟨"HouseInRoomModel", "canCarry", "(III)Z"⟩, 20), (⟨"HouseInRoomModel", "standing", "(II)I"⟩, 20), (⟨"HouseInRoomModel", "brings", "(IIII)I"⟩, 20)]
theorem lw_r3 : ∀ q ∈ lw_privs_3, lw_okq q := List.forall_mem_cons.mpr ⟨lw_p32, List.forall_mem_cons.mpr ⟨lw_p33, List.forall_mem_cons.mpr ⟨lw_p34, List.forall_mem_cons.mpr ⟨lw_p35, List.forall_mem_cons.mpr ⟨lw_p36, List.forall_mem_cons.mpr ⟨lw_p37, List.forall_mem_cons.mpr ⟨lw_p38, List.forall_mem_cons.mpr ⟨lw_p39, List.forall_mem_cons.mpr ⟨lw_p40, List.forall_mem_cons.mpr ⟨lw_p41, List.forall_mem_cons.mpr ⟨lw_p42, List.forall_mem_cons.mpr ⟨lw_p43, List.forall_mem_cons.mpr ⟨lw_p44, List.forall_mem_cons.mpr ⟨lw_p45, List.forall_mem_cons.mpr ⟨lw_p46, List.forall_mem_cons.mpr ⟨lw_p47, fun _ h => absurd h List.not_mem_nil⟩⟩⟩⟩⟩⟩⟩⟩⟩⟩⟩⟩⟩⟩⟩⟩
theorem lw_p48 : lw_okq (⟨"HouseInRoomModel", "canReach", "(III)Z"⟩, 20) := ⟨⟨by decide +kernel, by decide +kernel⟩, List.mem_of_getElem? (i := 888) (by decide +kernel), List.mem_of_getElem? (i := 1097) (by decide +kernel), List.mem_of_getElem? (i := 1098) (by decide +kernel)⟩
theorem lw_p49 : lw_okq (⟨"HouseInRoomModel", "walksAll", "(IIZ)V"⟩, 20) := ⟨⟨by decide +kernel, by decide +kernel⟩, List.mem_of_getElem? (i := 888) (by decide +kernel), List.mem_of_getElem? (i := 1118) (by decide +kernel), List.mem_of_getElem? (i := 1119) (by decide +kernel)⟩
theorem lw_p50 : lw_okq (⟨"HouseInRoomModel", "finds", "(III)V"⟩, 20) := ⟨⟨by decide +kernel, by decide +kernel⟩, List.mem_of_getElem? (i := 888) (by decide +kernel), List.mem_of_getElem? (i := 1122) (by decide +kernel), List.mem_of_getElem? (i := 1123) (by decide +kernel)⟩
theorem lw_p51 : lw_okq (⟨"HouseInRoomModel", "stepsFrom", "(IIZIII)V"⟩, 20) := ⟨⟨by decide +kernel, by decide +kernel⟩, List.mem_of_getElem? (i := 888) (by decide +kernel), List.mem_of_getElem? (i := 1126) (by decide +kernel), List.mem_of_getElem? (i := 1127) (by decide +kernel)⟩
theorem lw_p52 : lw_okq (⟨"HouseInRoomModel", "orNone", "(I)I"⟩, 20) := ⟨⟨by decide +kernel, by decide +kernel⟩, List.mem_of_getElem? (i := 888) (by decide +kernel), List.mem_of_getElem? (i := 1134) (by decide +kernel), List.mem_of_getElem? (i := 1135) (by decide +kernel)⟩
theorem lw_p53 : lw_okq (⟨"HouseInRoomModel", "isTask", "(III)Z"⟩, 20) := ⟨⟨by decide +kernel, by decide +kernel⟩, List.mem_of_getElem? (i := 888) (by decide +kernel), List.mem_of_getElem? (i := 1142) (by decide +kernel), List.mem_of_getElem? (i := 1143) (by decide +kernel)⟩
theorem lw_p54 : lw_okq (⟨"HouseInRoomModel", "stepsOf", "(III)I"⟩, 20) := ⟨⟨by decide +kernel, by decide +kernel⟩, List.mem_of_getElem? (i := 888) (by decide +kernel), List.mem_of_getElem? (i := 1146) (by decide +kernel), List.mem_of_getElem? (i := 1147) (by decide +kernel)⟩
theorem lw_p55 : lw_okq (⟨"HouseInRoomModel", "leastFor", "(I)I"⟩, 20) := ⟨⟨by decide +kernel, by decide +kernel⟩, List.mem_of_getElem? (i := 888) (by decide +kernel), List.mem_of_getElem? (i := 1150) (by decide +kernel), List.mem_of_getElem? (i := 1151) (by decide +kernel)⟩
theorem lw_p56 : lw_okq (⟨"HouseInRoomModel", "begins", "()V"⟩, 20) := ⟨⟨by decide +kernel, by decide +kernel⟩, List.mem_of_getElem? (i := 888) (by decide +kernel), List.mem_of_getElem? (i := 1158) (by decide +kernel), List.mem_of_getElem? (i := 1159) (by decide +kernel)⟩
theorem lw_p57 : lw_okq (⟨"HouseInRoomModel", "tries", "(II)V"⟩, 20) := ⟨⟨by decide +kernel, by decide +kernel⟩, List.mem_of_getElem? (i := 888) (by decide +kernel), List.mem_of_getElem? (i := 1162) (by decide +kernel), List.mem_of_getElem? (i := 1163) (by decide +kernel)⟩
theorem lw_p58 : lw_okq (⟨"HouseInRoomModel", "roomsFor", "(IIZ)I"⟩, 20) := ⟨⟨by decide +kernel, by decide +kernel⟩, List.mem_of_getElem? (i := 888) (by decide +kernel), List.mem_of_getElem? (i := 1170) (by decide +kernel), List.mem_of_getElem? (i := 1171) (by decide +kernel)⟩
theorem lw_p59 : lw_okq (⟨"HouseInRoomModel", "isSafe", "(I)Z"⟩, 20) := ⟨⟨by decide +kernel, by decide +kernel⟩, List.mem_of_getElem? (i := 888) (by decide +kernel), List.mem_of_getElem? (i := 1194) (by decide +kernel), List.mem_of_getElem? (i := 1195) (by decide +kernel)⟩
theorem lw_p60 : lw_okq (⟨"HouseInRoomModel", "isReach", "(I)Z"⟩, 20) := ⟨⟨by decide +kernel, by decide +kernel⟩, List.mem_of_getElem? (i := 888) (by decide +kernel), List.mem_of_getElem? (i := 1206) (by decide +kernel), List.mem_of_getElem? (i := 1207) (by decide +kernel)⟩
theorem lw_p61 : lw_okq (⟨"HouseInRoomModel", "lends", "()V"⟩, 20) := ⟨⟨by decide +kernel, by decide +kernel⟩, List.mem_of_getElem? (i := 888) (by decide +kernel), List.mem_of_getElem? (i := 1210) (by decide +kernel), List.mem_of_getElem? (i := 1211) (by decide +kernel)⟩
theorem lw_p62 : lw_okq (⟨"HouseInRoomModel", "reaches", "(II)V"⟩, 20) := ⟨⟨by decide +kernel, by decide +kernel⟩, List.mem_of_getElem? (i := 888) (by decide +kernel), List.mem_of_getElem? (i := 1217) (by decide +kernel), List.mem_of_getElem? (i := 1218) (by decide +kernel)⟩
theorem lw_p63 : lw_okq (⟨"HouseInRoomModel", "laysBack", "()V"⟩, 20) := ⟨⟨by decide +kernel, by decide +kernel⟩, List.mem_of_getElem? (i := 888) (by decide +kernel), List.mem_of_getElem? (i := 1221) (by decide +kernel), List.mem_of_getElem? (i := 1222) (by decide +kernel)⟩
def lw_privs_4 : List (MethodName × Nat) := [(⟨"HouseInRoomModel", "canReach", "(III)Z"⟩, 20), (⟨"HouseInRoomModel", "walksAll", "(IIZ)V"⟩, 20), (⟨"HouseInRoomModel", "finds", "(III)V"⟩, 20), (⟨"HouseInRoomModel", "stepsFrom", "(IIZIII)V"⟩, 20), (⟨"HouseInRoomModel", "orNone", "(I)I"⟩, 20), (⟨"HouseInRoomModel", "isTask", "(III)Z"⟩, 20), (⟨"HouseInRoomModel", "stepsOf", "(III)I"⟩, 20), (⟨"HouseInRoomModel", "leastFor", "(I)I"⟩, 20), (⟨"HouseInRoomModel", "begins", "()V"⟩, 20), (⟨"HouseInRoomModel", "tries", "(II)V"⟩, 20), (⟨"HouseInRoomModel", "roomsFor", "(IIZ)I"⟩, 20), (⟨"HouseInRoomModel", "isSafe", "(I)Z"⟩, 20), (⟨"HouseInRoomModel", "isReach", "(I)Z"⟩, 20), (⟨"HouseInRoomModel", "lends", "()V"⟩, 20), (⟨"HouseInRoomModel", "reaches", "(II)V"⟩, 20), (⟨"HouseInRoomModel", "laysBack", "()V"⟩, 20)]
theorem lw_r4 : ∀ q ∈ lw_privs_4, lw_okq q := List.forall_mem_cons.mpr ⟨lw_p48, List.forall_mem_cons.mpr ⟨lw_p49, List.forall_mem_cons.mpr ⟨lw_p50, List.forall_mem_cons.mpr ⟨lw_p51, List.forall_mem_cons.mpr ⟨lw_p52, List.forall_mem_cons.mpr ⟨lw_p53, List.forall_mem_cons.mpr ⟨lw_p54, List.forall_mem_cons.mpr ⟨lw_p55, List.forall_mem_cons.mpr ⟨lw_p56, List.forall_mem_cons.mpr ⟨lw_p57, List.forall_mem_cons.mpr ⟨lw_p58, List.forall_mem_cons.mpr ⟨lw_p59, List.forall_mem_cons.mpr ⟨lw_p60, List.forall_mem_cons.mpr ⟨lw_p61, List.forall_mem_cons.mpr ⟨lw_p62, List.forall_mem_cons.mpr ⟨lw_p63, fun _ h => absurd h List.not_mem_nil⟩⟩⟩⟩⟩⟩⟩⟩⟩⟩⟩⟩⟩⟩⟩⟩
theorem lw_p64 : lw_okq (⟨"HouseInRoomModel", "daysGo", "(I)I"⟩, 20) := ⟨⟨by decide +kernel, by decide +kernel⟩, List.mem_of_getElem? (i := 888) (by decide +kernel), List.mem_of_getElem? (i := 1264) (by decide +kernel), List.mem_of_getElem? (i := 1265) (by decide +kernel)⟩
theorem lw_p65 : lw_okq (⟨"HouseInRoomModel", "aDay", "()V"⟩, 20) := ⟨⟨by decide +kernel, by decide +kernel⟩, List.mem_of_getElem? (i := 888) (by decide +kernel), List.mem_of_getElem? (i := 1268) (by decide +kernel), List.mem_of_getElem? (i := 1269) (by decide +kernel)⟩
theorem lw_p66 : lw_okq (⟨"HouseInRoomModel", "dayOf", "(I)V"⟩, 20) := ⟨⟨by decide +kernel, by decide +kernel⟩, List.mem_of_getElem? (i := 888) (by decide +kernel), List.mem_of_getElem? (i := 1272) (by decide +kernel), List.mem_of_getElem? (i := 1273) (by decide +kernel)⟩
theorem lw_p67 : lw_okq (⟨"HouseInRoomModel", "draw", "()I"⟩, 20) := ⟨⟨by decide +kernel, by decide +kernel⟩, List.mem_of_getElem? (i := 888) (by decide +kernel), List.mem_of_getElem? (i := 1276) (by decide +kernel), List.mem_of_getElem? (i := 1277) (by decide +kernel)⟩
theorem lw_p68 : lw_okq (⟨"HouseInRoomModel", "next", "()V"⟩, 20) := ⟨⟨by decide +kernel, by decide +kernel⟩, List.mem_of_getElem? (i := 888) (by decide +kernel), List.mem_of_getElem? (i := 1305) (by decide +kernel), List.mem_of_getElem? (i := 1306) (by decide +kernel)⟩
theorem lw_p69 : lw_okq (⟨"HouseInRoomModel", "isByte", "(III)Z"⟩, 20) := ⟨⟨by decide +kernel, by decide +kernel⟩, List.mem_of_getElem? (i := 888) (by decide +kernel), List.mem_of_getElem? (i := 1309) (by decide +kernel), List.mem_of_getElem? (i := 1310) (by decide +kernel)⟩
theorem lw_p70 : lw_okq (⟨"HouseInRoomModel", "item", "()V"⟩, 20) := ⟨⟨by decide +kernel, by decide +kernel⟩, List.mem_of_getElem? (i := 888) (by decide +kernel), List.mem_of_getElem? (i := 1313) (by decide +kernel), List.mem_of_getElem? (i := 1314) (by decide +kernel)⟩
theorem lw_p71 : lw_okq (⟨"HouseInRoomModel", "kindHere", "()I"⟩, 20) := ⟨⟨by decide +kernel, by decide +kernel⟩, List.mem_of_getElem? (i := 888) (by decide +kernel), List.mem_of_getElem? (i := 1317) (by decide +kernel), List.mem_of_getElem? (i := 1318) (by decide +kernel)⟩
theorem lw_p72 : lw_okq (⟨"HouseInRoomModel", "isWord", "(Ljava/lang/String;)Z"⟩, 20) := ⟨⟨by decide +kernel, by decide +kernel⟩, List.mem_of_getElem? (i := 888) (by decide +kernel), List.mem_of_getElem? (i := 1331) (by decide +kernel), List.mem_of_getElem? (i := 1332) (by decide +kernel)⟩
theorem lw_p73 : lw_okq (⟨"HouseInRoomModel", "thingTold", "(I)V"⟩, 20) := ⟨⟨by decide +kernel, by decide +kernel⟩, List.mem_of_getElem? (i := 888) (by decide +kernel), List.mem_of_getElem? (i := 1337) (by decide +kernel), List.mem_of_getElem? (i := 1338) (by decide +kernel)⟩
theorem lw_p74 : lw_okq (⟨"HouseInRoomModel", "perhaps", "(Ljava/lang/String;III)I"⟩, 20) := ⟨⟨by decide +kernel, by decide +kernel⟩, List.mem_of_getElem? (i := 888) (by decide +kernel), List.mem_of_getElem? (i := 1342) (by decide +kernel), List.mem_of_getElem? (i := 1343) (by decide +kernel)⟩
theorem lw_p75 : lw_okq (⟨"HouseInRoomModel", "takes", "(Ljava/lang/String;)Z"⟩, 20) := ⟨⟨by decide +kernel, by decide +kernel⟩, List.mem_of_getElem? (i := 888) (by decide +kernel), List.mem_of_getElem? (i := 1346) (by decide +kernel), List.mem_of_getElem? (i := 1347) (by decide +kernel)⟩
theorem lw_p76 : lw_okq (⟨"HouseInRoomModel", "numberHere", "()I"⟩, 20) := ⟨⟨by decide +kernel, by decide +kernel⟩, List.mem_of_getElem? (i := 888) (by decide +kernel), List.mem_of_getElem? (i := 1350) (by decide +kernel), List.mem_of_getElem? (i := 1351) (by decide +kernel)⟩
theorem lw_p77 : lw_okq (⟨"HouseInRoomModel", "number", "(I)I"⟩, 20) := ⟨⟨by decide +kernel, by decide +kernel⟩, List.mem_of_getElem? (i := 888) (by decide +kernel), List.mem_of_getElem? (i := 1354) (by decide +kernel), List.mem_of_getElem? (i := 1355) (by decide +kernel)⟩
theorem lw_p78 : lw_okq (⟨"HouseInRoomModel", "oneTold", "()V"⟩, 20) := ⟨⟨by decide +kernel, by decide +kernel⟩, List.mem_of_getElem? (i := 888) (by decide +kernel), List.mem_of_getElem? (i := 1360) (by decide +kernel), List.mem_of_getElem? (i := 1361) (by decide +kernel)⟩
theorem lw_p79 : lw_okq (⟨"HouseInRoomModel", "doorTold", "(Z)V"⟩, 20) := ⟨⟨by decide +kernel, by decide +kernel⟩, List.mem_of_getElem? (i := 888) (by decide +kernel), List.mem_of_getElem? (i := 1367) (by decide +kernel), List.mem_of_getElem? (i := 1368) (by decide +kernel)⟩
def lw_privs_5 : List (MethodName × Nat) := [(⟨"HouseInRoomModel", "daysGo", "(I)I"⟩, 20), (⟨"HouseInRoomModel", "aDay", "()V"⟩, 20), (⟨"HouseInRoomModel", "dayOf", "(I)V"⟩, 20), (⟨"HouseInRoomModel", "draw", "()I"⟩, 20), (⟨"HouseInRoomModel", "next", "()V"⟩, 20), (⟨"HouseInRoomModel", "isByte", "(III)Z"⟩, 20), (⟨"HouseInRoomModel", "item", "()V"⟩, 20), (⟨"HouseInRoomModel", "kindHere", "()I"⟩, 20), (⟨"HouseInRoomModel", "isWord", "(Ljava/lang/String;)Z"⟩, 20), (⟨"HouseInRoomModel", "thingTold", "(I)V"⟩, 20), (⟨"HouseInRoomModel", "perhaps", "(Ljava/lang/String;III)I"⟩, 20), (⟨"HouseInRoomModel", "takes", "(Ljava/lang/String;)Z"⟩, 20), (⟨"HouseInRoomModel", "numberHere", "()I"⟩, 20), (⟨"HouseInRoomModel", "number", "(I)I"⟩, 20), (⟨"HouseInRoomModel", "oneTold", "()V"⟩, 20), (⟨"HouseInRoomModel", "doorTold", "(Z)V"⟩, 20)]
theorem lw_r5 : ∀ q ∈ lw_privs_5, lw_okq q := List.forall_mem_cons.mpr ⟨lw_p64, List.forall_mem_cons.mpr ⟨lw_p65, List.forall_mem_cons.mpr ⟨lw_p66, List.forall_mem_cons.mpr ⟨lw_p67, List.forall_mem_cons.mpr ⟨lw_p68, List.forall_mem_cons.mpr ⟨lw_p69, List.forall_mem_cons.mpr ⟨lw_p70, List.forall_mem_cons.mpr ⟨lw_p71, List.forall_mem_cons.mpr ⟨lw_p72, List.forall_mem_cons.mpr ⟨lw_p73, List.forall_mem_cons.mpr ⟨lw_p74, List.forall_mem_cons.mpr ⟨lw_p75, List.forall_mem_cons.mpr ⟨lw_p76, List.forall_mem_cons.mpr ⟨lw_p77, List.forall_mem_cons.mpr ⟨lw_p78, List.forall_mem_cons.mpr ⟨lw_p79, fun _ h => absurd h List.not_mem_nil⟩⟩⟩⟩⟩⟩⟩⟩⟩⟩⟩⟩⟩⟩⟩⟩
theorem lw_p80 : lw_okq (⟨"HouseInRoomModel", "ruleTold", "(II)V"⟩, 20) := ⟨⟨by decide +kernel, by decide +kernel⟩, List.mem_of_getElem? (i := 888) (by decide +kernel), List.mem_of_getElem? (i := 1373) (by decide +kernel), List.mem_of_getElem? (i := 1374) (by decide +kernel)⟩
theorem lw_p81 : lw_okq (⟨"HouseInRoomModel", "lacksOf", "(I)I"⟩, 20) := ⟨⟨by decide +kernel, by decide +kernel⟩, List.mem_of_getElem? (i := 888) (by decide +kernel), List.mem_of_getElem? (i := 1406) (by decide +kernel), List.mem_of_getElem? (i := 1407) (by decide +kernel)⟩
theorem lw_p82 : lw_okq (⟨"HouseInRoomModel", "isStep", "(II)Z"⟩, 20) := ⟨⟨by decide +kernel, by decide +kernel⟩, List.mem_of_getElem? (i := 888) (by decide +kernel), List.mem_of_getElem? (i := 1425) (by decide +kernel), List.mem_of_getElem? (i := 1426) (by decide +kernel)⟩
theorem lw_p83 : lw_okq (⟨"HouseInRoomModel", "holding", "()I"⟩, 20) := ⟨⟨by decide +kernel, by decide +kernel⟩, List.mem_of_getElem? (i := 888) (by decide +kernel), List.mem_of_getElem? (i := 1445) (by decide +kernel), List.mem_of_getElem? (i := 1446) (by decide +kernel)⟩
def lw_privs_6 : List (MethodName × Nat) := [(⟨"HouseInRoomModel", "ruleTold", "(II)V"⟩, 20), (⟨"HouseInRoomModel", "lacksOf", "(I)I"⟩, 20), (⟨"HouseInRoomModel", "isStep", "(II)Z"⟩, 20), (⟨"HouseInRoomModel", "holding", "()I"⟩, 20)]
theorem lw_r6 : ∀ q ∈ lw_privs_6, lw_okq q := List.forall_mem_cons.mpr ⟨lw_p80, List.forall_mem_cons.mpr ⟨lw_p81, List.forall_mem_cons.mpr ⟨lw_p82, List.forall_mem_cons.mpr ⟨lw_p83, fun _ h => absurd h List.not_mem_nil⟩⟩⟩⟩
def lw_privs : List (MethodName × Nat) := lw_privs_1 ++ (lw_privs_2 ++ (lw_privs_3 ++ (lw_privs_4 ++ (lw_privs_5 ++ (lw_privs_6)))))
def lw_tbl : List Cond := k2_sels lw_privs ++ tables_1
theorem lw_privs_ok : ∀ q ∈ lw_privs, lw_okq q := by
  show ∀ q ∈ lw_privs_1 ++ (lw_privs_2 ++ (lw_privs_3 ++ (lw_privs_4 ++ (lw_privs_5 ++ (lw_privs_6))))), lw_okq q
  exact List.forall_mem_append.mpr ⟨lw_r1, List.forall_mem_append.mpr ⟨lw_r2, List.forall_mem_append.mpr ⟨lw_r3, List.forall_mem_append.mpr ⟨lw_r4, List.forall_mem_append.mpr ⟨lw_r5, lw_r6⟩⟩⟩⟩⟩
/-! ===== BEGIN words of one list among another's, by their places ===== -/
theorem goodIn_r {big : List Cond} (ws : List Cond) (ps : List Nat) (hp : ws = ps.filterMap (fun i => big[i]?)) (h : ws.all goodWord = true) : GoodIn big ws := by
  intro w hw
  have h1 := List.all_eq_true.mp h w hw
  rw [hp] at hw
  obtain ⟨i, -, hi⟩ := List.mem_filterMap.mp hw
  have hm : w ∈ big := by first | exact List.mem_of_getElem? hi | exact List.getElem?_mem hi
  exact ⟨hm, good_of_word h1⟩
theorem goodIn_app {big a b : List Cond} (ha : GoodIn big a) (hb : GoodIn big b) : GoodIn big (a ++ b) := fun w h => (List.mem_append.mp h).elim (ha w) (hb w)
theorem goodIn_ca {big a b : List Cond} {c : Cond} (ha : GoodIn big (c :: a)) (hb : GoodIn big b) : GoodIn big (c :: (a ++ b)) := fun w h => (List.mem_cons.mp h).elim (fun e => ha w (List.mem_cons.mpr (Or.inl e))) (fun h => (List.mem_append.mp h).elim (fun h => ha w (List.mem_cons.mpr (Or.inr h))) (hb w))
theorem goodIn_sub {big ws : List Cond} (hm : ∀ w ∈ ws, w ∈ big) (h : ws.all goodWord = true) : GoodIn big ws := fun w hw => ⟨hm w hw, good_of_word (List.all_eq_true.mp h w hw)⟩
/-! ===== END ===== -/
def RX0 : String := "HouseInRoom$Kinds"
def TX0 : u_T := fun k => match k with
  | _ => ("", "", "", false)
def tyX0 : Nat → FieldType := fun k => match k with
  | _ => .int
abbrev wsX00 : List Cond := u_ws RX0 TX0 0
theorem nmX0 : ∀ a, a < 0 → ∀ b, b < 0 → a ≠ b → (TX0 a).2.1 ≠ (TX0 b).2.1 := by decide +kernel
theorem tyX0_ok : ∀ k, k < 0 → parseFieldDescriptor (TX0 k).2.2.1 = some (tyX0 k) := by decide +kernel
abbrev cX0_weightOf : ByteArray := prog_2_method_2_code
def yX0_weightOf : MethodName := ⟨RX0, "weightOf", "(III)I"⟩
abbrev cX0_isUnder : ByteArray := prog_2_method_3_code
def yX0_isUnder : MethodName := ⟨RX0, "isUnder", "(II)Z"⟩
abbrev cX0_kindAbove : ByteArray := prog_2_method_4_code
def yX0_kindAbove : MethodName := ⟨RX0, "kindAbove", "(I)I"⟩
def RX1 : String := "HouseInRoom$Search"
def TX1 : u_T := fun k => match k with
  | 0 => ("HouseInRoom$Search", "known", "[J", true)
  | 1 => ("HouseInRoom$Search", "edge", "[J", true)
  | 2 => ("HouseInRoom$Search", "next", "[J", true)
  | _ => ("HouseInRoom$Search", "fewest", "[I", true)
def tyX1 : Nat → FieldType := fun k => match k with
  | 0 => .array .long
  | 1 => .array .long
  | 2 => .array .long
  | _ => .array .int
abbrev wsX10 : List Cond := u_ws RX1 TX1 4
theorem nmX1 : ∀ a, a < 4 → ∀ b, b < 4 → a ≠ b → (TX1 a).2.1 ≠ (TX1 b).2.1 := by decide +kernel
theorem tyX1_ok : ∀ k, k < 4 → parseFieldDescriptor (TX1 k).2.2.1 = some (tyX1 k) := by decide +kernel
abbrev cX1_init : ByteArray := prog_3_method_1_code
def yX1_init : MethodName := ⟨RX1, "<init>", "()V"⟩
abbrev cX1_placesFrom : ByteArray := prog_3_method_2_code
def yX1_placesFrom : MethodName := ⟨RX1, "placesFrom", "(LHouseInRoom$World;I)J"⟩
abbrev cX1_stepsTo : ByteArray := prog_3_method_3_code
def yX1_stepsTo : MethodName := ⟨RX1, "stepsTo", "(LHouseInRoom$World;II)I"⟩
abbrev cX1_fewestFor : ByteArray := prog_3_method_4_code
def yX1_fewestFor : MethodName := ⟨RX1, "fewestFor", "(LHouseInRoom$World;III)I"⟩
abbrev cX1_roomsFor : ByteArray := prog_3_method_5_code
def yX1_roomsFor : MethodName := ⟨RX1, "roomsFor", "(LHouseInRoom$World;IIZ)I"⟩
abbrev cX1_explore : ByteArray := prog_3_method_6_code
def yX1_explore : MethodName := ⟨RX1, "explore", "(LHouseInRoom$World;IIIZ)V"⟩
abbrev cX1_settle : ByteArray := prog_3_method_7_code
def yX1_settle : MethodName := ⟨RX1, "settle", "(I)Z"⟩
abbrev cX1_spread : ByteArray := prog_3_method_8_code
def yX1_spread : MethodName := ⟨RX1, "spread", "(LHouseInRoom$World;IJZ)V"⟩
def RX2 : String := "HouseInRoom$Sheet"
def TX2 : u_T := fun k => match k with
  | 0 => ("HouseInRoom$Sheet", "bits", "I", false)
  | 1 => ("HouseInRoom$Sheet", "length", "I", false)
  | _ => ("HouseInRoom$Sheet", "numbers", "[I", true)
def tyX2 : Nat → FieldType := fun k => match k with
  | 0 => .int
  | 1 => .int
  | _ => .array .int
abbrev wsX20 : List Cond := u_ws RX2 TX2 3
theorem nmX2 : ∀ a, a < 3 → ∀ b, b < 3 → a ≠ b → (TX2 a).2.1 ≠ (TX2 b).2.1 := by decide +kernel
theorem tyX2_ok : ∀ k, k < 3 → parseFieldDescriptor (TX2 k).2.2.1 = some (tyX2 k) := by decide +kernel
abbrev cX2_init : ByteArray := prog_4_method_1_code
def yX2_init : MethodName := ⟨RX2, "<init>", "()V"⟩
abbrev cX2_isMissing : ByteArray := prog_4_method_2_code
def yX2_isMissing : MethodName := ⟨RX2, "isMissing", "()Z"⟩
abbrev cX2_renew : ByteArray := prog_4_method_3_code
def yX2_renew : MethodName := ⟨RX2, "renew", "(II)V"⟩
abbrev cX2_put : ByteArray := prog_4_method_4_code
def yX2_put : MethodName := ⟨RX2, "put", "(II)V"⟩
abbrev cX2_hasRow : ByteArray := prog_4_method_5_code
def yX2_hasRow : MethodName := ⟨RX2, "hasRow", "(II)Z"⟩
def RX3 : String := "HouseInRoom$Tape"
def TX3 : u_T := fun k => match k with
  | 0 => ("HouseInRoom$Tape", "bytes", "[I", true)
  | 1 => ("HouseInRoom$Tape", "length", "I", false)
  | 2 => ("HouseInRoom$Tape", "kinds", "[I", true)
  | 3 => ("HouseInRoom$Tape", "values", "[I", true)
  | 4 => ("HouseInRoom$Tape", "begins", "[I", true)
  | _ => ("HouseInRoom$Tape", "tokens", "I", false)
def tyX3 : Nat → FieldType := fun k => match k with
  | 0 => .array .int
  | 1 => .int
  | 2 => .array .int
  | 3 => .array .int
  | 4 => .array .int
  | _ => .int
abbrev wsX30 : List Cond := u_ws RX3 TX3 6
theorem nmX3 : ∀ a, a < 6 → ∀ b, b < 6 → a ≠ b → (TX3 a).2.1 ≠ (TX3 b).2.1 := by decide +kernel
theorem tyX3_ok : ∀ k, k < 6 → parseFieldDescriptor (TX3 k).2.2.1 = some (tyX3 k) := by decide +kernel
abbrev cX3_init : ByteArray := prog_5_method_1_code
def yX3_init : MethodName := ⟨RX3, "<init>", "()V"⟩
abbrev cX3_append : ByteArray := prog_5_method_2_code
def yX3_append : MethodName := ⟨RX3, "append", "(II)V"⟩
abbrev cX3_split : ByteArray := prog_5_method_3_code
def yX3_split : MethodName := ⟨RX3, "split", "()V"⟩
abbrev cX3_kindAt : ByteArray := prog_5_method_4_code
def yX3_kindAt : MethodName := ⟨RX3, "kindAt", "(I)I"⟩
abbrev cX3_beginAt : ByteArray := prog_5_method_5_code
def yX3_beginAt : MethodName := ⟨RX3, "beginAt", "(I)I"⟩
abbrev cX3_wordAt : ByteArray := prog_5_method_6_code
def yX3_wordAt : MethodName := ⟨RX3, "wordAt", "(I)I"⟩
abbrev cX3_numberAt : ByteArray := prog_5_method_7_code
def yX3_numberAt : MethodName := ⟨RX3, "numberAt", "(I)I"⟩
abbrev cX3_addToken : ByteArray := prog_5_method_8_code
def yX3_addToken : MethodName := ⟨RX3, "addToken", "(III)V"⟩
abbrev cX3_endOf : ByteArray := prog_5_method_9_code
def yX3_endOf : MethodName := ⟨RX3, "endOf", "(I)I"⟩
abbrev cX3_kindOf : ByteArray := prog_5_method_10_code
def yX3_kindOf : MethodName := ⟨RX3, "kindOf", "(I)I"⟩
abbrev cX3_valueOf : ByteArray := prog_5_method_11_code
def yX3_valueOf : MethodName := ⟨RX3, "valueOf", "(III)I"⟩
abbrev cX3_wordIn : ByteArray := prog_5_method_12_code
def yX3_wordIn : MethodName := ⟨RX3, "wordIn", "(II)I"⟩
abbrev cX3_isWordIn : ByteArray := prog_5_method_13_code
def yX3_isWordIn : MethodName := ⟨RX3, "isWordIn", "(Ljava/lang/String;II)Z"⟩
abbrev cX3_numberIn : ByteArray := prog_5_method_14_code
def yX3_numberIn : MethodName := ⟨RX3, "numberIn", "(II)I"⟩
def RX4 : String := "HouseInRoom$TextReader"
def TX4 : u_T := fun k => match k with
  | 0 => ("HouseInRoom$TextReader", "items", "[I", true)
  | 1 => ("HouseInRoom$TextReader", "count", "I", false)
  | 2 => ("HouseInRoom$TextReader", "tape", "LHouseInRoom$Tape;", true)
  | 3 => ("HouseInRoom$TextReader", "at", "I", false)
  | 4 => ("HouseInRoom$TextReader", "things", "I", false)
  | 5 => ("HouseInRoom$TextReader", "people", "I", false)
  | _ => ("HouseInRoom$TextReader", "wrong", "I", false)
def tyX4 : Nat → FieldType := fun k => match k with
  | 0 => .array .int
  | 1 => .int
  | 2 => .object "HouseInRoom$Tape"
  | 3 => .int
  | 4 => .int
  | 5 => .int
  | _ => .int
abbrev wsX40 : List Cond := u_ws RX4 TX4 7
theorem nmX4 : ∀ a, a < 7 → ∀ b, b < 7 → a ≠ b → (TX4 a).2.1 ≠ (TX4 b).2.1 := by decide +kernel
theorem tyX4_ok : ∀ k, k < 7 → parseFieldDescriptor (TX4 k).2.2.1 = some (tyX4 k) := by decide +kernel
abbrev cX4_init : ByteArray := prog_6_method_1_code
def yX4_init : MethodName := ⟨RX4, "<init>", "(LHouseInRoom$Tape;)V"⟩
abbrev cX4_parse : ByteArray := prog_6_method_2_code
def yX4_parse : MethodName := ⟨RX4, "parse", "(II)I"⟩
abbrev cX4_parseItem : ByteArray := prog_6_method_3_code
def yX4_parseItem : MethodName := ⟨RX4, "parseItem", "()V"⟩
abbrev cX4_parseThing : ByteArray := prog_6_method_4_code
def yX4_parseThing : MethodName := ⟨RX4, "parseThing", "(I)V"⟩
abbrev cX4_parseOne : ByteArray := prog_6_method_5_code
def yX4_parseOne : MethodName := ⟨RX4, "parseOne", "()V"⟩
abbrev cX4_parseDoor : ByteArray := prog_6_method_6_code
def yX4_parseDoor : MethodName := ⟨RX4, "parseDoor", "(I)V"⟩
abbrev cX4_parseRule : ByteArray := prog_6_method_7_code
def yX4_parseRule : MethodName := ⟨RX4, "parseRule", "(II)V"⟩
abbrev cX4_takePerhaps : ByteArray := prog_6_method_8_code
def yX4_takePerhaps : MethodName := ⟨RX4, "takePerhaps", "(IIII)I"⟩
abbrev cX4_takeNumber : ByteArray := prog_6_method_9_code
def yX4_takeNumber : MethodName := ⟨RX4, "takeNumber", "(III)I"⟩
abbrev cX4_takeSign : ByteArray := prog_6_method_10_code
def yX4_takeSign : MethodName := ⟨RX4, "takeSign", "()V"⟩
abbrev cX4_refuse : ByteArray := prog_6_method_11_code
def yX4_refuse : MethodName := ⟨RX4, "refuse", "()V"⟩
abbrev cX4_addItem : ByteArray := prog_6_method_12_code
def yX4_addItem : MethodName := ⟨RX4, "addItem", "(IIII)V"⟩
def RX5 : String := "HouseInRoom$Words"
def TX5 : u_T := fun k => match k with
  | _ => ("", "", "", false)
def tyX5 : Nat → FieldType := fun k => match k with
  | _ => .int
abbrev wsX50 : List Cond := u_ws RX5 TX5 0
theorem nmX5 : ∀ a, a < 0 → ∀ b, b < 0 → a ≠ b → (TX5 a).2.1 ≠ (TX5 b).2.1 := by decide +kernel
theorem tyX5_ok : ∀ k, k < 0 → parseFieldDescriptor (TX5 k).2.2.1 = some (tyX5 k) := by decide +kernel
abbrev cX5_nameOf : ByteArray := prog_7_method_2_code
def yX5_nameOf : MethodName := ⟨RX5, "nameOf", "(I)Ljava/lang/String;"⟩
def RX6 : String := "HouseInRoom$World"
def TX6 : u_T := fun k => match k with
  | 0 => ("HouseInRoom$World", "doors", "[I", true)
  | 1 => ("HouseInRoom$World", "small", "I", false)
  | 2 => ("HouseInRoom$World", "gate", "I", false)
  | 3 => ("HouseInRoom$World", "slip", "I", false)
  | 4 => ("HouseInRoom$World", "things", "I", false)
  | 5 => ("HouseInRoom$World", "kinds", "[I", true)
  | 6 => ("HouseInRoom$World", "rooms", "[I", true)
  | 7 => ("HouseInRoom$World", "bulks", "[I", true)
  | 8 => ("HouseInRoom$World", "people", "I", false)
  | 9 => ("HouseInRoom$World", "places", "[I", true)
  | 10 => ("HouseInRoom$World", "strengths", "[I", true)
  | 11 => ("HouseInRoom$World", "moves", "I", false)
  | 12 => ("HouseInRoom$World", "met", "I", false)
  | 13 => ("HouseInRoom$World", "booked", "I", false)
  | 14 => ("HouseInRoom$World", "books", "[I", true)
  | 15 => ("HouseInRoom$World", "day", "I", false)
  | 16 => ("HouseInRoom$World", "z", "I", false)
  | _ => ("HouseInRoom$World", "spots", "[I", true)
def tyX6 : Nat → FieldType := fun k => match k with
  | 0 => .array .int
  | 1 => .int
  | 2 => .int
  | 3 => .int
  | 4 => .int
  | 5 => .array .int
  | 6 => .array .int
  | 7 => .array .int
  | 8 => .int
  | 9 => .array .int
  | 10 => .array .int
  | 11 => .int
  | 12 => .int
  | 13 => .int
  | 14 => .array .int
  | 15 => .int
  | 16 => .int
  | _ => .array .int
abbrev wsX60 : List Cond := u_ws RX6 TX6 18
theorem nmX6 : ∀ a, a < 18 → ∀ b, b < 18 → a ≠ b → (TX6 a).2.1 ≠ (TX6 b).2.1 := by decide +kernel
theorem tyX6_ok : ∀ k, k < 18 → parseFieldDescriptor (TX6 k).2.2.1 = some (tyX6 k) := by decide +kernel
abbrev cX6_init : ByteArray := prog_8_method_1_code
def yX6_init : MethodName := ⟨RX6, "<init>", "()V"⟩
abbrev cX6_become : ByteArray := prog_8_method_2_code
def yX6_become : MethodName := ⟨RX6, "become", "(LHouseInRoom$World;)V"⟩
abbrev cX6_isOpen : ByteArray := prog_8_method_3_code
def yX6_isOpen : MethodName := ⟨RX6, "isOpen", "(II)Z"⟩
abbrev cX6_setDoor : ByteArray := prog_8_method_4_code
def yX6_setDoor : MethodName := ⟨RX6, "setDoor", "(IIZ)V"⟩
abbrev cX6_setRule : ByteArray := prog_8_method_5_code
def yX6_setRule : MethodName := ⟨RX6, "setRule", "(II)I"⟩
abbrev cX6_addThing : ByteArray := prog_8_method_6_code
def yX6_addThing : MethodName := ⟨RX6, "addThing", "(III)I"⟩
abbrev cX6_partOf : ByteArray := prog_8_method_7_code
def yX6_partOf : MethodName := ⟨RX6, "partOf", "(II)I"⟩
abbrev cX6_setPart : ByteArray := prog_8_method_8_code
def yX6_setPart : MethodName := ⟨RX6, "setPart", "(III)V"⟩
abbrev cX6_weightIn : ByteArray := prog_8_method_9_code
def yX6_weightIn : MethodName := ⟨RX6, "weightIn", "(II)I"⟩
abbrev cX6_weighsSomewhere : ByteArray := prog_8_method_10_code
def yX6_weighsSomewhere : MethodName := ⟨RX6, "weighsSomewhere", "(II)Z"⟩
abbrev cX6_thingsIn : ByteArray := prog_8_method_11_code
def yX6_thingsIn : MethodName := ⟨RX6, "thingsIn", "(I)I"⟩
abbrev cX6_addOne : ByteArray := prog_8_method_12_code
def yX6_addOne : MethodName := ⟨RX6, "addOne", "(II)I"⟩
abbrev cX6_traitOf : ByteArray := prog_8_method_13_code
def yX6_traitOf : MethodName := ⟨RX6, "traitOf", "(II)I"⟩
abbrev cX6_setTrait : ByteArray := prog_8_method_14_code
def yX6_setTrait : MethodName := ⟨RX6, "setTrait", "(III)V"⟩
abbrev cX6_roomOf : ByteArray := prog_8_method_15_code
def yX6_roomOf : MethodName := ⟨RX6, "roomOf", "(I)I"⟩
abbrev cX6_levelOf : ByteArray := prog_8_method_16_code
def yX6_levelOf : MethodName := ⟨RX6, "levelOf", "(I)I"⟩
abbrev cX6_moveTo : ByteArray := prog_8_method_17_code
def yX6_moveTo : MethodName := ⟨RX6, "moveTo", "(II)V"⟩
abbrev cX6_placeInside : ByteArray := prog_8_method_18_code
def yX6_placeInside : MethodName := ⟨RX6, "placeInside", "(I)I"⟩
abbrev cX6_placeOutside : ByteArray := prog_8_method_19_code
def yX6_placeOutside : MethodName := ⟨RX6, "placeOutside", "(I)I"⟩
abbrev cX6_nextPlaces : ByteArray := prog_8_method_20_code
def yX6_nextPlaces : MethodName := ⟨RX6, "nextPlaces", "(J)J"⟩
abbrev cX6_lightLevels : ByteArray := prog_8_method_21_code
def yX6_lightLevels : MethodName := ⟨RX6, "lightLevels", "(II)J"⟩
abbrev cX6_canCarry : ByteArray := prog_8_method_22_code
def yX6_canCarry : MethodName := ⟨RX6, "canCarry", "(II)Z"⟩
abbrev cX6_canReach : ByteArray := prog_8_method_23_code
def yX6_canReach : MethodName := ⟨RX6, "canReach", "(II)Z"⟩
abbrev cX6_canLift : ByteArray := prog_8_method_24_code
def yX6_canLift : MethodName := ⟨RX6, "canLift", "(II)Z"⟩
abbrev cX6_carryOver : ByteArray := prog_8_method_25_code
def yX6_carryOver : MethodName := ⟨RX6, "carryOver", "(III)I"⟩
abbrev cX6_reachOver : ByteArray := prog_8_method_26_code
def yX6_reachOver : MethodName := ⟨RX6, "reachOver", "(III)I"⟩
abbrev cX6_standingIn : ByteArray := prog_8_method_27_code
def yX6_standingIn : MethodName := ⟨RX6, "standingIn", "(I)I"⟩
abbrev cX6_enter : ByteArray := prog_8_method_28_code
def yX6_enter : MethodName := ⟨RX6, "enter", "(IIIII)V"⟩
abbrev cX6_roomsHitBy : ByteArray := prog_8_method_29_code
def yX6_roomsHitBy : MethodName := ⟨RX6, "roomsHitBy", "(II)I"⟩
abbrev cX6_passDays : ByteArray := prog_8_method_30_code
def yX6_passDays : MethodName := ⟨RX6, "passDays", "(I)I"⟩
abbrev cX6_actByDraws : ByteArray := prog_8_method_31_code
def yX6_actByDraws : MethodName := ⟨RX6, "actByDraws", "(I)V"⟩
abbrev cX6_draw : ByteArray := prog_8_method_32_code
def yX6_draw : MethodName := ⟨RX6, "draw", "()I"⟩
abbrev cX6_fullSpots : ByteArray := prog_8_method_33_code
def yX6_fullSpots : MethodName := ⟨RX6, "fullSpots", "()I"⟩
def RX7 : String := "HouseInRoom"
def TX7 : u_T := fun k => match k with
  | 0 => ("HouseInRoom", "world", "LHouseInRoom$World;", true)
  | 1 => ("HouseInRoom", "kept", "LHouseInRoom$World;", true)
  | 2 => ("HouseInRoom", "trial", "LHouseInRoom$World;", true)
  | 3 => ("HouseInRoom", "keeps", "Z", false)
  | 4 => ("HouseInRoom", "search", "LHouseInRoom$Search;", true)
  | 5 => ("HouseInRoom", "tape", "LHouseInRoom$Tape;", true)
  | 6 => ("HouseInRoom", "reader", "LHouseInRoom$TextReader;", true)
  | 7 => ("HouseInRoom", "sheets", "[LHouseInRoom$Sheet;", true)
  | _ => ("HouseInRoom", "tallies", "[I", true)
def tyX7 : Nat → FieldType := fun k => match k with
  | 0 => .object "HouseInRoom$World"
  | 1 => .object "HouseInRoom$World"
  | 2 => .object "HouseInRoom$World"
  | 3 => .boolean
  | 4 => .object "HouseInRoom$Search"
  | 5 => .object "HouseInRoom$Tape"
  | 6 => .object "HouseInRoom$TextReader"
  | 7 => .array (.object "HouseInRoom$Sheet")
  | _ => .array .int
abbrev wsX70 : List Cond := u_ws RX7 TX7 9
theorem nmX7 : ∀ a, a < 9 → ∀ b, b < 9 → a ≠ b → (TX7 a).2.1 ≠ (TX7 b).2.1 := by decide +kernel
theorem tyX7_ok : ∀ k, k < 9 → parseFieldDescriptor (TX7 k).2.2.1 = some (tyX7 k) := by decide +kernel
abbrev cX7_init : ByteArray := prog_1_method_1_code
def yX7_init : MethodName := ⟨RX7, "<init>", "()V"⟩
abbrev cX7_door : ByteArray := prog_1_method_2_code
def yX7_door : MethodName := ⟨RX7, "door", "(III)I"⟩
abbrev cX7_rule : ByteArray := prog_1_method_3_code
def yX7_rule : MethodName := ⟨RX7, "rule", "(II)I"⟩
abbrev cX7_thing : ByteArray := prog_1_method_4_code
def yX7_thing : MethodName := ⟨RX7, "thing", "(II)I"⟩
abbrev cX7_of : ByteArray := prog_1_method_5_code
def yX7_of : MethodName := ⟨RX7, "of", "(II)I"⟩
abbrev cX7_change : ByteArray := prog_1_method_6_code
def yX7_change : MethodName := ⟨RX7, "change", "(III)I"⟩
abbrev cX7_one : ByteArray := prog_1_method_7_code
def yX7_one : MethodName := ⟨RX7, "one", "(I)I"⟩
abbrev cX7_person : ByteArray := prog_1_method_8_code
def yX7_person : MethodName := ⟨RX7, "person", "(III)I"⟩
abbrev cX7_tell : ByteArray := prog_1_method_9_code
def yX7_tell : MethodName := ⟨RX7, "tell", "(II)I"⟩
abbrev cX7_lie : ByteArray := prog_1_method_10_code
def yX7_lie : MethodName := ⟨RX7, "lie", "(I)I"⟩
abbrev cX7_walk : ByteArray := prog_1_method_11_code
def yX7_walk : MethodName := ⟨RX7, "walk", "(II)I"⟩
abbrev cX7_in : ByteArray := prog_1_method_12_code
def yX7_in : MethodName := ⟨RX7, "in", "(I)I"⟩
abbrev cX7_out : ByteArray := prog_1_method_13_code
def yX7_out : MethodName := ⟨RX7, "out", "(I)I"⟩
abbrev cX7_carry : ByteArray := prog_1_method_14_code
def yX7_carry : MethodName := ⟨RX7, "carry", "(III)I"⟩
abbrev cX7_reach : ByteArray := prog_1_method_15_code
def yX7_reach : MethodName := ⟨RX7, "reach", "(III)I"⟩
abbrev cX7_lift : ByteArray := prog_1_method_16_code
def yX7_lift : MethodName := ⟨RX7, "lift", "(III)I"⟩
abbrev cX7_now : ByteArray := prog_1_method_17_code
def yX7_now : MethodName := ⟨RX7, "now", "(I)I"⟩
abbrev cX7_book : ByteArray := prog_1_method_18_code
def yX7_book : MethodName := ⟨RX7, "book", "(II)I"⟩
abbrev cX7_ways : ByteArray := prog_1_method_19_code
def yX7_ways : MethodName := ⟨RX7, "ways", "(I)J"⟩
abbrev cX7_far : ByteArray := prog_1_method_20_code
def yX7_far : MethodName := ⟨RX7, "far", "(II)I"⟩
abbrev cX7_task : ByteArray := prog_1_method_21_code
def yX7_task : MethodName := ⟨RX7, "task", "(III)I"⟩
abbrev cX7_who : ByteArray := prog_1_method_22_code
def yX7_who : MethodName := ⟨RX7, "who", "(II)I"⟩
abbrev cX7_can : ByteArray := prog_1_method_23_code
def yX7_can : MethodName := ⟨RX7, "can", "(II)I"⟩
abbrev cX7_above : ByteArray := prog_1_method_24_code
def yX7_above : MethodName := ⟨RX7, "above", "(II)I"⟩
abbrev cX7_strong : ByteArray := prog_1_method_25_code
def yX7_strong : MethodName := ⟨RX7, "strong", "(III)I"⟩
abbrev cX7_kindFor : ByteArray := prog_1_method_26_code
def yX7_kindFor : MethodName := ⟨RX7, "kindFor", "(III)I"⟩
abbrev cX7_place : ByteArray := prog_1_method_27_code
def yX7_place : MethodName := ⟨RX7, "place", "(III)I"⟩
abbrev cX7_safe : ByteArray := prog_1_method_28_code
def yX7_safe : MethodName := ⟨RX7, "safe", "()I"⟩
abbrev cX7_selves : ByteArray := prog_1_method_29_code
def yX7_selves : MethodName := ⟨RX7, "selves", "()I"⟩
abbrev cX7_agree : ByteArray := prog_1_method_30_code
def yX7_agree : MethodName := ⟨RX7, "agree", "(IIII)I"⟩
abbrev cX7_opens : ByteArray := prog_1_method_31_code
def yX7_opens : MethodName := ⟨RX7, "opens", "(III)I"⟩
abbrev cX7_copies : ByteArray := prog_1_method_32_code
def yX7_copies : MethodName := ⟨RX7, "copies", "(II)J"⟩
abbrev cX7_all : ByteArray := prog_1_method_33_code
def yX7_all : MethodName := ⟨RX7, "all", "(II)J"⟩
abbrev cX7_weight : ByteArray := prog_1_method_34_code
def yX7_weight : MethodName := ⟨RX7, "weight", "(III)J"⟩
abbrev cX7_deep : ByteArray := prog_1_method_35_code
def yX7_deep : MethodName := ⟨RX7, "deep", "(II)I"⟩
abbrev cX7_days : ByteArray := prog_1_method_36_code
def yX7_days : MethodName := ⟨RX7, "days", "(I)I"⟩
abbrev cX7_ahead : ByteArray := prog_1_method_37_code
def yX7_ahead : MethodName := ⟨RX7, "ahead", "(II)I"⟩
abbrev cX7_when : ByteArray := prog_1_method_38_code
def yX7_when : MethodName := ⟨RX7, "when", "(II)I"⟩
abbrev cX7_seed : ByteArray := prog_1_method_39_code
def yX7_seed : MethodName := ⟨RX7, "seed", "(I)I"⟩
abbrev cX7_feed : ByteArray := prog_1_method_40_code
def yX7_feed : MethodName := ⟨RX7, "feed", "(II)I"⟩
abbrev cX7_wipe : ByteArray := prog_1_method_41_code
def yX7_wipe : MethodName := ⟨RX7, "wipe", "()I"⟩
abbrev cX7_text : ByteArray := prog_1_method_42_code
def yX7_text : MethodName := ⟨RX7, "text", "()I"⟩
abbrev cX7_hold : ByteArray := prog_1_method_43_code
def yX7_hold : MethodName := ⟨RX7, "hold", "(II)I"⟩
abbrev cX7_as : ByteArray := prog_1_method_44_code
def yX7_as : MethodName := ⟨RX7, "as", "(II)I"⟩
abbrev cX7_sheet : ByteArray := prog_1_method_45_code
def yX7_sheet : MethodName := ⟨RX7, "sheet", "(III)I"⟩
abbrev cX7_write : ByteArray := prog_1_method_46_code
def yX7_write : MethodName := ⟨RX7, "write", "(III)I"⟩
abbrev cX7_copy : ByteArray := prog_1_method_47_code
def yX7_copy : MethodName := ⟨RX7, "copy", "(IIIII)I"⟩
abbrev cX7_load : ByteArray := prog_1_method_48_code
def yX7_load : MethodName := ⟨RX7, "load", "(I)I"⟩
abbrev cX7_judge : ByteArray := prog_1_method_49_code
def yX7_judge : MethodName := ⟨RX7, "judge", "(II)I"⟩
abbrev cX7_image : ByteArray := prog_1_method_50_code
def yX7_image : MethodName := ⟨RX7, "image", "()I"⟩
abbrev cX7_undo : ByteArray := prog_1_method_51_code
def yX7_undo : MethodName := ⟨RX7, "undo", "()I"⟩
abbrev cX7_tear : ByteArray := prog_1_method_52_code
def yX7_tear : MethodName := ⟨RX7, "tear", "()I"⟩
abbrev cX7_count : ByteArray := prog_1_method_53_code
def yX7_count : MethodName := ⟨RX7, "count", "(I)I"⟩
abbrev cX7_status : ByteArray := prog_1_method_54_code
def yX7_status : MethodName := ⟨RX7, "status", "(I)I"⟩
abbrev cX7_finding : ByteArray := prog_1_method_55_code
def yX7_finding : MethodName := ⟨RX7, "finding", "(I)I"⟩
abbrev cX7_foundOrNone : ByteArray := prog_1_method_56_code
def yX7_foundOrNone : MethodName := ⟨RX7, "foundOrNone", "(I)I"⟩
abbrev cX7_isFewer : ByteArray := prog_1_method_57_code
def yX7_isFewer : MethodName := ⟨RX7, "isFewer", "(II)Z"⟩
abbrev cX7_isWithin : ByteArray := prog_1_method_58_code
def yX7_isWithin : MethodName := ⟨RX7, "isWithin", "(III)Z"⟩
abbrev cX7_isRoom : ByteArray := prog_1_method_59_code
def yX7_isRoom : MethodName := ⟨RX7, "isRoom", "(I)Z"⟩
abbrev cX7_isPlace : ByteArray := prog_1_method_60_code
def yX7_isPlace : MethodName := ⟨RX7, "isPlace", "(I)Z"⟩
abbrev cX7_isKind : ByteArray := prog_1_method_61_code
def yX7_isKind : MethodName := ⟨RX7, "isKind", "(I)Z"⟩
abbrev cX7_isSheet : ByteArray := prog_1_method_62_code
def yX7_isSheet : MethodName := ⟨RX7, "isSheet", "(I)Z"⟩
abbrev cX7_isThing : ByteArray := prog_1_method_63_code
def yX7_isThing : MethodName := ⟨RX7, "isThing", "(I)Z"⟩
abbrev cX7_isOne : ByteArray := prog_1_method_64_code
def yX7_isOne : MethodName := ⟨RX7, "isOne", "(I)Z"⟩
abbrev cX7_isTask : ByteArray := prog_1_method_65_code
def yX7_isTask : MethodName := ⟨RX7, "isTask", "(III)Z"⟩
abbrev cX7_isRoomAndThing : ByteArray := prog_1_method_66_code
def yX7_isRoomAndThing : MethodName := ⟨RX7, "isRoomAndThing", "(I)Z"⟩
abbrev cX7_canBePart : ByteArray := prog_1_method_67_code
def yX7_canBePart : MethodName := ⟨RX7, "canBePart", "(II)Z"⟩
abbrev cX7_goTo : ByteArray := prog_1_method_68_code
def yX7_goTo : MethodName := ⟨RX7, "goTo", "(II)I"⟩
abbrev cX7_stepsWithDoor : ByteArray := prog_1_method_69_code
def yX7_stepsWithDoor : MethodName := ⟨RX7, "stepsWithDoor", "(IIIII)I"⟩
abbrev cX7_makeSo : ByteArray := prog_1_method_70_code
def yX7_makeSo : MethodName := ⟨RX7, "makeSo", "(I)V"⟩
def RX8 : String := "HouseInRoomModel"
def TX8 : u_T := fun k => match k with
  | 0 => ("HouseInRoomModel", "s", "[I", true)
  | 1 => ("HouseInRoomModel", "kept", "[I", true)
  | 2 => ("HouseInRoomModel", "aside", "[I", true)
  | 3 => ("HouseInRoomModel", "isKept", "Z", false)
  | 4 => ("HouseInRoomModel", "tape", "[I", true)
  | 5 => ("HouseInRoomModel", "taped", "I", false)
  | 6 => ("HouseInRoomModel", "found", "[I", true)
  | 7 => ("HouseInRoomModel", "steps", "[I", true)
  | 8 => ("HouseInRoomModel", "queue", "[I", true)
  | 9 => ("HouseInRoomModel", "queued", "I", false)
  | 10 => ("HouseInRoomModel", "done", "I", false)
  | 11 => ("HouseInRoomModel", "best", "I", false)
  | 12 => ("HouseInRoomModel", "fewest", "I", false)
  | 13 => ("HouseInRoomModel", "from", "I", false)
  | 14 => ("HouseInRoomModel", "to", "I", false)
  | 15 => ("HouseInRoomModel", "isWrong", "Z", false)
  | 16 => ("HouseInRoomModel", "bitsOf", "[I", true)
  | 17 => ("HouseInRoomModel", "sizeOf", "[I", true)
  | 18 => ("HouseInRoomModel", "number", "[I", true)
  | _ => ("HouseInRoomModel", "moved", "[I", true)
def tyX8 : Nat → FieldType := fun k => match k with
  | 0 => .array .int
  | 1 => .array .int
  | 2 => .array .int
  | 3 => .boolean
  | 4 => .array .int
  | 5 => .int
  | 6 => .array .int
  | 7 => .array .int
  | 8 => .array .int
  | 9 => .int
  | 10 => .int
  | 11 => .int
  | 12 => .int
  | 13 => .int
  | 14 => .int
  | 15 => .boolean
  | 16 => .array .int
  | 17 => .array .int
  | 18 => .array .int
  | _ => .array .int
abbrev wsX80 : List Cond := u_ws RX8 TX8 20
theorem nmX8 : ∀ a, a < 20 → ∀ b, b < 20 → a ≠ b → (TX8 a).2.1 ≠ (TX8 b).2.1 := by decide +kernel
theorem tyX8_ok : ∀ k, k < 20 → parseFieldDescriptor (TX8 k).2.2.1 = some (tyX8 k) := by decide +kernel
abbrev cX8_init : ByteArray := prog_10_method_1_code
def yX8_init : MethodName := ⟨RX8, "<init>", "()V"⟩
abbrev cX8_become : ByteArray := prog_10_method_2_code
def yX8_become : MethodName := ⟨RX8, "become", "([I[I)V"⟩
abbrev cX8_lends : ByteArray := prog_10_method_3_code
def yX8_lends : MethodName := ⟨RX8, "lends", "()V"⟩
abbrev cX8_laysBack : ByteArray := prog_10_method_4_code
def yX8_laysBack : MethodName := ⟨RX8, "laysBack", "()V"⟩
abbrev cX8_finding : ByteArray := prog_10_method_5_code
def yX8_finding : MethodName := ⟨RX8, "finding", "(I)I"⟩
abbrev cX8_within : ByteArray := prog_10_method_6_code
def yX8_within : MethodName := ⟨RX8, "within", "(JJJ)Z"⟩
abbrev cX8_isRoom : ByteArray := prog_10_method_7_code
def yX8_isRoom : MethodName := ⟨RX8, "isRoom", "(I)Z"⟩
abbrev cX8_isThing : ByteArray := prog_10_method_8_code
def yX8_isThing : MethodName := ⟨RX8, "isThing", "(I)Z"⟩
abbrev cX8_isOne : ByteArray := prog_10_method_9_code
def yX8_isOne : MethodName := ⟨RX8, "isOne", "(I)Z"⟩
abbrev cX8_isKind : ByteArray := prog_10_method_10_code
def yX8_isKind : MethodName := ⟨RX8, "isKind", "(I)Z"⟩
abbrev cX8_isPlace : ByteArray := prog_10_method_11_code
def yX8_isPlace : MethodName := ⟨RX8, "isPlace", "(I)Z"⟩
abbrev cX8_isOpen : ByteArray := prog_10_method_12_code
def yX8_isOpen : MethodName := ⟨RX8, "isOpen", "(II)Z"⟩
abbrev cX8_opensDoor : ByteArray := prog_10_method_13_code
def yX8_opensDoor : MethodName := ⟨RX8, "opensDoor", "(IIZ)V"⟩
abbrev cX8_above : ByteArray := prog_10_method_14_code
def yX8_above : MethodName := ⟨RX8, "above", "(I)I"⟩
abbrev cX8_isUnder : ByteArray := prog_10_method_15_code
def yX8_isUnder : MethodName := ⟨RX8, "isUnder", "(II)Z"⟩
abbrev cX8_heft : ByteArray := prog_10_method_16_code
def yX8_heft : MethodName := ⟨RX8, "heft", "(III)I"⟩
abbrev cX8_weighs : ByteArray := prog_10_method_17_code
def yX8_weighs : MethodName := ⟨RX8, "weighs", "(II)I"⟩
abbrev cX8_roomOf : ByteArray := prog_10_method_18_code
def yX8_roomOf : MethodName := ⟨RX8, "roomOf", "(I)I"⟩
abbrev cX8_levelOf : ByteArray := prog_10_method_19_code
def yX8_levelOf : MethodName := ⟨RX8, "levelOf", "(I)I"⟩
abbrev cX8_door : ByteArray := prog_10_method_20_code
def yX8_door : MethodName := ⟨RX8, "door", "(III)I"⟩
abbrev cX8_rule : ByteArray := prog_10_method_21_code
def yX8_rule : MethodName := ⟨RX8, "rule", "(II)I"⟩
abbrev cX8_lays : ByteArray := prog_10_method_22_code
def yX8_lays : MethodName := ⟨RX8, "lays", "(III)V"⟩
abbrev cX8_thing : ByteArray := prog_10_method_23_code
def yX8_thing : MethodName := ⟨RX8, "thing", "(II)I"⟩
abbrev cX8_of : ByteArray := prog_10_method_24_code
def yX8_of : MethodName := ⟨RX8, "of", "(II)I"⟩
abbrev cX8_change : ByteArray := prog_10_method_25_code
def yX8_change : MethodName := ⟨RX8, "change", "(III)I"⟩
abbrev cX8_comes : ByteArray := prog_10_method_26_code
def yX8_comes : MethodName := ⟨RX8, "comes", "(II)V"⟩
abbrev cX8_one : ByteArray := prog_10_method_27_code
def yX8_one : MethodName := ⟨RX8, "one", "(I)I"⟩
abbrev cX8_person : ByteArray := prog_10_method_28_code
def yX8_person : MethodName := ⟨RX8, "person", "(III)I"⟩
abbrev cX8_tell : ByteArray := prog_10_method_29_code
def yX8_tell : MethodName := ⟨RX8, "tell", "(II)I"⟩
abbrev cX8_lie : ByteArray := prog_10_method_30_code
def yX8_lie : MethodName := ⟨RX8, "lie", "(I)I"⟩
abbrev cX8_canWalk : ByteArray := prog_10_method_31_code
def yX8_canWalk : MethodName := ⟨RX8, "canWalk", "(II)Z"⟩
abbrev cX8_goes : ByteArray := prog_10_method_32_code
def yX8_goes : MethodName := ⟨RX8, "goes", "(III)V"⟩
abbrev cX8_walk : ByteArray := prog_10_method_33_code
def yX8_walk : MethodName := ⟨RX8, "walk", "(II)I"⟩
abbrev cX8_isBefore : ByteArray := prog_10_method_34_code
def yX8_isBefore : MethodName := ⟨RX8, "isBefore", "(I)Z"⟩
abbrev cX8_in : ByteArray := prog_10_method_35_code
def yX8_in : MethodName := ⟨RX8, "in", "(I)I"⟩
abbrev cX8_out : ByteArray := prog_10_method_36_code
def yX8_out : MethodName := ⟨RX8, "out", "(I)I"⟩
abbrev cX8_canCarry : ByteArray := prog_10_method_37_code
def yX8_canCarry : MethodName := ⟨RX8, "canCarry", "(III)Z"⟩
abbrev cX8_canReach : ByteArray := prog_10_method_38_code
def yX8_canReach : MethodName := ⟨RX8, "canReach", "(III)Z"⟩
abbrev cX8_standing : ByteArray := prog_10_method_39_code
def yX8_standing : MethodName := ⟨RX8, "standing", "(II)I"⟩
abbrev cX8_brings : ByteArray := prog_10_method_40_code
def yX8_brings : MethodName := ⟨RX8, "brings", "(IIII)I"⟩
abbrev cX8_carry : ByteArray := prog_10_method_41_code
def yX8_carry : MethodName := ⟨RX8, "carry", "(III)I"⟩
abbrev cX8_reach : ByteArray := prog_10_method_42_code
def yX8_reach : MethodName := ⟨RX8, "reach", "(III)I"⟩
abbrev cX8_lift : ByteArray := prog_10_method_43_code
def yX8_lift : MethodName := ⟨RX8, "lift", "(III)I"⟩
abbrev cX8_now : ByteArray := prog_10_method_44_code
def yX8_now : MethodName := ⟨RX8, "now", "(I)I"⟩
abbrev cX8_book : ByteArray := prog_10_method_45_code
def yX8_book : MethodName := ⟨RX8, "book", "(II)I"⟩
abbrev cX8_finds : ByteArray := prog_10_method_46_code
def yX8_finds : MethodName := ⟨RX8, "finds", "(III)V"⟩
abbrev cX8_stepsFrom : ByteArray := prog_10_method_47_code
def yX8_stepsFrom : MethodName := ⟨RX8, "stepsFrom", "(IIZIII)V"⟩
abbrev cX8_walksAll : ByteArray := prog_10_method_48_code
def yX8_walksAll : MethodName := ⟨RX8, "walksAll", "(IIZ)V"⟩
abbrev cX8_ways : ByteArray := prog_10_method_49_code
def yX8_ways : MethodName := ⟨RX8, "ways", "(I)J"⟩
abbrev cX8_orNone : ByteArray := prog_10_method_50_code
def yX8_orNone : MethodName := ⟨RX8, "orNone", "(I)I"⟩
abbrev cX8_far : ByteArray := prog_10_method_51_code
def yX8_far : MethodName := ⟨RX8, "far", "(II)I"⟩
abbrev cX8_leastFor : ByteArray := prog_10_method_52_code
def yX8_leastFor : MethodName := ⟨RX8, "leastFor", "(I)I"⟩
abbrev cX8_stepsOf : ByteArray := prog_10_method_53_code
def yX8_stepsOf : MethodName := ⟨RX8, "stepsOf", "(III)I"⟩
abbrev cX8_isTask : ByteArray := prog_10_method_54_code
def yX8_isTask : MethodName := ⟨RX8, "isTask", "(III)Z"⟩
abbrev cX8_task : ByteArray := prog_10_method_55_code
def yX8_task : MethodName := ⟨RX8, "task", "(III)I"⟩
abbrev cX8_begins : ByteArray := prog_10_method_56_code
def yX8_begins : MethodName := ⟨RX8, "begins", "()V"⟩
abbrev cX8_tries : ByteArray := prog_10_method_57_code
def yX8_tries : MethodName := ⟨RX8, "tries", "(II)V"⟩
abbrev cX8_who : ByteArray := prog_10_method_58_code
def yX8_who : MethodName := ⟨RX8, "who", "(II)I"⟩
abbrev cX8_roomsFor : ByteArray := prog_10_method_59_code
def yX8_roomsFor : MethodName := ⟨RX8, "roomsFor", "(IIZ)I"⟩
abbrev cX8_can : ByteArray := prog_10_method_60_code
def yX8_can : MethodName := ⟨RX8, "can", "(II)I"⟩
abbrev cX8_above_ : ByteArray := prog_10_method_61_code
def yX8_above_ : MethodName := ⟨RX8, "above", "(II)I"⟩
abbrev cX8_strong : ByteArray := prog_10_method_62_code
def yX8_strong : MethodName := ⟨RX8, "strong", "(III)I"⟩
abbrev cX8_kindFor : ByteArray := prog_10_method_63_code
def yX8_kindFor : MethodName := ⟨RX8, "kindFor", "(III)I"⟩
abbrev cX8_place : ByteArray := prog_10_method_64_code
def yX8_place : MethodName := ⟨RX8, "place", "(III)I"⟩
abbrev cX8_isSafe : ByteArray := prog_10_method_65_code
def yX8_isSafe : MethodName := ⟨RX8, "isSafe", "(I)Z"⟩
abbrev cX8_safe : ByteArray := prog_10_method_66_code
def yX8_safe : MethodName := ⟨RX8, "safe", "()I"⟩
abbrev cX8_selves : ByteArray := prog_10_method_67_code
def yX8_selves : MethodName := ⟨RX8, "selves", "()I"⟩
abbrev cX8_reaches : ByteArray := prog_10_method_68_code
def yX8_reaches : MethodName := ⟨RX8, "reaches", "(II)V"⟩
abbrev cX8_isReach : ByteArray := prog_10_method_69_code
def yX8_isReach : MethodName := ⟨RX8, "isReach", "(I)Z"⟩
abbrev cX8_agree : ByteArray := prog_10_method_70_code
def yX8_agree : MethodName := ⟨RX8, "agree", "(IIII)I"⟩
abbrev cX8_opens : ByteArray := prog_10_method_71_code
def yX8_opens : MethodName := ⟨RX8, "opens", "(III)I"⟩
abbrev cX8_power : ByteArray := prog_10_method_72_code
def yX8_power : MethodName := ⟨RX8, "power", "(II)J"⟩
abbrev cX8_isHouses : ByteArray := prog_10_method_73_code
def yX8_isHouses : MethodName := ⟨RX8, "isHouses", "(III)Z"⟩
abbrev cX8_copies : ByteArray := prog_10_method_74_code
def yX8_copies : MethodName := ⟨RX8, "copies", "(II)J"⟩
abbrev cX8_all : ByteArray := prog_10_method_75_code
def yX8_all : MethodName := ⟨RX8, "all", "(II)J"⟩
abbrev cX8_divisor : ByteArray := prog_10_method_76_code
def yX8_divisor : MethodName := ⟨RX8, "divisor", "(JJ)J"⟩
abbrev cX8_weight : ByteArray := prog_10_method_77_code
def yX8_weight : MethodName := ⟨RX8, "weight", "(III)J"⟩
abbrev cX8_deep : ByteArray := prog_10_method_78_code
def yX8_deep : MethodName := ⟨RX8, "deep", "(II)I"⟩
abbrev cX8_draw : ByteArray := prog_10_method_79_code
def yX8_draw : MethodName := ⟨RX8, "draw", "()I"⟩
abbrev cX8_dayOf : ByteArray := prog_10_method_80_code
def yX8_dayOf : MethodName := ⟨RX8, "dayOf", "(I)V"⟩
abbrev cX8_aDay : ByteArray := prog_10_method_81_code
def yX8_aDay : MethodName := ⟨RX8, "aDay", "()V"⟩
abbrev cX8_daysGo : ByteArray := prog_10_method_82_code
def yX8_daysGo : MethodName := ⟨RX8, "daysGo", "(I)I"⟩
abbrev cX8_days : ByteArray := prog_10_method_83_code
def yX8_days : MethodName := ⟨RX8, "days", "(I)I"⟩
abbrev cX8_ahead : ByteArray := prog_10_method_84_code
def yX8_ahead : MethodName := ⟨RX8, "ahead", "(II)I"⟩
abbrev cX8_when : ByteArray := prog_10_method_85_code
def yX8_when : MethodName := ⟨RX8, "when", "(II)I"⟩
abbrev cX8_seed : ByteArray := prog_10_method_86_code
def yX8_seed : MethodName := ⟨RX8, "seed", "(I)I"⟩
abbrev cX8_feed : ByteArray := prog_10_method_87_code
def yX8_feed : MethodName := ⟨RX8, "feed", "(II)I"⟩
abbrev cX8_wipe : ByteArray := prog_10_method_88_code
def yX8_wipe : MethodName := ⟨RX8, "wipe", "()I"⟩
abbrev cX8_isByte : ByteArray := prog_10_method_89_code
def yX8_isByte : MethodName := ⟨RX8, "isByte", "(III)Z"⟩
abbrev cX8_next : ByteArray := prog_10_method_90_code
def yX8_next : MethodName := ⟨RX8, "next", "()V"⟩
abbrev cX8_isWord : ByteArray := prog_10_method_91_code
def yX8_isWord : MethodName := ⟨RX8, "isWord", "(Ljava/lang/String;)Z"⟩
abbrev cX8_takes : ByteArray := prog_10_method_92_code
def yX8_takes : MethodName := ⟨RX8, "takes", "(Ljava/lang/String;)Z"⟩
abbrev cX8_numberHere : ByteArray := prog_10_method_94_code
def yX8_numberHere : MethodName := ⟨RX8, "numberHere", "()I"⟩
abbrev cX8_number : ByteArray := prog_10_method_95_code
def yX8_number : MethodName := ⟨RX8, "number", "(I)I"⟩
abbrev cX8_wordOf : ByteArray := prog_10_method_96_code
def yX8_wordOf : MethodName := ⟨RX8, "wordOf", "(I)Ljava/lang/String;"⟩
abbrev cX8_kindHere : ByteArray := prog_10_method_97_code
def yX8_kindHere : MethodName := ⟨RX8, "kindHere", "()I"⟩
abbrev cX8_perhaps : ByteArray := prog_10_method_98_code
def yX8_perhaps : MethodName := ⟨RX8, "perhaps", "(Ljava/lang/String;III)I"⟩
abbrev cX8_thingTold : ByteArray := prog_10_method_99_code
def yX8_thingTold : MethodName := ⟨RX8, "thingTold", "(I)V"⟩
abbrev cX8_oneTold : ByteArray := prog_10_method_100_code
def yX8_oneTold : MethodName := ⟨RX8, "oneTold", "()V"⟩
abbrev cX8_doorTold : ByteArray := prog_10_method_101_code
def yX8_doorTold : MethodName := ⟨RX8, "doorTold", "(Z)V"⟩
abbrev cX8_ruleTold : ByteArray := prog_10_method_102_code
def yX8_ruleTold : MethodName := ⟨RX8, "ruleTold", "(II)V"⟩
abbrev cX8_item : ByteArray := prog_10_method_103_code
def yX8_item : MethodName := ⟨RX8, "item", "()V"⟩
abbrev cX8_text : ByteArray := prog_10_method_104_code
def yX8_text : MethodName := ⟨RX8, "text", "()I"⟩
abbrev cX8_hold : ByteArray := prog_10_method_105_code
def yX8_hold : MethodName := ⟨RX8, "hold", "(II)I"⟩
abbrev cX8_as : ByteArray := prog_10_method_106_code
def yX8_as : MethodName := ⟨RX8, "as", "(II)I"⟩
abbrev cX8_isSheet : ByteArray := prog_10_method_107_code
def yX8_isSheet : MethodName := ⟨RX8, "isSheet", "(I)Z"⟩
abbrev cX8_cut : ByteArray := prog_10_method_108_code
def yX8_cut : MethodName := ⟨RX8, "cut", "(II)I"⟩
abbrev cX8_sheet : ByteArray := prog_10_method_109_code
def yX8_sheet : MethodName := ⟨RX8, "sheet", "(III)I"⟩
abbrev cX8_lacksOf : ByteArray := prog_10_method_110_code
def yX8_lacksOf : MethodName := ⟨RX8, "lacksOf", "(I)I"⟩
abbrev cX8_write : ByteArray := prog_10_method_111_code
def yX8_write : MethodName := ⟨RX8, "write", "(III)I"⟩
abbrev cX8_copy : ByteArray := prog_10_method_112_code
def yX8_copy : MethodName := ⟨RX8, "copy", "(IIIII)I"⟩
abbrev cX8_load : ByteArray := prog_10_method_113_code
def yX8_load : MethodName := ⟨RX8, "load", "(I)I"⟩
abbrev cX8_isStep : ByteArray := prog_10_method_114_code
def yX8_isStep : MethodName := ⟨RX8, "isStep", "(II)Z"⟩
abbrev cX8_judge : ByteArray := prog_10_method_115_code
def yX8_judge : MethodName := ⟨RX8, "judge", "(II)I"⟩
abbrev cX8_image : ByteArray := prog_10_method_116_code
def yX8_image : MethodName := ⟨RX8, "image", "()I"⟩
abbrev cX8_undo : ByteArray := prog_10_method_117_code
def yX8_undo : MethodName := ⟨RX8, "undo", "()I"⟩
abbrev cX8_tear : ByteArray := prog_10_method_118_code
def yX8_tear : MethodName := ⟨RX8, "tear", "()I"⟩
abbrev cX8_holding : ByteArray := prog_10_method_119_code
def yX8_holding : MethodName := ⟨RX8, "holding", "()I"⟩
abbrev cX8_count : ByteArray := prog_10_method_120_code
def yX8_count : MethodName := ⟨RX8, "count", "(I)I"⟩
abbrev cX8_status : ByteArray := prog_10_method_121_code
def yX8_status : MethodName := ⟨RX8, "status", "(I)I"⟩
def RJx145de : String := "java/io/Serializable"
def TJx145de : u_T := fun k => match k with
  | _ => ("", "", "", false)
def tyJx145de : Nat → FieldType := fun k => match k with
  | _ => .int
theorem nmJx145de : ∀ a, a < 0 → ∀ b, b < 0 → a ≠ b → (TJx145de a).2.1 ≠ (TJx145de b).2.1 := by decide +kernel
theorem tyJx145de_ok : ∀ k, k < 0 → parseFieldDescriptor (TJx145de k).2.2.1 = some (tyJx145de k) := by decide +kernel
def RJx9f9b0 : String := "java/lang/CharSequence"
def TJx9f9b0 : u_T := fun k => match k with
  | _ => ("", "", "", false)
def tyJx9f9b0 : Nat → FieldType := fun k => match k with
  | _ => .int
theorem nmJx9f9b0 : ∀ a, a < 0 → ∀ b, b < 0 → a ≠ b → (TJx9f9b0 a).2.1 ≠ (TJx9f9b0 b).2.1 := by decide +kernel
theorem tyJx9f9b0_ok : ∀ k, k < 0 → parseFieldDescriptor (TJx9f9b0 k).2.2.1 = some (tyJx9f9b0 k) := by decide +kernel
def RJxb160c : String := "java/lang/Comparable"
def TJxb160c : u_T := fun k => match k with
  | _ => ("", "", "", false)
def tyJxb160c : Nat → FieldType := fun k => match k with
  | _ => .int
theorem nmJxb160c : ∀ a, a < 0 → ∀ b, b < 0 → a ≠ b → (TJxb160c a).2.1 ≠ (TJxb160c b).2.1 := by decide +kernel
theorem tyJxb160c_ok : ∀ k, k < 0 → parseFieldDescriptor (TJxb160c k).2.2.1 = some (tyJxb160c k) := by decide +kernel
def RJ9 : String := "java/lang/Math"
def TJ9 : u_T := fun k => match k with
  | _ => ("", "", "", false)
def tyJ9 : Nat → FieldType := fun k => match k with
  | _ => .int
theorem nmJ9 : ∀ a, a < 0 → ∀ b, b < 0 → a ≠ b → (TJ9 a).2.1 ≠ (TJ9 b).2.1 := by decide +kernel
theorem tyJ9_ok : ∀ k, k < 0 → parseFieldDescriptor (TJ9 k).2.2.1 = some (tyJ9 k) := by decide +kernel
abbrev cJ9_min_7cf53 : ByteArray := prog_11_method_69_code
def yJ9_min_7cf53 : MethodName := ⟨RJ9, "min", "(II)I"⟩
def RJ0 : String := "java/lang/String"
def TJ0 : u_T := fun k => match k with
  | _ => ("", "", "", false)
def tyJ0 : Nat → FieldType := fun k => match k with
  | _ => .int
theorem nmJ0 : ∀ a, a < 0 → ∀ b, b < 0 → a ≠ b → (TJ0 a).2.1 ≠ (TJ0 b).2.1 := by decide +kernel
theorem tyJ0_ok : ∀ k, k < 0 → parseFieldDescriptor (TJ0 k).2.2.1 = some (tyJ0 k) := by decide +kernel
abbrev cJ0_length_8abf5 : ByteArray := prog_12_method_54_code
def yJ0_length_8abf5 : MethodName := ⟨RJ0, "length", "()I"⟩
abbrev cJ0_charAt_5068e : ByteArray := prog_12_method_56_code
def yJ0_charAt_5068e : MethodName := ⟨RJ0, "charAt", "(I)C"⟩
abbrev cJ0_coder_7d493 : ByteArray := prog_12_method_152_code
def yJ0_coder_7d493 : MethodName := ⟨RJ0, "coder", "()B"⟩
abbrev cJ0_isLatin1_aae02 : ByteArray := prog_12_method_154_code
def yJ0_isLatin1_aae02 : MethodName := ⟨RJ0, "isLatin1", "()Z"⟩
abbrev cJ0_checkIndex_df160 : ByteArray := prog_12_method_155_code
def yJ0_checkIndex_df160 : MethodName := ⟨RJ0, "checkIndex", "(II)V"⟩
def RJ1 : String := "java/lang/StringLatin1"
def TJ1 : u_T := fun k => match k with
  | _ => ("", "", "", false)
def tyJ1 : Nat → FieldType := fun k => match k with
  | _ => .int
theorem nmJ1 : ∀ a, a < 0 → ∀ b, b < 0 → a ≠ b → (TJ1 a).2.1 ≠ (TJ1 b).2.1 := by decide +kernel
theorem tyJ1_ok : ∀ k, k < 0 → parseFieldDescriptor (TJ1 k).2.2.1 = some (tyJ1 k) := by decide +kernel
abbrev cJ1_charAt_3b067 : ByteArray := prog_13_method_2_code
def yJ1_charAt_3b067 : MethodName := ⟨RJ1, "charAt", "([BI)C"⟩
def RJ2 : String := "java/lang/StringUTF16"
def TJ2 : u_T := fun k => match k with
  | _ => ("", "", "", false)
def tyJ2 : Nat → FieldType := fun k => match k with
  | _ => .int
theorem nmJ2 : ∀ a, a < 0 → ∀ b, b < 0 → a ≠ b → (TJ2 a).2.1 ≠ (TJ2 b).2.1 := by decide +kernel
theorem tyJ2_ok : ∀ k, k < 0 → parseFieldDescriptor (TJ2 k).2.2.1 = some (tyJ2 k) := by decide +kernel
abbrev cJ2_getChar_3b067 : ByteArray := prog_14_method_5_code
def yJ2_getChar_3b067 : MethodName := ⟨RJ2, "getChar", "([BI)C"⟩
abbrev cJ2_length_9d52b : ByteArray := prog_14_method_6_code
def yJ2_length_9d52b : MethodName := ⟨RJ2, "length", "([B)I"⟩
abbrev cJ2_charAt_3b067 : ByteArray := prog_14_method_83_code
def yJ2_charAt_3b067 : MethodName := ⟨RJ2, "charAt", "([BI)C"⟩
abbrev cJ2_checkIndex_2214a : ByteArray := prog_14_method_91_code
def yJ2_checkIndex_2214a : MethodName := ⟨RJ2, "checkIndex", "(I[B)V"⟩
def RJ10 : String := "java/lang/System"
def TJ10 : u_T := fun k => match k with
  | _ => ("", "", "", false)
def tyJ10 : Nat → FieldType := fun k => match k with
  | _ => .int
theorem nmJ10 : ∀ a, a < 0 → ∀ b, b < 0 → a ≠ b → (TJ10 a).2.1 ≠ (TJ10 b).2.1 := by decide +kernel
theorem tyJ10_ok : ∀ k, k < 0 → parseFieldDescriptor (TJ10 k).2.2.1 = some (tyJ10 k) := by decide +kernel
def RJxfd54e : String := "java/lang/constant/Constable"
def TJxfd54e : u_T := fun k => match k with
  | _ => ("", "", "", false)
def tyJxfd54e : Nat → FieldType := fun k => match k with
  | _ => .int
theorem nmJxfd54e : ∀ a, a < 0 → ∀ b, b < 0 → a ≠ b → (TJxfd54e a).2.1 ≠ (TJxfd54e b).2.1 := by decide +kernel
theorem tyJxfd54e_ok : ∀ k, k < 0 → parseFieldDescriptor (TJxfd54e k).2.2.1 = some (tyJxfd54e k) := by decide +kernel
def RJx3cf43 : String := "java/lang/constant/ConstantDesc"
def TJx3cf43 : u_T := fun k => match k with
  | _ => ("", "", "", false)
def tyJx3cf43 : Nat → FieldType := fun k => match k with
  | _ => .int
theorem nmJx3cf43 : ∀ a, a < 0 → ∀ b, b < 0 → a ≠ b → (TJx3cf43 a).2.1 ≠ (TJx3cf43 b).2.1 := by decide +kernel
theorem tyJx3cf43_ok : ∀ k, k < 0 → parseFieldDescriptor (TJx3cf43 k).2.2.1 = some (tyJx3cf43 k) := by decide +kernel
def RJ7 : String := "java/util/Arrays"
def TJ7 : u_T := fun k => match k with
  | _ => ("", "", "", false)
def tyJ7 : Nat → FieldType := fun k => match k with
  | _ => .int
theorem nmJ7 : ∀ a, a < 0 → ∀ b, b < 0 → a ≠ b → (TJ7 a).2.1 ≠ (TJ7 b).2.1 := by decide +kernel
theorem tyJ7_ok : ∀ k, k < 0 → parseFieldDescriptor (TJ7 k).2.2.1 = some (tyJ7 k) := by decide +kernel
abbrev cJ7_fill_d0a16 : ByteArray := prog_16_method_101_code
def yJ7_fill_d0a16 : MethodName := ⟨RJ7, "fill", "([JJ)V"⟩
abbrev cJ7_fill_53178 : ByteArray := prog_16_method_103_code
def yJ7_fill_53178 : MethodName := ⟨RJ7, "fill", "([II)V"⟩
def RJ3 : String := "jdk/internal/util/Preconditions"
def TJ3 : u_T := fun k => match k with
  | _ => ("", "", "", false)
def tyJ3 : Nat → FieldType := fun k => match k with
  | _ => .int
theorem nmJ3 : ∀ a, a < 0 → ∀ b, b < 0 → a ≠ b → (TJ3 a).2.1 ≠ (TJ3 b).2.1 := by decide +kernel
theorem tyJ3_ok : ∀ k, k < 0 → parseFieldDescriptor (TJ3 k).2.2.1 = some (tyJ3 k) := by decide +kernel
abbrev cJ3_checkIndex_8e157 : ByteArray := prog_17_method_11_code
def yJ3_checkIndex_8e157 : MethodName := ⟨RJ3, "checkIndex", "(IILjava/util/function/BiFunction;)I"⟩
def RL : String := "HouseInRoomLaw"
abbrev cL_law : ByteArray := code
def yL_law : MethodName := ⟨RL, "law", "([I)Z"⟩
abbrev vwCl : List vw_C := [(RX1, TX1, 4), (RX2, TX2, 3), (RX3, TX3, 6), (RX4, TX4, 7), (RX6, TX6, 18), (RX7, TX7, 9), (RX8, TX8, 20)]
end
section
theorem dX0_weightOf_0 : decode cX0_weightOf 0 = .ok (.iload_n 1, 1) := by decide +kernel
theorem dX0_weightOf_1 : decode cX0_weightOf 1 = .ok (.iload_n 2, 1) := by decide +kernel
theorem dX0_weightOf_2 : decode cX0_weightOf 2 = .ok (.ishr, 1) := by decide +kernel
theorem dX0_weightOf_3 : decode cX0_weightOf 3 = .ok (.istore_n 3, 1) := by decide +kernel
theorem dX0_weightOf_4 : decode cX0_weightOf 4 = .ok (.iload_n 0, 1) := by decide +kernel
theorem dX0_weightOf_5 : decode cX0_weightOf 5 = .ok (.tableswitch 63 1 6 #[39, 43, 49, 57, 59, 61], 39) := by decide +kernel
theorem dX0_weightOf_44 : decode cX0_weightOf 44 = .ok (.iload_n 3, 1) := by decide +kernel
theorem dX0_weightOf_45 : decode cX0_weightOf 45 = .ok (.iconst 1, 1) := by decide +kernel
theorem dX0_weightOf_46 : decode cX0_weightOf 46 = .ok (.iadd, 1) := by decide +kernel
theorem dX0_weightOf_47 : decode cX0_weightOf 47 = .ok (.ireturn, 1) := by decide +kernel
theorem dX0_weightOf_48 : decode cX0_weightOf 48 = .ok (.iconst 2, 1) := by decide +kernel
theorem dX0_weightOf_49 : decode cX0_weightOf 49 = .ok (.iload_n 3, 1) := by decide +kernel
theorem dX0_weightOf_50 : decode cX0_weightOf 50 = .ok (.iconst 1, 1) := by decide +kernel
theorem dX0_weightOf_51 : decode cX0_weightOf 51 = .ok (.iadd, 1) := by decide +kernel
theorem dX0_weightOf_52 : decode cX0_weightOf 52 = .ok (.imul, 1) := by decide +kernel
theorem dX0_weightOf_53 : decode cX0_weightOf 53 = .ok (.ireturn, 1) := by decide +kernel
theorem dX0_weightOf_54 : decode cX0_weightOf 54 = .ok (.iconst 2, 1) := by decide +kernel
theorem dX0_weightOf_55 : decode cX0_weightOf 55 = .ok (.iload_n 3, 1) := by decide +kernel
theorem dX0_weightOf_56 : decode cX0_weightOf 56 = .ok (.iconst 1, 1) := by decide +kernel
theorem dX0_weightOf_57 : decode cX0_weightOf 57 = .ok (.iadd, 1) := by decide +kernel
theorem dX0_weightOf_58 : decode cX0_weightOf 58 = .ok (.imul, 1) := by decide +kernel
theorem dX0_weightOf_59 : decode cX0_weightOf 59 = .ok (.iconst 5, 1) := by decide +kernel
theorem dX0_weightOf_60 : decode cX0_weightOf 60 = .ok (.iadd, 1) := by decide +kernel
theorem dX0_weightOf_61 : decode cX0_weightOf 61 = .ok (.ireturn, 1) := by decide +kernel
theorem dX0_weightOf_62 : decode cX0_weightOf 62 = .ok (.iconst 1, 1) := by decide +kernel
theorem dX0_weightOf_63 : decode cX0_weightOf 63 = .ok (.ireturn, 1) := by decide +kernel
theorem dX0_weightOf_64 : decode cX0_weightOf 64 = .ok (.iconst 0, 1) := by decide +kernel
theorem dX0_weightOf_65 : decode cX0_weightOf 65 = .ok (.ireturn, 1) := by decide +kernel
theorem dX0_weightOf_66 : decode cX0_weightOf 66 = .ok (.iload_n 1, 1) := by decide +kernel
theorem dX0_weightOf_67 : decode cX0_weightOf 67 = .ok (.ireturn, 1) := by decide +kernel
theorem dX0_weightOf_68 : decode cX0_weightOf 68 = .ok (.iload_n 3, 1) := by decide +kernel
theorem dX0_weightOf_69 : decode cX0_weightOf 69 = .ok (.ireturn, 1) := by decide +kernel
theorem dX0_isUnder_0 : decode cX0_isUnder 0 = .ok (.iload_n 0, 1) := by decide +kernel
theorem dX0_isUnder_1 : decode cX0_isUnder 1 = .ok (.istore_n 2, 1) := by decide +kernel
theorem dX0_isUnder_2 : decode cX0_isUnder 2 = .ok (.iconst 0, 1) := by decide +kernel
theorem dX0_isUnder_3 : decode cX0_isUnder 3 = .ok (.istore_n 3, 1) := by decide +kernel
theorem dX0_isUnder_4 : decode cX0_isUnder 4 = .ok (.iload_n 3, 1) := by decide +kernel
theorem dX0_isUnder_5 : decode cX0_isUnder 5 = .ok (.bipush 7, 2) := by decide +kernel
theorem dX0_isUnder_7 : decode cX0_isUnder 7 = .ok (.if_icmp .ge 23, 3) := by decide +kernel
theorem dX0_isUnder_10 : decode cX0_isUnder 10 = .ok (.iload_n 2, 1) := by decide +kernel
theorem dX0_isUnder_11 : decode cX0_isUnder 11 = .ok (.iload_n 1, 1) := by decide +kernel
theorem dX0_isUnder_12 : decode cX0_isUnder 12 = .ok (.if_icmp .eq 18, 3) := by decide +kernel
theorem dX0_isUnder_15 : decode cX0_isUnder 15 = .ok (.iload_n 2, 1) := by decide +kernel
theorem dX0_isUnder_16 : decode cX0_isUnder 16 = .ok (.ifCond .eq 14, 3) := by decide +kernel
theorem dX0_isUnder_19 : decode cX0_isUnder 19 = .ok (.iload_n 2, 1) := by decide +kernel
theorem dX0_isUnder_20 : decode cX0_isUnder 20 = .ok (.invokestatic 9, 3) := by decide +kernel
theorem dX0_isUnder_23 : decode cX0_isUnder 23 = .ok (.istore_n 2, 1) := by decide +kernel
theorem dX0_isUnder_24 : decode cX0_isUnder 24 = .ok (.iinc 3 1, 3) := by decide +kernel
theorem dX0_isUnder_27 : decode cX0_isUnder 27 = .ok (.goto (-23), 3) := by decide +kernel
theorem dX0_isUnder_30 : decode cX0_isUnder 30 = .ok (.iload_n 2, 1) := by decide +kernel
theorem dX0_isUnder_31 : decode cX0_isUnder 31 = .ok (.iload_n 1, 1) := by decide +kernel
theorem dX0_isUnder_32 : decode cX0_isUnder 32 = .ok (.if_icmp .ne 7, 3) := by decide +kernel
theorem dX0_isUnder_35 : decode cX0_isUnder 35 = .ok (.iconst 1, 1) := by decide +kernel
theorem dX0_isUnder_36 : decode cX0_isUnder 36 = .ok (.goto 4, 3) := by decide +kernel
theorem dX0_isUnder_39 : decode cX0_isUnder 39 = .ok (.iconst 0, 1) := by decide +kernel
theorem dX0_isUnder_40 : decode cX0_isUnder 40 = .ok (.ireturn, 1) := by decide +kernel
theorem dX0_kindAbove_0 : decode cX0_kindAbove 0 = .ok (.iload_n 0, 1) := by decide +kernel
theorem dX0_kindAbove_1 : decode cX0_kindAbove 1 = .ok (.tableswitch 37 2 5 #[31, 33, 37, 35], 31) := by decide +kernel
theorem dX0_kindAbove_32 : decode cX0_kindAbove 32 = .ok (.iconst 1, 1) := by decide +kernel
theorem dX0_kindAbove_33 : decode cX0_kindAbove 33 = .ok (.ireturn, 1) := by decide +kernel
theorem dX0_kindAbove_34 : decode cX0_kindAbove 34 = .ok (.iconst 2, 1) := by decide +kernel
theorem dX0_kindAbove_35 : decode cX0_kindAbove 35 = .ok (.ireturn, 1) := by decide +kernel
theorem dX0_kindAbove_36 : decode cX0_kindAbove 36 = .ok (.iconst 4, 1) := by decide +kernel
theorem dX0_kindAbove_37 : decode cX0_kindAbove 37 = .ok (.ireturn, 1) := by decide +kernel
theorem dX0_kindAbove_38 : decode cX0_kindAbove 38 = .ok (.iconst 0, 1) := by decide +kernel
theorem dX0_kindAbove_39 : decode cX0_kindAbove 39 = .ok (.ireturn, 1) := by decide +kernel
theorem dX1_init_0 : decode cX1_init 0 = .ok (.aload_n 0, 1) := by decide +kernel
theorem dX1_init_1 : decode cX1_init 1 = .ok (.invokespecial 3, 3) := by decide +kernel
theorem dX1_init_4 : decode cX1_init 4 = .ok (.aload_n 0, 1) := by decide +kernel
theorem dX1_init_5 : decode cX1_init 5 = .ok (.bipush 8, 2) := by decide +kernel
theorem dX1_init_7 : decode cX1_init 7 = .ok (.newarray .long, 2) := by decide +kernel
theorem dX1_init_9 : decode cX1_init 9 = .ok (.putfield 9, 3) := by decide +kernel
theorem dX1_init_12 : decode cX1_init 12 = .ok (.aload_n 0, 1) := by decide +kernel
theorem dX1_init_13 : decode cX1_init 13 = .ok (.bipush 8, 2) := by decide +kernel
theorem dX1_init_15 : decode cX1_init 15 = .ok (.newarray .long, 2) := by decide +kernel
theorem dX1_init_17 : decode cX1_init 17 = .ok (.putfield 15, 3) := by decide +kernel
theorem dX1_init_20 : decode cX1_init 20 = .ok (.aload_n 0, 1) := by decide +kernel
theorem dX1_init_21 : decode cX1_init 21 = .ok (.bipush 8, 2) := by decide +kernel
theorem dX1_init_23 : decode cX1_init 23 = .ok (.newarray .long, 2) := by decide +kernel
theorem dX1_init_25 : decode cX1_init 25 = .ok (.putfield 18, 3) := by decide +kernel
theorem dX1_init_28 : decode cX1_init 28 = .ok (.aload_n 0, 1) := by decide +kernel
theorem dX1_init_29 : decode cX1_init 29 = .ok (.bipush 8, 2) := by decide +kernel
theorem dX1_init_31 : decode cX1_init 31 = .ok (.newarray .int, 2) := by decide +kernel
theorem dX1_init_33 : decode cX1_init 33 = .ok (.putfield 21, 3) := by decide +kernel
theorem dX1_init_36 : decode cX1_init 36 = .ok (.return_, 1) := by decide +kernel
theorem dX1_placesFrom_0 : decode cX1_placesFrom 0 = .ok (.lconst 1, 1) := by decide +kernel
theorem dX1_placesFrom_1 : decode cX1_placesFrom 1 = .ok (.iload_n 2, 1) := by decide +kernel
theorem dX1_placesFrom_2 : decode cX1_placesFrom 2 = .ok (.lshl, 1) := by decide +kernel
theorem dX1_placesFrom_3 : decode cX1_placesFrom 3 = .ok (.lstore_n 3, 1) := by decide +kernel
theorem dX1_placesFrom_4 : decode cX1_placesFrom 4 = .ok (.lload_n 3, 1) := by decide +kernel
theorem dX1_placesFrom_5 : decode cX1_placesFrom 5 = .ok (.lstore 5, 2) := by decide +kernel
theorem dX1_placesFrom_7 : decode cX1_placesFrom 7 = .ok (.iconst 0, 1) := by decide +kernel
theorem dX1_placesFrom_8 : decode cX1_placesFrom 8 = .ok (.istore 7, 2) := by decide +kernel
theorem dX1_placesFrom_10 : decode cX1_placesFrom 10 = .ok (.iload 7, 2) := by decide +kernel
theorem dX1_placesFrom_12 : decode cX1_placesFrom 12 = .ok (.bipush 40, 2) := by decide +kernel
theorem dX1_placesFrom_14 : decode cX1_placesFrom 14 = .ok (.if_icmp .ge 35, 3) := by decide +kernel
theorem dX1_placesFrom_17 : decode cX1_placesFrom 17 = .ok (.lload 5, 2) := by decide +kernel
theorem dX1_placesFrom_19 : decode cX1_placesFrom 19 = .ok (.lconst 0, 1) := by decide +kernel
theorem dX1_placesFrom_20 : decode cX1_placesFrom 20 = .ok (.lcmp, 1) := by decide +kernel
theorem dX1_placesFrom_21 : decode cX1_placesFrom 21 = .ok (.ifCond .eq 28, 3) := by decide +kernel
theorem dX1_placesFrom_24 : decode cX1_placesFrom 24 = .ok (.aload_n 1, 1) := by decide +kernel
theorem dX1_placesFrom_25 : decode cX1_placesFrom 25 = .ok (.lload 5, 2) := by decide +kernel
theorem dX1_placesFrom_27 : decode cX1_placesFrom 27 = .ok (.invokevirtual 25, 3) := by decide +kernel
theorem dX1_placesFrom_30 : decode cX1_placesFrom 30 = .ok (.lload_n 3, 1) := by decide +kernel
theorem dX1_placesFrom_31 : decode cX1_placesFrom 31 = .ok (.ldc2_w 31, 3) := by decide +kernel
theorem dX1_placesFrom_34 : decode cX1_placesFrom 34 = .ok (.lxor, 1) := by decide +kernel
theorem dX1_placesFrom_35 : decode cX1_placesFrom 35 = .ok (.land, 1) := by decide +kernel
theorem dX1_placesFrom_36 : decode cX1_placesFrom 36 = .ok (.lstore 5, 2) := by decide +kernel
theorem dX1_placesFrom_38 : decode cX1_placesFrom 38 = .ok (.lload_n 3, 1) := by decide +kernel
theorem dX1_placesFrom_39 : decode cX1_placesFrom 39 = .ok (.lload 5, 2) := by decide +kernel
theorem dX1_placesFrom_41 : decode cX1_placesFrom 41 = .ok (.lor, 1) := by decide +kernel
theorem dX1_placesFrom_42 : decode cX1_placesFrom 42 = .ok (.lstore_n 3, 1) := by decide +kernel
theorem dX1_placesFrom_43 : decode cX1_placesFrom 43 = .ok (.iinc 7 1, 3) := by decide +kernel
theorem dX1_placesFrom_46 : decode cX1_placesFrom 46 = .ok (.goto (-36), 3) := by decide +kernel
theorem dX1_placesFrom_49 : decode cX1_placesFrom 49 = .ok (.lload_n 3, 1) := by decide +kernel
theorem dX1_placesFrom_50 : decode cX1_placesFrom 50 = .ok (.lreturn, 1) := by decide +kernel
theorem dX1_stepsTo_0 : decode cX1_stepsTo 0 = .ok (.lconst 1, 1) := by decide +kernel
theorem dX1_stepsTo_1 : decode cX1_stepsTo 1 = .ok (.iload_n 2, 1) := by decide +kernel
theorem dX1_stepsTo_2 : decode cX1_stepsTo 2 = .ok (.lshl, 1) := by decide +kernel
theorem dX1_stepsTo_3 : decode cX1_stepsTo 3 = .ok (.lstore 4, 2) := by decide +kernel
theorem dX1_stepsTo_5 : decode cX1_stepsTo 5 = .ok (.lload 4, 2) := by decide +kernel
theorem dX1_stepsTo_7 : decode cX1_stepsTo 7 = .ok (.lstore 6, 2) := by decide +kernel
theorem dX1_stepsTo_9 : decode cX1_stepsTo 9 = .ok (.iconst 0, 1) := by decide +kernel
theorem dX1_stepsTo_10 : decode cX1_stepsTo 10 = .ok (.istore 8, 2) := by decide +kernel
theorem dX1_stepsTo_12 : decode cX1_stepsTo 12 = .ok (.iload 8, 2) := by decide +kernel
theorem dX1_stepsTo_14 : decode cX1_stepsTo 14 = .ok (.bipush 40, 2) := by decide +kernel
theorem dX1_stepsTo_16 : decode cX1_stepsTo 16 = .ok (.if_icmp .ge 52, 3) := by decide +kernel
theorem dX1_stepsTo_19 : decode cX1_stepsTo 19 = .ok (.lload 6, 2) := by decide +kernel
theorem dX1_stepsTo_21 : decode cX1_stepsTo 21 = .ok (.lconst 0, 1) := by decide +kernel
theorem dX1_stepsTo_22 : decode cX1_stepsTo 22 = .ok (.lcmp, 1) := by decide +kernel
theorem dX1_stepsTo_23 : decode cX1_stepsTo 23 = .ok (.ifCond .eq 45, 3) := by decide +kernel
theorem dX1_stepsTo_26 : decode cX1_stepsTo 26 = .ok (.lload 6, 2) := by decide +kernel
theorem dX1_stepsTo_28 : decode cX1_stepsTo 28 = .ok (.iload_n 3, 1) := by decide +kernel
theorem dX1_stepsTo_29 : decode cX1_stepsTo 29 = .ok (.lushr, 1) := by decide +kernel
theorem dX1_stepsTo_30 : decode cX1_stepsTo 30 = .ok (.lconst 1, 1) := by decide +kernel
theorem dX1_stepsTo_31 : decode cX1_stepsTo 31 = .ok (.land, 1) := by decide +kernel
theorem dX1_stepsTo_32 : decode cX1_stepsTo 32 = .ok (.lconst 1, 1) := by decide +kernel
theorem dX1_stepsTo_33 : decode cX1_stepsTo 33 = .ok (.lcmp, 1) := by decide +kernel
theorem dX1_stepsTo_34 : decode cX1_stepsTo 34 = .ok (.ifCond .ne 6, 3) := by decide +kernel
theorem dX1_stepsTo_37 : decode cX1_stepsTo 37 = .ok (.iload 8, 2) := by decide +kernel
theorem dX1_stepsTo_39 : decode cX1_stepsTo 39 = .ok (.ireturn, 1) := by decide +kernel
theorem dX1_stepsTo_40 : decode cX1_stepsTo 40 = .ok (.aload_n 1, 1) := by decide +kernel
theorem dX1_stepsTo_41 : decode cX1_stepsTo 41 = .ok (.lload 6, 2) := by decide +kernel
theorem dX1_stepsTo_43 : decode cX1_stepsTo 43 = .ok (.invokevirtual 25, 3) := by decide +kernel
theorem dX1_stepsTo_46 : decode cX1_stepsTo 46 = .ok (.lload 4, 2) := by decide +kernel
theorem dX1_stepsTo_48 : decode cX1_stepsTo 48 = .ok (.ldc2_w 31, 3) := by decide +kernel
theorem dX1_stepsTo_51 : decode cX1_stepsTo 51 = .ok (.lxor, 1) := by decide +kernel
theorem dX1_stepsTo_52 : decode cX1_stepsTo 52 = .ok (.land, 1) := by decide +kernel
theorem dX1_stepsTo_53 : decode cX1_stepsTo 53 = .ok (.lstore 6, 2) := by decide +kernel
theorem dX1_stepsTo_55 : decode cX1_stepsTo 55 = .ok (.lload 4, 2) := by decide +kernel
theorem dX1_stepsTo_57 : decode cX1_stepsTo 57 = .ok (.lload 6, 2) := by decide +kernel
theorem dX1_stepsTo_59 : decode cX1_stepsTo 59 = .ok (.lor, 1) := by decide +kernel
theorem dX1_stepsTo_60 : decode cX1_stepsTo 60 = .ok (.lstore 4, 2) := by decide +kernel
theorem dX1_stepsTo_62 : decode cX1_stepsTo 62 = .ok (.iinc 8 1, 3) := by decide +kernel
theorem dX1_stepsTo_65 : decode cX1_stepsTo 65 = .ok (.goto (-53), 3) := by decide +kernel
theorem dX1_stepsTo_68 : decode cX1_stepsTo 68 = .ok (.iconst (-1), 1) := by decide +kernel
theorem dX1_stepsTo_69 : decode cX1_stepsTo 69 = .ok (.ireturn, 1) := by decide +kernel
theorem dX1_fewestFor_0 : decode cX1_fewestFor 0 = .ok (.aload_n 0, 1) := by decide +kernel
theorem dX1_fewestFor_1 : decode cX1_fewestFor 1 = .ok (.aload_n 1, 1) := by decide +kernel
theorem dX1_fewestFor_2 : decode cX1_fewestFor 2 = .ok (.iload_n 2, 1) := by decide +kernel
theorem dX1_fewestFor_3 : decode cX1_fewestFor 3 = .ok (.iload_n 3, 1) := by decide +kernel
theorem dX1_fewestFor_4 : decode cX1_fewestFor 4 = .ok (.iload 4, 2) := by decide +kernel
theorem dX1_fewestFor_6 : decode cX1_fewestFor 6 = .ok (.iconst 1, 1) := by decide +kernel
theorem dX1_fewestFor_7 : decode cX1_fewestFor 7 = .ok (.invokevirtual 33, 3) := by decide +kernel
theorem dX1_fewestFor_10 : decode cX1_fewestFor 10 = .ok (.aload_n 0, 1) := by decide +kernel
theorem dX1_fewestFor_11 : decode cX1_fewestFor 11 = .ok (.getfield 21, 3) := by decide +kernel
theorem dX1_fewestFor_14 : decode cX1_fewestFor 14 = .ok (.iload 4, 2) := by decide +kernel
theorem dX1_fewestFor_16 : decode cX1_fewestFor 16 = .ok (.iaload, 1) := by decide +kernel
theorem dX1_fewestFor_17 : decode cX1_fewestFor 17 = .ok (.ireturn, 1) := by decide +kernel
theorem dX1_roomsFor_0 : decode cX1_roomsFor 0 = .ok (.aload_n 0, 1) := by decide +kernel
theorem dX1_roomsFor_1 : decode cX1_roomsFor 1 = .ok (.aload_n 1, 1) := by decide +kernel
theorem dX1_roomsFor_2 : decode cX1_roomsFor 2 = .ok (.iload_n 2, 1) := by decide +kernel
theorem dX1_roomsFor_3 : decode cX1_roomsFor 3 = .ok (.iload_n 3, 1) := by decide +kernel
theorem dX1_roomsFor_4 : decode cX1_roomsFor 4 = .ok (.iconst (-1), 1) := by decide +kernel
theorem dX1_roomsFor_5 : decode cX1_roomsFor 5 = .ok (.iload 4, 2) := by decide +kernel
theorem dX1_roomsFor_7 : decode cX1_roomsFor 7 = .ok (.invokevirtual 33, 3) := by decide +kernel
theorem dX1_roomsFor_10 : decode cX1_roomsFor 10 = .ok (.iconst 0, 1) := by decide +kernel
theorem dX1_roomsFor_11 : decode cX1_roomsFor 11 = .ok (.istore 5, 2) := by decide +kernel
theorem dX1_roomsFor_13 : decode cX1_roomsFor 13 = .ok (.iconst 0, 1) := by decide +kernel
theorem dX1_roomsFor_14 : decode cX1_roomsFor 14 = .ok (.istore 6, 2) := by decide +kernel
theorem dX1_roomsFor_16 : decode cX1_roomsFor 16 = .ok (.iload 6, 2) := by decide +kernel
theorem dX1_roomsFor_18 : decode cX1_roomsFor 18 = .ok (.bipush 8, 2) := by decide +kernel
theorem dX1_roomsFor_20 : decode cX1_roomsFor 20 = .ok (.if_icmp .ge 29, 3) := by decide +kernel
theorem dX1_roomsFor_23 : decode cX1_roomsFor 23 = .ok (.aload_n 0, 1) := by decide +kernel
theorem dX1_roomsFor_24 : decode cX1_roomsFor 24 = .ok (.getfield 21, 3) := by decide +kernel
theorem dX1_roomsFor_27 : decode cX1_roomsFor 27 = .ok (.iload 6, 2) := by decide +kernel
theorem dX1_roomsFor_29 : decode cX1_roomsFor 29 = .ok (.iaload, 1) := by decide +kernel
theorem dX1_roomsFor_30 : decode cX1_roomsFor 30 = .ok (.iconst (-1), 1) := by decide +kernel
theorem dX1_roomsFor_31 : decode cX1_roomsFor 31 = .ok (.if_icmp .eq 12, 3) := by decide +kernel
theorem dX1_roomsFor_34 : decode cX1_roomsFor 34 = .ok (.iload 5, 2) := by decide +kernel
theorem dX1_roomsFor_36 : decode cX1_roomsFor 36 = .ok (.iconst 1, 1) := by decide +kernel
theorem dX1_roomsFor_37 : decode cX1_roomsFor 37 = .ok (.iload 6, 2) := by decide +kernel
theorem dX1_roomsFor_39 : decode cX1_roomsFor 39 = .ok (.ishl, 1) := by decide +kernel
theorem dX1_roomsFor_40 : decode cX1_roomsFor 40 = .ok (.ior, 1) := by decide +kernel
theorem dX1_roomsFor_41 : decode cX1_roomsFor 41 = .ok (.istore 5, 2) := by decide +kernel
theorem dX1_roomsFor_43 : decode cX1_roomsFor 43 = .ok (.iinc 6 1, 3) := by decide +kernel
theorem dX1_roomsFor_46 : decode cX1_roomsFor 46 = .ok (.goto (-30), 3) := by decide +kernel
theorem dX1_roomsFor_49 : decode cX1_roomsFor 49 = .ok (.iload 5, 2) := by decide +kernel
theorem dX1_roomsFor_51 : decode cX1_roomsFor 51 = .ok (.ireturn, 1) := by decide +kernel
theorem dX1_explore_0 : decode cX1_explore 0 = .ok (.aload_n 0, 1) := by decide +kernel
theorem dX1_explore_1 : decode cX1_explore 1 = .ok (.getfield 9, 3) := by decide +kernel
theorem dX1_explore_4 : decode cX1_explore 4 = .ok (.lconst 0, 1) := by decide +kernel
theorem dX1_explore_5 : decode cX1_explore 5 = .ok (.invokestatic 37, 3) := by decide +kernel
theorem dX1_explore_8 : decode cX1_explore 8 = .ok (.aload_n 0, 1) := by decide +kernel
theorem dX1_explore_9 : decode cX1_explore 9 = .ok (.getfield 18, 3) := by decide +kernel
theorem dX1_explore_12 : decode cX1_explore 12 = .ok (.lconst 0, 1) := by decide +kernel
theorem dX1_explore_13 : decode cX1_explore 13 = .ok (.invokestatic 37, 3) := by decide +kernel
theorem dX1_explore_16 : decode cX1_explore 16 = .ok (.aload_n 0, 1) := by decide +kernel
theorem dX1_explore_17 : decode cX1_explore 17 = .ok (.getfield 21, 3) := by decide +kernel
theorem dX1_explore_20 : decode cX1_explore 20 = .ok (.iconst (-1), 1) := by decide +kernel
theorem dX1_explore_21 : decode cX1_explore 21 = .ok (.invokestatic 43, 3) := by decide +kernel
theorem dX1_explore_24 : decode cX1_explore 24 = .ok (.aload_n 0, 1) := by decide +kernel
theorem dX1_explore_25 : decode cX1_explore 25 = .ok (.getfield 18, 3) := by decide +kernel
theorem dX1_explore_28 : decode cX1_explore 28 = .ok (.aload_n 1, 1) := by decide +kernel
theorem dX1_explore_29 : decode cX1_explore 29 = .ok (.getfield 46, 3) := by decide +kernel
theorem dX1_explore_32 : decode cX1_explore 32 = .ok (.iload_n 3, 1) := by decide +kernel
theorem dX1_explore_33 : decode cX1_explore 33 = .ok (.iaload, 1) := by decide +kernel
theorem dX1_explore_34 : decode cX1_explore 34 = .ok (.lconst 1, 1) := by decide +kernel
theorem dX1_explore_35 : decode cX1_explore 35 = .ok (.aload_n 1, 1) := by decide +kernel
theorem dX1_explore_36 : decode cX1_explore 36 = .ok (.getfield 49, 3) := by decide +kernel
theorem dX1_explore_39 : decode cX1_explore 39 = .ok (.iload_n 2, 1) := by decide +kernel
theorem dX1_explore_40 : decode cX1_explore 40 = .ok (.iaload, 1) := by decide +kernel
theorem dX1_explore_41 : decode cX1_explore 41 = .ok (.lshl, 1) := by decide +kernel
theorem dX1_explore_42 : decode cX1_explore 42 = .ok (.lastore, 1) := by decide +kernel
theorem dX1_explore_43 : decode cX1_explore 43 = .ok (.aload_n 1, 1) := by decide +kernel
theorem dX1_explore_44 : decode cX1_explore 44 = .ok (.iload_n 2, 1) := by decide +kernel
theorem dX1_explore_45 : decode cX1_explore 45 = .ok (.iload_n 3, 1) := by decide +kernel
theorem dX1_explore_46 : decode cX1_explore 46 = .ok (.invokevirtual 52, 3) := by decide +kernel
theorem dX1_explore_49 : decode cX1_explore 49 = .ok (.lstore 6, 2) := by decide +kernel
theorem dX1_explore_51 : decode cX1_explore 51 = .ok (.iconst 0, 1) := by decide +kernel
theorem dX1_explore_52 : decode cX1_explore 52 = .ok (.istore 8, 2) := by decide +kernel
theorem dX1_explore_54 : decode cX1_explore 54 = .ok (.iload 8, 2) := by decide +kernel
theorem dX1_explore_56 : decode cX1_explore 56 = .ok (.sipush 320, 3) := by decide +kernel
theorem dX1_explore_59 : decode cX1_explore 59 = .ok (.if_icmp .ge 79, 3) := by decide +kernel
theorem dX1_explore_62 : decode cX1_explore 62 = .ok (.aload_n 0, 1) := by decide +kernel
theorem dX1_explore_63 : decode cX1_explore 63 = .ok (.iload 8, 2) := by decide +kernel
theorem dX1_explore_65 : decode cX1_explore 65 = .ok (.invokevirtual 56, 3) := by decide +kernel
theorem dX1_explore_68 : decode cX1_explore 68 = .ok (.istore 9, 2) := by decide +kernel
theorem dX1_explore_70 : decode cX1_explore 70 = .ok (.iload 9, 2) := by decide +kernel
theorem dX1_explore_72 : decode cX1_explore 72 = .ok (.ifCond .eq 20, 3) := by decide +kernel
theorem dX1_explore_75 : decode cX1_explore 75 = .ok (.iload 4, 2) := by decide +kernel
theorem dX1_explore_77 : decode cX1_explore 77 = .ok (.iconst (-1), 1) := by decide +kernel
theorem dX1_explore_78 : decode cX1_explore 78 = .ok (.if_icmp .eq 15, 3) := by decide +kernel
theorem dX1_explore_81 : decode cX1_explore 81 = .ok (.aload_n 0, 1) := by decide +kernel
theorem dX1_explore_82 : decode cX1_explore 82 = .ok (.getfield 21, 3) := by decide +kernel
theorem dX1_explore_85 : decode cX1_explore 85 = .ok (.iload 4, 2) := by decide +kernel
theorem dX1_explore_87 : decode cX1_explore 87 = .ok (.iaload, 1) := by decide +kernel
theorem dX1_explore_88 : decode cX1_explore 88 = .ok (.iconst (-1), 1) := by decide +kernel
theorem dX1_explore_89 : decode cX1_explore 89 = .ok (.if_icmp .eq 4, 3) := by decide +kernel
theorem dX1_explore_92 : decode cX1_explore 92 = .ok (.return_, 1) := by decide +kernel
theorem dX1_explore_93 : decode cX1_explore 93 = .ok (.iconst 0, 1) := by decide +kernel
theorem dX1_explore_94 : decode cX1_explore 94 = .ok (.istore 10, 2) := by decide +kernel
theorem dX1_explore_96 : decode cX1_explore 96 = .ok (.iload 10, 2) := by decide +kernel
theorem dX1_explore_98 : decode cX1_explore 98 = .ok (.bipush 8, 2) := by decide +kernel
theorem dX1_explore_100 : decode cX1_explore 100 = .ok (.if_icmp .ge 32, 3) := by decide +kernel
theorem dX1_explore_103 : decode cX1_explore 103 = .ok (.aload_n 0, 1) := by decide +kernel
theorem dX1_explore_104 : decode cX1_explore 104 = .ok (.getfield 15, 3) := by decide +kernel
theorem dX1_explore_107 : decode cX1_explore 107 = .ok (.iload 10, 2) := by decide +kernel
theorem dX1_explore_109 : decode cX1_explore 109 = .ok (.laload, 1) := by decide +kernel
theorem dX1_explore_110 : decode cX1_explore 110 = .ok (.lconst 0, 1) := by decide +kernel
theorem dX1_explore_111 : decode cX1_explore 111 = .ok (.lcmp, 1) := by decide +kernel
theorem dX1_explore_112 : decode cX1_explore 112 = .ok (.ifCond .eq 14, 3) := by decide +kernel
theorem dX1_explore_115 : decode cX1_explore 115 = .ok (.aload_n 0, 1) := by decide +kernel
theorem dX1_explore_116 : decode cX1_explore 116 = .ok (.aload_n 1, 1) := by decide +kernel
theorem dX1_explore_117 : decode cX1_explore 117 = .ok (.iload 10, 2) := by decide +kernel
theorem dX1_explore_119 : decode cX1_explore 119 = .ok (.lload 6, 2) := by decide +kernel
theorem dX1_explore_121 : decode cX1_explore 121 = .ok (.iload 5, 2) := by decide +kernel
theorem dX1_explore_123 : decode cX1_explore 123 = .ok (.invokevirtual 60, 3) := by decide +kernel
theorem dX1_explore_126 : decode cX1_explore 126 = .ok (.iinc 10 1, 3) := by decide +kernel
theorem dX1_explore_129 : decode cX1_explore 129 = .ok (.goto (-33), 3) := by decide +kernel
theorem dX1_explore_132 : decode cX1_explore 132 = .ok (.iinc 8 1, 3) := by decide +kernel
theorem dX1_explore_135 : decode cX1_explore 135 = .ok (.goto (-81), 3) := by decide +kernel
theorem dX1_explore_138 : decode cX1_explore 138 = .ok (.return_, 1) := by decide +kernel
theorem dX1_settle_0 : decode cX1_settle 0 = .ok (.iconst 0, 1) := by decide +kernel
theorem dX1_settle_1 : decode cX1_settle 1 = .ok (.istore_n 2, 1) := by decide +kernel
theorem dX1_settle_2 : decode cX1_settle 2 = .ok (.iconst 0, 1) := by decide +kernel
theorem dX1_settle_3 : decode cX1_settle 3 = .ok (.istore_n 3, 1) := by decide +kernel
theorem dX1_settle_4 : decode cX1_settle 4 = .ok (.iload_n 3, 1) := by decide +kernel
theorem dX1_settle_5 : decode cX1_settle 5 = .ok (.bipush 8, 2) := by decide +kernel
theorem dX1_settle_7 : decode cX1_settle 7 = .ok (.if_icmp .ge 84, 3) := by decide +kernel
theorem dX1_settle_10 : decode cX1_settle 10 = .ok (.aload_n 0, 1) := by decide +kernel
theorem dX1_settle_11 : decode cX1_settle 11 = .ok (.getfield 15, 3) := by decide +kernel
theorem dX1_settle_14 : decode cX1_settle 14 = .ok (.iload_n 3, 1) := by decide +kernel
theorem dX1_settle_15 : decode cX1_settle 15 = .ok (.aload_n 0, 1) := by decide +kernel
theorem dX1_settle_16 : decode cX1_settle 16 = .ok (.getfield 18, 3) := by decide +kernel
theorem dX1_settle_19 : decode cX1_settle 19 = .ok (.iload_n 3, 1) := by decide +kernel
theorem dX1_settle_20 : decode cX1_settle 20 = .ok (.laload, 1) := by decide +kernel
theorem dX1_settle_21 : decode cX1_settle 21 = .ok (.aload_n 0, 1) := by decide +kernel
theorem dX1_settle_22 : decode cX1_settle 22 = .ok (.getfield 9, 3) := by decide +kernel
theorem dX1_settle_25 : decode cX1_settle 25 = .ok (.iload_n 3, 1) := by decide +kernel
theorem dX1_settle_26 : decode cX1_settle 26 = .ok (.laload, 1) := by decide +kernel
theorem dX1_settle_27 : decode cX1_settle 27 = .ok (.ldc2_w 31, 3) := by decide +kernel
theorem dX1_settle_30 : decode cX1_settle 30 = .ok (.lxor, 1) := by decide +kernel
theorem dX1_settle_31 : decode cX1_settle 31 = .ok (.land, 1) := by decide +kernel
theorem dX1_settle_32 : decode cX1_settle 32 = .ok (.lastore, 1) := by decide +kernel
theorem dX1_settle_33 : decode cX1_settle 33 = .ok (.aload_n 0, 1) := by decide +kernel
theorem dX1_settle_34 : decode cX1_settle 34 = .ok (.getfield 9, 3) := by decide +kernel
theorem dX1_settle_37 : decode cX1_settle 37 = .ok (.iload_n 3, 1) := by decide +kernel
theorem dX1_settle_38 : decode cX1_settle 38 = .ok (.dup2, 1) := by decide +kernel
theorem dX1_settle_39 : decode cX1_settle 39 = .ok (.laload, 1) := by decide +kernel
theorem dX1_settle_40 : decode cX1_settle 40 = .ok (.aload_n 0, 1) := by decide +kernel
theorem dX1_settle_41 : decode cX1_settle 41 = .ok (.getfield 15, 3) := by decide +kernel
theorem dX1_settle_44 : decode cX1_settle 44 = .ok (.iload_n 3, 1) := by decide +kernel
theorem dX1_settle_45 : decode cX1_settle 45 = .ok (.laload, 1) := by decide +kernel
theorem dX1_settle_46 : decode cX1_settle 46 = .ok (.lor, 1) := by decide +kernel
theorem dX1_settle_47 : decode cX1_settle 47 = .ok (.lastore, 1) := by decide +kernel
theorem dX1_settle_48 : decode cX1_settle 48 = .ok (.aload_n 0, 1) := by decide +kernel
theorem dX1_settle_49 : decode cX1_settle 49 = .ok (.getfield 18, 3) := by decide +kernel
theorem dX1_settle_52 : decode cX1_settle 52 = .ok (.iload_n 3, 1) := by decide +kernel
theorem dX1_settle_53 : decode cX1_settle 53 = .ok (.lconst 0, 1) := by decide +kernel
theorem dX1_settle_54 : decode cX1_settle 54 = .ok (.lastore, 1) := by decide +kernel
theorem dX1_settle_55 : decode cX1_settle 55 = .ok (.aload_n 0, 1) := by decide +kernel
theorem dX1_settle_56 : decode cX1_settle 56 = .ok (.getfield 15, 3) := by decide +kernel
theorem dX1_settle_59 : decode cX1_settle 59 = .ok (.iload_n 3, 1) := by decide +kernel
theorem dX1_settle_60 : decode cX1_settle 60 = .ok (.laload, 1) := by decide +kernel
theorem dX1_settle_61 : decode cX1_settle 61 = .ok (.lconst 0, 1) := by decide +kernel
theorem dX1_settle_62 : decode cX1_settle 62 = .ok (.lcmp, 1) := by decide +kernel
theorem dX1_settle_63 : decode cX1_settle 63 = .ok (.ifCond .eq 22, 3) := by decide +kernel
theorem dX1_settle_66 : decode cX1_settle 66 = .ok (.iconst 1, 1) := by decide +kernel
theorem dX1_settle_67 : decode cX1_settle 67 = .ok (.istore_n 2, 1) := by decide +kernel
theorem dX1_settle_68 : decode cX1_settle 68 = .ok (.aload_n 0, 1) := by decide +kernel
theorem dX1_settle_69 : decode cX1_settle 69 = .ok (.getfield 21, 3) := by decide +kernel
theorem dX1_settle_72 : decode cX1_settle 72 = .ok (.iload_n 3, 1) := by decide +kernel
theorem dX1_settle_73 : decode cX1_settle 73 = .ok (.iaload, 1) := by decide +kernel
theorem dX1_settle_74 : decode cX1_settle 74 = .ok (.iconst (-1), 1) := by decide +kernel
theorem dX1_settle_75 : decode cX1_settle 75 = .ok (.if_icmp .ne 10, 3) := by decide +kernel
theorem dX1_settle_78 : decode cX1_settle 78 = .ok (.aload_n 0, 1) := by decide +kernel
theorem dX1_settle_79 : decode cX1_settle 79 = .ok (.getfield 21, 3) := by decide +kernel
theorem dX1_settle_82 : decode cX1_settle 82 = .ok (.iload_n 3, 1) := by decide +kernel
theorem dX1_settle_83 : decode cX1_settle 83 = .ok (.iload_n 1, 1) := by decide +kernel
theorem dX1_settle_84 : decode cX1_settle 84 = .ok (.iastore, 1) := by decide +kernel
theorem dX1_settle_85 : decode cX1_settle 85 = .ok (.iinc 3 1, 3) := by decide +kernel
theorem dX1_settle_88 : decode cX1_settle 88 = .ok (.goto (-84), 3) := by decide +kernel
theorem dX1_settle_91 : decode cX1_settle 91 = .ok (.iload_n 2, 1) := by decide +kernel
theorem dX1_settle_92 : decode cX1_settle 92 = .ok (.ireturn, 1) := by decide +kernel
theorem dX1_spread_0 : decode cX1_spread 0 = .ok (.aload_n 0, 1) := by decide +kernel
theorem dX1_spread_1 : decode cX1_spread 1 = .ok (.getfield 18, 3) := by decide +kernel
theorem dX1_spread_4 : decode cX1_spread 4 = .ok (.iload_n 2, 1) := by decide +kernel
theorem dX1_spread_5 : decode cX1_spread 5 = .ok (.dup2, 1) := by decide +kernel
theorem dX1_spread_6 : decode cX1_spread 6 = .ok (.laload, 1) := by decide +kernel
theorem dX1_spread_7 : decode cX1_spread 7 = .ok (.aload_n 1, 1) := by decide +kernel
theorem dX1_spread_8 : decode cX1_spread 8 = .ok (.aload_n 0, 1) := by decide +kernel
theorem dX1_spread_9 : decode cX1_spread 9 = .ok (.getfield 15, 3) := by decide +kernel
theorem dX1_spread_12 : decode cX1_spread 12 = .ok (.iload_n 2, 1) := by decide +kernel
theorem dX1_spread_13 : decode cX1_spread 13 = .ok (.laload, 1) := by decide +kernel
theorem dX1_spread_14 : decode cX1_spread 14 = .ok (.invokevirtual 25, 3) := by decide +kernel
theorem dX1_spread_17 : decode cX1_spread 17 = .ok (.lor, 1) := by decide +kernel
theorem dX1_spread_18 : decode cX1_spread 18 = .ok (.lastore, 1) := by decide +kernel
theorem dX1_spread_19 : decode cX1_spread 19 = .ok (.aload_n 0, 1) := by decide +kernel
theorem dX1_spread_20 : decode cX1_spread 20 = .ok (.getfield 15, 3) := by decide +kernel
theorem dX1_spread_23 : decode cX1_spread 23 = .ok (.iload_n 2, 1) := by decide +kernel
theorem dX1_spread_24 : decode cX1_spread 24 = .ok (.laload, 1) := by decide +kernel
theorem dX1_spread_25 : decode cX1_spread 25 = .ok (.iload_n 2, 1) := by decide +kernel
theorem dX1_spread_26 : decode cX1_spread 26 = .ok (.lushr, 1) := by decide +kernel
theorem dX1_spread_27 : decode cX1_spread 27 = .ok (.lload_n 3, 1) := by decide +kernel
theorem dX1_spread_28 : decode cX1_spread 28 = .ok (.land, 1) := by decide +kernel
theorem dX1_spread_29 : decode cX1_spread 29 = .ok (.lstore 6, 2) := by decide +kernel
theorem dX1_spread_31 : decode cX1_spread 31 = .ok (.iload 5, 2) := by decide +kernel
theorem dX1_spread_33 : decode cX1_spread 33 = .ok (.ifCond .eq 22, 3) := by decide +kernel
theorem dX1_spread_36 : decode cX1_spread 36 = .ok (.aload_n 0, 1) := by decide +kernel
theorem dX1_spread_37 : decode cX1_spread 37 = .ok (.getfield 15, 3) := by decide +kernel
theorem dX1_spread_40 : decode cX1_spread 40 = .ok (.iload_n 2, 1) := by decide +kernel
theorem dX1_spread_41 : decode cX1_spread 41 = .ok (.laload, 1) := by decide +kernel
theorem dX1_spread_42 : decode cX1_spread 42 = .ok (.aload_n 1, 1) := by decide +kernel
theorem dX1_spread_43 : decode cX1_spread 43 = .ok (.getfield 64, 3) := by decide +kernel
theorem dX1_spread_46 : decode cX1_spread 46 = .ok (.lushr, 1) := by decide +kernel
theorem dX1_spread_47 : decode cX1_spread 47 = .ok (.lload_n 3, 1) := by decide +kernel
theorem dX1_spread_48 : decode cX1_spread 48 = .ok (.bipush 8, 2) := by decide +kernel
theorem dX1_spread_50 : decode cX1_spread 50 = .ok (.lushr, 1) := by decide +kernel
theorem dX1_spread_51 : decode cX1_spread 51 = .ok (.land, 1) := by decide +kernel
theorem dX1_spread_52 : decode cX1_spread 52 = .ok (.goto 4, 3) := by decide +kernel
theorem dX1_spread_55 : decode cX1_spread 55 = .ok (.lconst 0, 1) := by decide +kernel
theorem dX1_spread_56 : decode cX1_spread 56 = .ok (.lstore 8, 2) := by decide +kernel
theorem dX1_spread_58 : decode cX1_spread 58 = .ok (.iconst 0, 1) := by decide +kernel
theorem dX1_spread_59 : decode cX1_spread 59 = .ok (.istore 10, 2) := by decide +kernel
theorem dX1_spread_61 : decode cX1_spread 61 = .ok (.iload 10, 2) := by decide +kernel
theorem dX1_spread_63 : decode cX1_spread 63 = .ok (.bipush 8, 2) := by decide +kernel
theorem dX1_spread_65 : decode cX1_spread 65 = .ok (.if_icmp .ge 51, 3) := by decide +kernel
theorem dX1_spread_68 : decode cX1_spread 68 = .ok (.aload_n 1, 1) := by decide +kernel
theorem dX1_spread_69 : decode cX1_spread 69 = .ok (.iload_n 2, 1) := by decide +kernel
theorem dX1_spread_70 : decode cX1_spread 70 = .ok (.iload 10, 2) := by decide +kernel
theorem dX1_spread_72 : decode cX1_spread 72 = .ok (.invokevirtual 68, 3) := by decide +kernel
theorem dX1_spread_75 : decode cX1_spread 75 = .ok (.ifCond .eq 18, 3) := by decide +kernel
theorem dX1_spread_78 : decode cX1_spread 78 = .ok (.aload_n 0, 1) := by decide +kernel
theorem dX1_spread_79 : decode cX1_spread 79 = .ok (.getfield 18, 3) := by decide +kernel
theorem dX1_spread_82 : decode cX1_spread 82 = .ok (.iload 10, 2) := by decide +kernel
theorem dX1_spread_84 : decode cX1_spread 84 = .ok (.dup2, 1) := by decide +kernel
theorem dX1_spread_85 : decode cX1_spread 85 = .ok (.laload, 1) := by decide +kernel
theorem dX1_spread_86 : decode cX1_spread 86 = .ok (.lload 6, 2) := by decide +kernel
theorem dX1_spread_88 : decode cX1_spread 88 = .ok (.iload 10, 2) := by decide +kernel
theorem dX1_spread_90 : decode cX1_spread 90 = .ok (.lshl, 1) := by decide +kernel
theorem dX1_spread_91 : decode cX1_spread 91 = .ok (.lor, 1) := by decide +kernel
theorem dX1_spread_92 : decode cX1_spread 92 = .ok (.lastore, 1) := by decide +kernel
theorem dX1_spread_93 : decode cX1_spread 93 = .ok (.aload_n 0, 1) := by decide +kernel
theorem dX1_spread_94 : decode cX1_spread 94 = .ok (.getfield 18, 3) := by decide +kernel
theorem dX1_spread_97 : decode cX1_spread 97 = .ok (.iload 10, 2) := by decide +kernel
theorem dX1_spread_99 : decode cX1_spread 99 = .ok (.dup2, 1) := by decide +kernel
theorem dX1_spread_100 : decode cX1_spread 100 = .ok (.laload, 1) := by decide +kernel
theorem dX1_spread_101 : decode cX1_spread 101 = .ok (.lload 8, 2) := by decide +kernel
theorem dX1_spread_103 : decode cX1_spread 103 = .ok (.aload_n 1, 1) := by decide +kernel
theorem dX1_spread_104 : decode cX1_spread 104 = .ok (.getfield 64, 3) := by decide +kernel
theorem dX1_spread_107 : decode cX1_spread 107 = .ok (.lshl, 1) := by decide +kernel
theorem dX1_spread_108 : decode cX1_spread 108 = .ok (.lor, 1) := by decide +kernel
theorem dX1_spread_109 : decode cX1_spread 109 = .ok (.lastore, 1) := by decide +kernel
theorem dX1_spread_110 : decode cX1_spread 110 = .ok (.iinc 10 1, 3) := by decide +kernel
theorem dX1_spread_113 : decode cX1_spread 113 = .ok (.goto (-52), 3) := by decide +kernel
theorem dX1_spread_116 : decode cX1_spread 116 = .ok (.return_, 1) := by decide +kernel
theorem dX2_init_0 : decode cX2_init 0 = .ok (.aload_n 0, 1) := by decide +kernel
theorem dX2_init_1 : decode cX2_init 1 = .ok (.invokespecial 3, 3) := by decide +kernel
theorem dX2_init_4 : decode cX2_init 4 = .ok (.aload_n 0, 1) := by decide +kernel
theorem dX2_init_5 : decode cX2_init 5 = .ok (.bipush 40, 2) := by decide +kernel
theorem dX2_init_7 : decode cX2_init 7 = .ok (.newarray .int, 2) := by decide +kernel
theorem dX2_init_9 : decode cX2_init 9 = .ok (.putfield 9, 3) := by decide +kernel
theorem dX2_init_12 : decode cX2_init 12 = .ok (.return_, 1) := by decide +kernel
theorem dX2_isMissing_0 : decode cX2_isMissing 0 = .ok (.aload_n 0, 1) := by decide +kernel
theorem dX2_isMissing_1 : decode cX2_isMissing 1 = .ok (.getfield 15, 3) := by decide +kernel
theorem dX2_isMissing_4 : decode cX2_isMissing 4 = .ok (.ifCond .ne 7, 3) := by decide +kernel
theorem dX2_isMissing_7 : decode cX2_isMissing 7 = .ok (.iconst 1, 1) := by decide +kernel
theorem dX2_isMissing_8 : decode cX2_isMissing 8 = .ok (.goto 4, 3) := by decide +kernel
theorem dX2_isMissing_11 : decode cX2_isMissing 11 = .ok (.iconst 0, 1) := by decide +kernel
theorem dX2_isMissing_12 : decode cX2_isMissing 12 = .ok (.ireturn, 1) := by decide +kernel
theorem dX2_renew_0 : decode cX2_renew 0 = .ok (.aload_n 0, 1) := by decide +kernel
theorem dX2_renew_1 : decode cX2_renew 1 = .ok (.iload_n 1, 1) := by decide +kernel
theorem dX2_renew_2 : decode cX2_renew 2 = .ok (.putfield 15, 3) := by decide +kernel
theorem dX2_renew_5 : decode cX2_renew 5 = .ok (.aload_n 0, 1) := by decide +kernel
theorem dX2_renew_6 : decode cX2_renew 6 = .ok (.iload_n 1, 1) := by decide +kernel
theorem dX2_renew_7 : decode cX2_renew 7 = .ok (.ifCond .ne 7, 3) := by decide +kernel
theorem dX2_renew_10 : decode cX2_renew 10 = .ok (.iconst 0, 1) := by decide +kernel
theorem dX2_renew_11 : decode cX2_renew 11 = .ok (.goto 4, 3) := by decide +kernel
theorem dX2_renew_14 : decode cX2_renew 14 = .ok (.iload_n 2, 1) := by decide +kernel
theorem dX2_renew_15 : decode cX2_renew 15 = .ok (.putfield 19, 3) := by decide +kernel
theorem dX2_renew_18 : decode cX2_renew 18 = .ok (.aload_n 0, 1) := by decide +kernel
theorem dX2_renew_19 : decode cX2_renew 19 = .ok (.getfield 9, 3) := by decide +kernel
theorem dX2_renew_22 : decode cX2_renew 22 = .ok (.iconst 0, 1) := by decide +kernel
theorem dX2_renew_23 : decode cX2_renew 23 = .ok (.invokestatic 22, 3) := by decide +kernel
theorem dX2_renew_26 : decode cX2_renew 26 = .ok (.return_, 1) := by decide +kernel
theorem dX2_put_0 : decode cX2_put 0 = .ok (.aload_n 0, 1) := by decide +kernel
theorem dX2_put_1 : decode cX2_put 1 = .ok (.getfield 15, 3) := by decide +kernel
theorem dX2_put_4 : decode cX2_put 4 = .ok (.lookupswitch 50 #[(8, 28), (16, 39)], 28) := by decide +kernel
theorem dX2_put_32 : decode cX2_put 32 = .ok (.aload_n 0, 1) := by decide +kernel
theorem dX2_put_33 : decode cX2_put 33 = .ok (.getfield 9, 3) := by decide +kernel
theorem dX2_put_36 : decode cX2_put 36 = .ok (.iload_n 1, 1) := by decide +kernel
theorem dX2_put_37 : decode cX2_put 37 = .ok (.iload_n 2, 1) := by decide +kernel
theorem dX2_put_38 : decode cX2_put 38 = .ok (.i2b, 1) := by decide +kernel
theorem dX2_put_39 : decode cX2_put 39 = .ok (.iastore, 1) := by decide +kernel
theorem dX2_put_40 : decode cX2_put 40 = .ok (.goto 21, 3) := by decide +kernel
theorem dX2_put_43 : decode cX2_put 43 = .ok (.aload_n 0, 1) := by decide +kernel
theorem dX2_put_44 : decode cX2_put 44 = .ok (.getfield 9, 3) := by decide +kernel
theorem dX2_put_47 : decode cX2_put 47 = .ok (.iload_n 1, 1) := by decide +kernel
theorem dX2_put_48 : decode cX2_put 48 = .ok (.iload_n 2, 1) := by decide +kernel
theorem dX2_put_49 : decode cX2_put 49 = .ok (.i2s, 1) := by decide +kernel
theorem dX2_put_50 : decode cX2_put 50 = .ok (.iastore, 1) := by decide +kernel
theorem dX2_put_51 : decode cX2_put 51 = .ok (.goto 10, 3) := by decide +kernel
theorem dX2_put_54 : decode cX2_put 54 = .ok (.aload_n 0, 1) := by decide +kernel
theorem dX2_put_55 : decode cX2_put 55 = .ok (.getfield 9, 3) := by decide +kernel
theorem dX2_put_58 : decode cX2_put 58 = .ok (.iload_n 1, 1) := by decide +kernel
theorem dX2_put_59 : decode cX2_put 59 = .ok (.iload_n 2, 1) := by decide +kernel
theorem dX2_put_60 : decode cX2_put 60 = .ok (.iastore, 1) := by decide +kernel
theorem dX2_put_61 : decode cX2_put 61 = .ok (.return_, 1) := by decide +kernel
theorem dX2_hasRow_0 : decode cX2_hasRow 0 = .ok (.iload_n 1, 1) := by decide +kernel
theorem dX2_hasRow_1 : decode cX2_hasRow 1 = .ok (.ifCond .lt 29, 3) := by decide +kernel
theorem dX2_hasRow_4 : decode cX2_hasRow 4 = .ok (.iload_n 2, 1) := by decide +kernel
theorem dX2_hasRow_5 : decode cX2_hasRow 5 = .ok (.ifCond .lt 25, 3) := by decide +kernel
theorem dX2_hasRow_8 : decode cX2_hasRow 8 = .ok (.iload_n 2, 1) := by decide +kernel
theorem dX2_hasRow_9 : decode cX2_hasRow 9 = .ok (.aload_n 0, 1) := by decide +kernel
theorem dX2_hasRow_10 : decode cX2_hasRow 10 = .ok (.getfield 19, 3) := by decide +kernel
theorem dX2_hasRow_13 : decode cX2_hasRow 13 = .ok (.if_icmp .gt 17, 3) := by decide +kernel
theorem dX2_hasRow_16 : decode cX2_hasRow 16 = .ok (.iload_n 1, 1) := by decide +kernel
theorem dX2_hasRow_17 : decode cX2_hasRow 17 = .ok (.aload_n 0, 1) := by decide +kernel
theorem dX2_hasRow_18 : decode cX2_hasRow 18 = .ok (.getfield 19, 3) := by decide +kernel
theorem dX2_hasRow_21 : decode cX2_hasRow 21 = .ok (.iload_n 2, 1) := by decide +kernel
theorem dX2_hasRow_22 : decode cX2_hasRow 22 = .ok (.isub, 1) := by decide +kernel
theorem dX2_hasRow_23 : decode cX2_hasRow 23 = .ok (.if_icmp .gt 7, 3) := by decide +kernel
theorem dX2_hasRow_26 : decode cX2_hasRow 26 = .ok (.iconst 1, 1) := by decide +kernel
theorem dX2_hasRow_27 : decode cX2_hasRow 27 = .ok (.goto 4, 3) := by decide +kernel
theorem dX2_hasRow_30 : decode cX2_hasRow 30 = .ok (.iconst 0, 1) := by decide +kernel
theorem dX2_hasRow_31 : decode cX2_hasRow 31 = .ok (.ireturn, 1) := by decide +kernel
theorem dX3_init_0 : decode cX3_init 0 = .ok (.aload_n 0, 1) := by decide +kernel
theorem dX3_init_1 : decode cX3_init 1 = .ok (.invokespecial 3, 3) := by decide +kernel
theorem dX3_init_4 : decode cX3_init 4 = .ok (.aload_n 0, 1) := by decide +kernel
theorem dX3_init_5 : decode cX3_init 5 = .ok (.bipush 120, 2) := by decide +kernel
theorem dX3_init_7 : decode cX3_init 7 = .ok (.newarray .int, 2) := by decide +kernel
theorem dX3_init_9 : decode cX3_init 9 = .ok (.putfield 11, 3) := by decide +kernel
theorem dX3_init_12 : decode cX3_init 12 = .ok (.aload_n 0, 1) := by decide +kernel
theorem dX3_init_13 : decode cX3_init 13 = .ok (.bipush 120, 2) := by decide +kernel
theorem dX3_init_15 : decode cX3_init 15 = .ok (.newarray .int, 2) := by decide +kernel
theorem dX3_init_17 : decode cX3_init 17 = .ok (.putfield 15, 3) := by decide +kernel
theorem dX3_init_20 : decode cX3_init 20 = .ok (.aload_n 0, 1) := by decide +kernel
theorem dX3_init_21 : decode cX3_init 21 = .ok (.bipush 120, 2) := by decide +kernel
theorem dX3_init_23 : decode cX3_init 23 = .ok (.newarray .int, 2) := by decide +kernel
theorem dX3_init_25 : decode cX3_init 25 = .ok (.putfield 18, 3) := by decide +kernel
theorem dX3_init_28 : decode cX3_init 28 = .ok (.aload_n 0, 1) := by decide +kernel
theorem dX3_init_29 : decode cX3_init 29 = .ok (.bipush 120, 2) := by decide +kernel
theorem dX3_init_31 : decode cX3_init 31 = .ok (.newarray .int, 2) := by decide +kernel
theorem dX3_init_33 : decode cX3_init 33 = .ok (.putfield 21, 3) := by decide +kernel
theorem dX3_init_36 : decode cX3_init 36 = .ok (.return_, 1) := by decide +kernel
theorem dX3_append_0 : decode cX3_append 0 = .ok (.iload_n 2, 1) := by decide +kernel
theorem dX3_append_1 : decode cX3_append 1 = .ok (.iconst 1, 1) := by decide +kernel
theorem dX3_append_2 : decode cX3_append 2 = .ok (.isub, 1) := by decide +kernel
theorem dX3_append_3 : decode cX3_append 3 = .ok (.istore_n 3, 1) := by decide +kernel
theorem dX3_append_4 : decode cX3_append 4 = .ok (.iload_n 3, 1) := by decide +kernel
theorem dX3_append_5 : decode cX3_append 5 = .ok (.ifCond .lt 47, 3) := by decide +kernel
theorem dX3_append_8 : decode cX3_append 8 = .ok (.aload_n 0, 1) := by decide +kernel
theorem dX3_append_9 : decode cX3_append 9 = .ok (.getfield 24, 3) := by decide +kernel
theorem dX3_append_12 : decode cX3_append 12 = .ok (.bipush 120, 2) := by decide +kernel
theorem dX3_append_14 : decode cX3_append 14 = .ok (.if_icmp .ge 32, 3) := by decide +kernel
theorem dX3_append_17 : decode cX3_append 17 = .ok (.aload_n 0, 1) := by decide +kernel
theorem dX3_append_18 : decode cX3_append 18 = .ok (.getfield 11, 3) := by decide +kernel
theorem dX3_append_21 : decode cX3_append 21 = .ok (.aload_n 0, 1) := by decide +kernel
theorem dX3_append_22 : decode cX3_append 22 = .ok (.getfield 24, 3) := by decide +kernel
theorem dX3_append_25 : decode cX3_append 25 = .ok (.iload_n 1, 1) := by decide +kernel
theorem dX3_append_26 : decode cX3_append 26 = .ok (.bipush 8, 2) := by decide +kernel
theorem dX3_append_28 : decode cX3_append 28 = .ok (.iload_n 3, 1) := by decide +kernel
theorem dX3_append_29 : decode cX3_append 29 = .ok (.imul, 1) := by decide +kernel
theorem dX3_append_30 : decode cX3_append 30 = .ok (.iushr, 1) := by decide +kernel
theorem dX3_append_31 : decode cX3_append 31 = .ok (.sipush 255, 3) := by decide +kernel
theorem dX3_append_34 : decode cX3_append 34 = .ok (.iand, 1) := by decide +kernel
theorem dX3_append_35 : decode cX3_append 35 = .ok (.iastore, 1) := by decide +kernel
theorem dX3_append_36 : decode cX3_append 36 = .ok (.aload_n 0, 1) := by decide +kernel
theorem dX3_append_37 : decode cX3_append 37 = .ok (.dup, 1) := by decide +kernel
theorem dX3_append_38 : decode cX3_append 38 = .ok (.getfield 24, 3) := by decide +kernel
theorem dX3_append_41 : decode cX3_append 41 = .ok (.iconst 1, 1) := by decide +kernel
theorem dX3_append_42 : decode cX3_append 42 = .ok (.iadd, 1) := by decide +kernel
theorem dX3_append_43 : decode cX3_append 43 = .ok (.putfield 24, 3) := by decide +kernel
theorem dX3_append_46 : decode cX3_append 46 = .ok (.iinc 3 (-1), 3) := by decide +kernel
theorem dX3_append_49 : decode cX3_append 49 = .ok (.goto (-45), 3) := by decide +kernel
theorem dX3_append_52 : decode cX3_append 52 = .ok (.return_, 1) := by decide +kernel
theorem dX3_split_0 : decode cX3_split 0 = .ok (.aload_n 0, 1) := by decide +kernel
theorem dX3_split_1 : decode cX3_split 1 = .ok (.iconst 0, 1) := by decide +kernel
theorem dX3_split_2 : decode cX3_split 2 = .ok (.putfield 28, 3) := by decide +kernel
theorem dX3_split_5 : decode cX3_split 5 = .ok (.iconst 0, 1) := by decide +kernel
theorem dX3_split_6 : decode cX3_split 6 = .ok (.istore_n 1, 1) := by decide +kernel
theorem dX3_split_7 : decode cX3_split 7 = .ok (.iconst 0, 1) := by decide +kernel
theorem dX3_split_8 : decode cX3_split 8 = .ok (.istore_n 2, 1) := by decide +kernel
theorem dX3_split_9 : decode cX3_split 9 = .ok (.iload_n 2, 1) := by decide +kernel
theorem dX3_split_10 : decode cX3_split 10 = .ok (.bipush 120, 2) := by decide +kernel
theorem dX3_split_12 : decode cX3_split 12 = .ok (.if_icmp .ge 57, 3) := by decide +kernel
theorem dX3_split_15 : decode cX3_split 15 = .ok (.iload_n 1, 1) := by decide +kernel
theorem dX3_split_16 : decode cX3_split 16 = .ok (.aload_n 0, 1) := by decide +kernel
theorem dX3_split_17 : decode cX3_split 17 = .ok (.getfield 24, 3) := by decide +kernel
theorem dX3_split_20 : decode cX3_split 20 = .ok (.if_icmp .ge 49, 3) := by decide +kernel
theorem dX3_split_23 : decode cX3_split 23 = .ok (.aload_n 0, 1) := by decide +kernel
theorem dX3_split_24 : decode cX3_split 24 = .ok (.iload_n 1, 1) := by decide +kernel
theorem dX3_split_25 : decode cX3_split 25 = .ok (.invokevirtual 31, 3) := by decide +kernel
theorem dX3_split_28 : decode cX3_split 28 = .ok (.istore_n 3, 1) := by decide +kernel
theorem dX3_split_29 : decode cX3_split 29 = .ok (.aload_n 0, 1) := by decide +kernel
theorem dX3_split_30 : decode cX3_split 30 = .ok (.getfield 11, 3) := by decide +kernel
theorem dX3_split_33 : decode cX3_split 33 = .ok (.iload_n 1, 1) := by decide +kernel
theorem dX3_split_34 : decode cX3_split 34 = .ok (.iaload, 1) := by decide +kernel
theorem dX3_split_35 : decode cX3_split 35 = .ok (.invokestatic 35, 3) := by decide +kernel
theorem dX3_split_38 : decode cX3_split 38 = .ok (.istore 4, 2) := by decide +kernel
theorem dX3_split_40 : decode cX3_split 40 = .ok (.iload 4, 2) := by decide +kernel
theorem dX3_split_42 : decode cX3_split 42 = .ok (.iconst 4, 1) := by decide +kernel
theorem dX3_split_43 : decode cX3_split 43 = .ok (.if_icmp .eq 18, 3) := by decide +kernel
theorem dX3_split_46 : decode cX3_split 46 = .ok (.aload_n 0, 1) := by decide +kernel
theorem dX3_split_47 : decode cX3_split 47 = .ok (.iload 4, 2) := by decide +kernel
theorem dX3_split_49 : decode cX3_split 49 = .ok (.aload_n 0, 1) := by decide +kernel
theorem dX3_split_50 : decode cX3_split 50 = .ok (.iload 4, 2) := by decide +kernel
theorem dX3_split_52 : decode cX3_split 52 = .ok (.iload_n 1, 1) := by decide +kernel
theorem dX3_split_53 : decode cX3_split 53 = .ok (.iload_n 3, 1) := by decide +kernel
theorem dX3_split_54 : decode cX3_split 54 = .ok (.invokevirtual 38, 3) := by decide +kernel
theorem dX3_split_57 : decode cX3_split 57 = .ok (.iload_n 1, 1) := by decide +kernel
theorem dX3_split_58 : decode cX3_split 58 = .ok (.invokevirtual 42, 3) := by decide +kernel
theorem dX3_split_61 : decode cX3_split 61 = .ok (.iload_n 3, 1) := by decide +kernel
theorem dX3_split_62 : decode cX3_split 62 = .ok (.istore_n 1, 1) := by decide +kernel
theorem dX3_split_63 : decode cX3_split 63 = .ok (.iinc 2 1, 3) := by decide +kernel
theorem dX3_split_66 : decode cX3_split 66 = .ok (.goto (-57), 3) := by decide +kernel
theorem dX3_split_69 : decode cX3_split 69 = .ok (.return_, 1) := by decide +kernel
theorem dX3_kindAt_0 : decode cX3_kindAt 0 = .ok (.iload_n 1, 1) := by decide +kernel
theorem dX3_kindAt_1 : decode cX3_kindAt 1 = .ok (.ifCond .lt 20, 3) := by decide +kernel
theorem dX3_kindAt_4 : decode cX3_kindAt 4 = .ok (.iload_n 1, 1) := by decide +kernel
theorem dX3_kindAt_5 : decode cX3_kindAt 5 = .ok (.aload_n 0, 1) := by decide +kernel
theorem dX3_kindAt_6 : decode cX3_kindAt 6 = .ok (.getfield 28, 3) := by decide +kernel
theorem dX3_kindAt_9 : decode cX3_kindAt 9 = .ok (.if_icmp .ge 12, 3) := by decide +kernel
theorem dX3_kindAt_12 : decode cX3_kindAt 12 = .ok (.aload_n 0, 1) := by decide +kernel
theorem dX3_kindAt_13 : decode cX3_kindAt 13 = .ok (.getfield 15, 3) := by decide +kernel
theorem dX3_kindAt_16 : decode cX3_kindAt 16 = .ok (.iload_n 1, 1) := by decide +kernel
theorem dX3_kindAt_17 : decode cX3_kindAt 17 = .ok (.iaload, 1) := by decide +kernel
theorem dX3_kindAt_18 : decode cX3_kindAt 18 = .ok (.goto 4, 3) := by decide +kernel
theorem dX3_kindAt_21 : decode cX3_kindAt 21 = .ok (.iconst 0, 1) := by decide +kernel
theorem dX3_kindAt_22 : decode cX3_kindAt 22 = .ok (.ireturn, 1) := by decide +kernel
theorem dX3_beginAt_0 : decode cX3_beginAt 0 = .ok (.iload_n 1, 1) := by decide +kernel
theorem dX3_beginAt_1 : decode cX3_beginAt 1 = .ok (.ifCond .lt 20, 3) := by decide +kernel
theorem dX3_beginAt_4 : decode cX3_beginAt 4 = .ok (.iload_n 1, 1) := by decide +kernel
theorem dX3_beginAt_5 : decode cX3_beginAt 5 = .ok (.aload_n 0, 1) := by decide +kernel
theorem dX3_beginAt_6 : decode cX3_beginAt 6 = .ok (.getfield 28, 3) := by decide +kernel
theorem dX3_beginAt_9 : decode cX3_beginAt 9 = .ok (.if_icmp .ge 12, 3) := by decide +kernel
theorem dX3_beginAt_12 : decode cX3_beginAt 12 = .ok (.aload_n 0, 1) := by decide +kernel
theorem dX3_beginAt_13 : decode cX3_beginAt 13 = .ok (.getfield 21, 3) := by decide +kernel
theorem dX3_beginAt_16 : decode cX3_beginAt 16 = .ok (.iload_n 1, 1) := by decide +kernel
theorem dX3_beginAt_17 : decode cX3_beginAt 17 = .ok (.iaload, 1) := by decide +kernel
theorem dX3_beginAt_18 : decode cX3_beginAt 18 = .ok (.goto 7, 3) := by decide +kernel
theorem dX3_beginAt_21 : decode cX3_beginAt 21 = .ok (.aload_n 0, 1) := by decide +kernel
theorem dX3_beginAt_22 : decode cX3_beginAt 22 = .ok (.getfield 24, 3) := by decide +kernel
theorem dX3_beginAt_25 : decode cX3_beginAt 25 = .ok (.ireturn, 1) := by decide +kernel
theorem dX3_wordAt_0 : decode cX3_wordAt 0 = .ok (.iload_n 1, 1) := by decide +kernel
theorem dX3_wordAt_1 : decode cX3_wordAt 1 = .ok (.ifCond .lt 25, 3) := by decide +kernel
theorem dX3_wordAt_4 : decode cX3_wordAt 4 = .ok (.iload_n 1, 1) := by decide +kernel
theorem dX3_wordAt_5 : decode cX3_wordAt 5 = .ok (.aload_n 0, 1) := by decide +kernel
theorem dX3_wordAt_6 : decode cX3_wordAt 6 = .ok (.getfield 28, 3) := by decide +kernel
theorem dX3_wordAt_9 : decode cX3_wordAt 9 = .ok (.if_icmp .ge 17, 3) := by decide +kernel
theorem dX3_wordAt_12 : decode cX3_wordAt 12 = .ok (.aload_n 0, 1) := by decide +kernel
theorem dX3_wordAt_13 : decode cX3_wordAt 13 = .ok (.getfield 15, 3) := by decide +kernel
theorem dX3_wordAt_16 : decode cX3_wordAt 16 = .ok (.iload_n 1, 1) := by decide +kernel
theorem dX3_wordAt_17 : decode cX3_wordAt 17 = .ok (.iaload, 1) := by decide +kernel
theorem dX3_wordAt_18 : decode cX3_wordAt 18 = .ok (.iconst 1, 1) := by decide +kernel
theorem dX3_wordAt_19 : decode cX3_wordAt 19 = .ok (.if_icmp .ne 7, 3) := by decide +kernel
theorem dX3_wordAt_22 : decode cX3_wordAt 22 = .ok (.iconst 1, 1) := by decide +kernel
theorem dX3_wordAt_23 : decode cX3_wordAt 23 = .ok (.goto 4, 3) := by decide +kernel
theorem dX3_wordAt_26 : decode cX3_wordAt 26 = .ok (.iconst 0, 1) := by decide +kernel
theorem dX3_wordAt_27 : decode cX3_wordAt 27 = .ok (.istore_n 2, 1) := by decide +kernel
theorem dX3_wordAt_28 : decode cX3_wordAt 28 = .ok (.iload_n 2, 1) := by decide +kernel
theorem dX3_wordAt_29 : decode cX3_wordAt 29 = .ok (.ifCond .eq 12, 3) := by decide +kernel
theorem dX3_wordAt_32 : decode cX3_wordAt 32 = .ok (.aload_n 0, 1) := by decide +kernel
theorem dX3_wordAt_33 : decode cX3_wordAt 33 = .ok (.getfield 18, 3) := by decide +kernel
theorem dX3_wordAt_36 : decode cX3_wordAt 36 = .ok (.iload_n 1, 1) := by decide +kernel
theorem dX3_wordAt_37 : decode cX3_wordAt 37 = .ok (.iaload, 1) := by decide +kernel
theorem dX3_wordAt_38 : decode cX3_wordAt 38 = .ok (.goto 4, 3) := by decide +kernel
theorem dX3_wordAt_41 : decode cX3_wordAt 41 = .ok (.iconst (-1), 1) := by decide +kernel
theorem dX3_wordAt_42 : decode cX3_wordAt 42 = .ok (.ireturn, 1) := by decide +kernel
theorem dX3_numberAt_0 : decode cX3_numberAt 0 = .ok (.iload_n 1, 1) := by decide +kernel
theorem dX3_numberAt_1 : decode cX3_numberAt 1 = .ok (.ifCond .lt 25, 3) := by decide +kernel
theorem dX3_numberAt_4 : decode cX3_numberAt 4 = .ok (.iload_n 1, 1) := by decide +kernel
theorem dX3_numberAt_5 : decode cX3_numberAt 5 = .ok (.aload_n 0, 1) := by decide +kernel
theorem dX3_numberAt_6 : decode cX3_numberAt 6 = .ok (.getfield 28, 3) := by decide +kernel
theorem dX3_numberAt_9 : decode cX3_numberAt 9 = .ok (.if_icmp .ge 17, 3) := by decide +kernel
theorem dX3_numberAt_12 : decode cX3_numberAt 12 = .ok (.aload_n 0, 1) := by decide +kernel
theorem dX3_numberAt_13 : decode cX3_numberAt 13 = .ok (.getfield 15, 3) := by decide +kernel
theorem dX3_numberAt_16 : decode cX3_numberAt 16 = .ok (.iload_n 1, 1) := by decide +kernel
theorem dX3_numberAt_17 : decode cX3_numberAt 17 = .ok (.iaload, 1) := by decide +kernel
theorem dX3_numberAt_18 : decode cX3_numberAt 18 = .ok (.iconst 2, 1) := by decide +kernel
theorem dX3_numberAt_19 : decode cX3_numberAt 19 = .ok (.if_icmp .ne 7, 3) := by decide +kernel
theorem dX3_numberAt_22 : decode cX3_numberAt 22 = .ok (.iconst 1, 1) := by decide +kernel
theorem dX3_numberAt_23 : decode cX3_numberAt 23 = .ok (.goto 4, 3) := by decide +kernel
theorem dX3_numberAt_26 : decode cX3_numberAt 26 = .ok (.iconst 0, 1) := by decide +kernel
theorem dX3_numberAt_27 : decode cX3_numberAt 27 = .ok (.istore_n 2, 1) := by decide +kernel
theorem dX3_numberAt_28 : decode cX3_numberAt 28 = .ok (.iload_n 2, 1) := by decide +kernel
theorem dX3_numberAt_29 : decode cX3_numberAt 29 = .ok (.ifCond .eq 12, 3) := by decide +kernel
theorem dX3_numberAt_32 : decode cX3_numberAt 32 = .ok (.aload_n 0, 1) := by decide +kernel
theorem dX3_numberAt_33 : decode cX3_numberAt 33 = .ok (.getfield 18, 3) := by decide +kernel
theorem dX3_numberAt_36 : decode cX3_numberAt 36 = .ok (.iload_n 1, 1) := by decide +kernel
theorem dX3_numberAt_37 : decode cX3_numberAt 37 = .ok (.iaload, 1) := by decide +kernel
theorem dX3_numberAt_38 : decode cX3_numberAt 38 = .ok (.goto 4, 3) := by decide +kernel
theorem dX3_numberAt_41 : decode cX3_numberAt 41 = .ok (.iconst (-1), 1) := by decide +kernel
theorem dX3_numberAt_42 : decode cX3_numberAt 42 = .ok (.ireturn, 1) := by decide +kernel
theorem dX3_addToken_0 : decode cX3_addToken 0 = .ok (.aload_n 0, 1) := by decide +kernel
theorem dX3_addToken_1 : decode cX3_addToken 1 = .ok (.getfield 28, 3) := by decide +kernel
theorem dX3_addToken_4 : decode cX3_addToken 4 = .ok (.bipush 120, 2) := by decide +kernel
theorem dX3_addToken_6 : decode cX3_addToken 6 = .ok (.if_icmp .lt 4, 3) := by decide +kernel
theorem dX3_addToken_9 : decode cX3_addToken 9 = .ok (.return_, 1) := by decide +kernel
theorem dX3_addToken_10 : decode cX3_addToken 10 = .ok (.aload_n 0, 1) := by decide +kernel
theorem dX3_addToken_11 : decode cX3_addToken 11 = .ok (.getfield 15, 3) := by decide +kernel
theorem dX3_addToken_14 : decode cX3_addToken 14 = .ok (.aload_n 0, 1) := by decide +kernel
theorem dX3_addToken_15 : decode cX3_addToken 15 = .ok (.getfield 28, 3) := by decide +kernel
theorem dX3_addToken_18 : decode cX3_addToken 18 = .ok (.iload_n 1, 1) := by decide +kernel
theorem dX3_addToken_19 : decode cX3_addToken 19 = .ok (.iastore, 1) := by decide +kernel
theorem dX3_addToken_20 : decode cX3_addToken 20 = .ok (.aload_n 0, 1) := by decide +kernel
theorem dX3_addToken_21 : decode cX3_addToken 21 = .ok (.getfield 18, 3) := by decide +kernel
theorem dX3_addToken_24 : decode cX3_addToken 24 = .ok (.aload_n 0, 1) := by decide +kernel
theorem dX3_addToken_25 : decode cX3_addToken 25 = .ok (.getfield 28, 3) := by decide +kernel
theorem dX3_addToken_28 : decode cX3_addToken 28 = .ok (.iload_n 2, 1) := by decide +kernel
theorem dX3_addToken_29 : decode cX3_addToken 29 = .ok (.iastore, 1) := by decide +kernel
theorem dX3_addToken_30 : decode cX3_addToken 30 = .ok (.aload_n 0, 1) := by decide +kernel
theorem dX3_addToken_31 : decode cX3_addToken 31 = .ok (.getfield 21, 3) := by decide +kernel
theorem dX3_addToken_34 : decode cX3_addToken 34 = .ok (.aload_n 0, 1) := by decide +kernel
theorem dX3_addToken_35 : decode cX3_addToken 35 = .ok (.getfield 28, 3) := by decide +kernel
theorem dX3_addToken_38 : decode cX3_addToken 38 = .ok (.iload_n 3, 1) := by decide +kernel
theorem dX3_addToken_39 : decode cX3_addToken 39 = .ok (.iastore, 1) := by decide +kernel
theorem dX3_addToken_40 : decode cX3_addToken 40 = .ok (.aload_n 0, 1) := by decide +kernel
theorem dX3_addToken_41 : decode cX3_addToken 41 = .ok (.dup, 1) := by decide +kernel
theorem dX3_addToken_42 : decode cX3_addToken 42 = .ok (.getfield 28, 3) := by decide +kernel
theorem dX3_addToken_45 : decode cX3_addToken 45 = .ok (.iconst 1, 1) := by decide +kernel
theorem dX3_addToken_46 : decode cX3_addToken 46 = .ok (.iadd, 1) := by decide +kernel
theorem dX3_addToken_47 : decode cX3_addToken 47 = .ok (.putfield 28, 3) := by decide +kernel
theorem dX3_addToken_50 : decode cX3_addToken 50 = .ok (.return_, 1) := by decide +kernel
theorem dX3_endOf_0 : decode cX3_endOf 0 = .ok (.aload_n 0, 1) := by decide +kernel
theorem dX3_endOf_1 : decode cX3_endOf 1 = .ok (.getfield 11, 3) := by decide +kernel
theorem dX3_endOf_4 : decode cX3_endOf 4 = .ok (.iload_n 1, 1) := by decide +kernel
theorem dX3_endOf_5 : decode cX3_endOf 5 = .ok (.iaload, 1) := by decide +kernel
theorem dX3_endOf_6 : decode cX3_endOf 6 = .ok (.invokestatic 35, 3) := by decide +kernel
theorem dX3_endOf_9 : decode cX3_endOf 9 = .ok (.istore_n 2, 1) := by decide +kernel
theorem dX3_endOf_10 : decode cX3_endOf 10 = .ok (.iload_n 1, 1) := by decide +kernel
theorem dX3_endOf_11 : decode cX3_endOf 11 = .ok (.iconst 1, 1) := by decide +kernel
theorem dX3_endOf_12 : decode cX3_endOf 12 = .ok (.iadd, 1) := by decide +kernel
theorem dX3_endOf_13 : decode cX3_endOf 13 = .ok (.istore_n 3, 1) := by decide +kernel
theorem dX3_endOf_14 : decode cX3_endOf 14 = .ok (.iload_n 2, 1) := by decide +kernel
theorem dX3_endOf_15 : decode cX3_endOf 15 = .ok (.iconst 1, 1) := by decide +kernel
theorem dX3_endOf_16 : decode cX3_endOf 16 = .ok (.if_icmp .eq 8, 3) := by decide +kernel
theorem dX3_endOf_19 : decode cX3_endOf 19 = .ok (.iload_n 2, 1) := by decide +kernel
theorem dX3_endOf_20 : decode cX3_endOf 20 = .ok (.iconst 2, 1) := by decide +kernel
theorem dX3_endOf_21 : decode cX3_endOf 21 = .ok (.if_icmp .ne 30, 3) := by decide +kernel
theorem dX3_endOf_24 : decode cX3_endOf 24 = .ok (.iload_n 3, 1) := by decide +kernel
theorem dX3_endOf_25 : decode cX3_endOf 25 = .ok (.aload_n 0, 1) := by decide +kernel
theorem dX3_endOf_26 : decode cX3_endOf 26 = .ok (.getfield 24, 3) := by decide +kernel
theorem dX3_endOf_29 : decode cX3_endOf 29 = .ok (.if_icmp .ge 22, 3) := by decide +kernel
theorem dX3_endOf_32 : decode cX3_endOf 32 = .ok (.aload_n 0, 1) := by decide +kernel
theorem dX3_endOf_33 : decode cX3_endOf 33 = .ok (.getfield 11, 3) := by decide +kernel
theorem dX3_endOf_36 : decode cX3_endOf 36 = .ok (.iload_n 3, 1) := by decide +kernel
theorem dX3_endOf_37 : decode cX3_endOf 37 = .ok (.iaload, 1) := by decide +kernel
theorem dX3_endOf_38 : decode cX3_endOf 38 = .ok (.invokestatic 35, 3) := by decide +kernel
theorem dX3_endOf_41 : decode cX3_endOf 41 = .ok (.iload_n 2, 1) := by decide +kernel
theorem dX3_endOf_42 : decode cX3_endOf 42 = .ok (.if_icmp .ne 9, 3) := by decide +kernel
theorem dX3_endOf_45 : decode cX3_endOf 45 = .ok (.iinc 3 1, 3) := by decide +kernel
theorem dX3_endOf_48 : decode cX3_endOf 48 = .ok (.goto (-24), 3) := by decide +kernel
theorem dX3_endOf_51 : decode cX3_endOf 51 = .ok (.iload_n 3, 1) := by decide +kernel
theorem dX3_endOf_52 : decode cX3_endOf 52 = .ok (.ireturn, 1) := by decide +kernel
theorem dX3_kindOf_0 : decode cX3_kindOf 0 = .ok (.iload_n 0, 1) := by decide +kernel
theorem dX3_kindOf_1 : decode cX3_kindOf 1 = .ok (.bipush 97, 2) := by decide +kernel
theorem dX3_kindOf_3 : decode cX3_kindOf 3 = .ok (.if_icmp .lt 11, 3) := by decide +kernel
theorem dX3_kindOf_6 : decode cX3_kindOf 6 = .ok (.iload_n 0, 1) := by decide +kernel
theorem dX3_kindOf_7 : decode cX3_kindOf 7 = .ok (.bipush 122, 2) := by decide +kernel
theorem dX3_kindOf_9 : decode cX3_kindOf 9 = .ok (.if_icmp .gt 5, 3) := by decide +kernel
theorem dX3_kindOf_12 : decode cX3_kindOf 12 = .ok (.iconst 1, 1) := by decide +kernel
theorem dX3_kindOf_13 : decode cX3_kindOf 13 = .ok (.ireturn, 1) := by decide +kernel
theorem dX3_kindOf_14 : decode cX3_kindOf 14 = .ok (.iload_n 0, 1) := by decide +kernel
theorem dX3_kindOf_15 : decode cX3_kindOf 15 = .ok (.bipush 48, 2) := by decide +kernel
theorem dX3_kindOf_17 : decode cX3_kindOf 17 = .ok (.if_icmp .lt 11, 3) := by decide +kernel
theorem dX3_kindOf_20 : decode cX3_kindOf 20 = .ok (.iload_n 0, 1) := by decide +kernel
theorem dX3_kindOf_21 : decode cX3_kindOf 21 = .ok (.bipush 57, 2) := by decide +kernel
theorem dX3_kindOf_23 : decode cX3_kindOf 23 = .ok (.if_icmp .gt 5, 3) := by decide +kernel
theorem dX3_kindOf_26 : decode cX3_kindOf 26 = .ok (.iconst 2, 1) := by decide +kernel
theorem dX3_kindOf_27 : decode cX3_kindOf 27 = .ok (.ireturn, 1) := by decide +kernel
theorem dX3_kindOf_28 : decode cX3_kindOf 28 = .ok (.iload_n 0, 1) := by decide +kernel
theorem dX3_kindOf_29 : decode cX3_kindOf 29 = .ok (.bipush 59, 2) := by decide +kernel
theorem dX3_kindOf_31 : decode cX3_kindOf 31 = .ok (.if_icmp .ne 5, 3) := by decide +kernel
theorem dX3_kindOf_34 : decode cX3_kindOf 34 = .ok (.iconst 3, 1) := by decide +kernel
theorem dX3_kindOf_35 : decode cX3_kindOf 35 = .ok (.ireturn, 1) := by decide +kernel
theorem dX3_kindOf_36 : decode cX3_kindOf 36 = .ok (.iload_n 0, 1) := by decide +kernel
theorem dX3_kindOf_37 : decode cX3_kindOf 37 = .ok (.bipush 32, 2) := by decide +kernel
theorem dX3_kindOf_39 : decode cX3_kindOf 39 = .ok (.if_icmp .ne 7, 3) := by decide +kernel
theorem dX3_kindOf_42 : decode cX3_kindOf 42 = .ok (.iconst 4, 1) := by decide +kernel
theorem dX3_kindOf_43 : decode cX3_kindOf 43 = .ok (.goto 4, 3) := by decide +kernel
theorem dX3_kindOf_46 : decode cX3_kindOf 46 = .ok (.iconst 5, 1) := by decide +kernel
theorem dX3_kindOf_47 : decode cX3_kindOf 47 = .ok (.ireturn, 1) := by decide +kernel
theorem dX3_valueOf_0 : decode cX3_valueOf 0 = .ok (.iload_n 1, 1) := by decide +kernel
theorem dX3_valueOf_1 : decode cX3_valueOf 1 = .ok (.lookupswitch 41 #[(1, 27), (2, 34)], 27) := by decide +kernel
theorem dX3_valueOf_28 : decode cX3_valueOf 28 = .ok (.aload_n 0, 1) := by decide +kernel
theorem dX3_valueOf_29 : decode cX3_valueOf 29 = .ok (.iload_n 2, 1) := by decide +kernel
theorem dX3_valueOf_30 : decode cX3_valueOf 30 = .ok (.iload_n 3, 1) := by decide +kernel
theorem dX3_valueOf_31 : decode cX3_valueOf 31 = .ok (.invokevirtual 46, 3) := by decide +kernel
theorem dX3_valueOf_34 : decode cX3_valueOf 34 = .ok (.ireturn, 1) := by decide +kernel
theorem dX3_valueOf_35 : decode cX3_valueOf 35 = .ok (.aload_n 0, 1) := by decide +kernel
theorem dX3_valueOf_36 : decode cX3_valueOf 36 = .ok (.iload_n 2, 1) := by decide +kernel
theorem dX3_valueOf_37 : decode cX3_valueOf 37 = .ok (.iload_n 3, 1) := by decide +kernel
theorem dX3_valueOf_38 : decode cX3_valueOf 38 = .ok (.invokevirtual 50, 3) := by decide +kernel
theorem dX3_valueOf_41 : decode cX3_valueOf 41 = .ok (.ireturn, 1) := by decide +kernel
theorem dX3_valueOf_42 : decode cX3_valueOf 42 = .ok (.iconst 0, 1) := by decide +kernel
theorem dX3_valueOf_43 : decode cX3_valueOf 43 = .ok (.ireturn, 1) := by decide +kernel
theorem dX3_wordIn_0 : decode cX3_wordIn 0 = .ok (.iconst 0, 1) := by decide +kernel
theorem dX3_wordIn_1 : decode cX3_wordIn 1 = .ok (.istore_n 3, 1) := by decide +kernel
theorem dX3_wordIn_2 : decode cX3_wordIn 2 = .ok (.iload_n 3, 1) := by decide +kernel
theorem dX3_wordIn_3 : decode cX3_wordIn 3 = .ok (.bipush 17, 2) := by decide +kernel
theorem dX3_wordIn_5 : decode cX3_wordIn 5 = .ok (.if_icmp .ge 24, 3) := by decide +kernel
theorem dX3_wordIn_8 : decode cX3_wordIn 8 = .ok (.aload_n 0, 1) := by decide +kernel
theorem dX3_wordIn_9 : decode cX3_wordIn 9 = .ok (.iload_n 3, 1) := by decide +kernel
theorem dX3_wordIn_10 : decode cX3_wordIn 10 = .ok (.invokestatic 55, 3) := by decide +kernel
theorem dX3_wordIn_13 : decode cX3_wordIn 13 = .ok (.iload_n 1, 1) := by decide +kernel
theorem dX3_wordIn_14 : decode cX3_wordIn 14 = .ok (.iload_n 2, 1) := by decide +kernel
theorem dX3_wordIn_15 : decode cX3_wordIn 15 = .ok (.invokevirtual 59, 3) := by decide +kernel
theorem dX3_wordIn_18 : decode cX3_wordIn 18 = .ok (.ifCond .eq 5, 3) := by decide +kernel
theorem dX3_wordIn_21 : decode cX3_wordIn 21 = .ok (.iload_n 3, 1) := by decide +kernel
theorem dX3_wordIn_22 : decode cX3_wordIn 22 = .ok (.ireturn, 1) := by decide +kernel
theorem dX3_wordIn_23 : decode cX3_wordIn 23 = .ok (.iinc 3 1, 3) := by decide +kernel
theorem dX3_wordIn_26 : decode cX3_wordIn 26 = .ok (.goto (-24), 3) := by decide +kernel
theorem dX3_wordIn_29 : decode cX3_wordIn 29 = .ok (.iconst (-1), 1) := by decide +kernel
theorem dX3_wordIn_30 : decode cX3_wordIn 30 = .ok (.ireturn, 1) := by decide +kernel
theorem dX3_isWordIn_0 : decode cX3_isWordIn 0 = .ok (.aload_n 1, 1) := by decide +kernel
theorem dX3_isWordIn_1 : decode cX3_isWordIn 1 = .ok (.invokevirtual 63, 3) := by decide +kernel
theorem dX3_isWordIn_4 : decode cX3_isWordIn 4 = .ok (.iload_n 3, 1) := by decide +kernel
theorem dX3_isWordIn_5 : decode cX3_isWordIn 5 = .ok (.iload_n 2, 1) := by decide +kernel
theorem dX3_isWordIn_6 : decode cX3_isWordIn 6 = .ok (.isub, 1) := by decide +kernel
theorem dX3_isWordIn_7 : decode cX3_isWordIn 7 = .ok (.if_icmp .eq 5, 3) := by decide +kernel
theorem dX3_isWordIn_10 : decode cX3_isWordIn 10 = .ok (.iconst 0, 1) := by decide +kernel
theorem dX3_isWordIn_11 : decode cX3_isWordIn 11 = .ok (.ireturn, 1) := by decide +kernel
theorem dX3_isWordIn_12 : decode cX3_isWordIn 12 = .ok (.iconst 0, 1) := by decide +kernel
theorem dX3_isWordIn_13 : decode cX3_isWordIn 13 = .ok (.istore 4, 2) := by decide +kernel
theorem dX3_isWordIn_15 : decode cX3_isWordIn 15 = .ok (.iload 4, 2) := by decide +kernel
theorem dX3_isWordIn_17 : decode cX3_isWordIn 17 = .ok (.iload_n 3, 1) := by decide +kernel
theorem dX3_isWordIn_18 : decode cX3_isWordIn 18 = .ok (.iload_n 2, 1) := by decide +kernel
theorem dX3_isWordIn_19 : decode cX3_isWordIn 19 = .ok (.isub, 1) := by decide +kernel
theorem dX3_isWordIn_20 : decode cX3_isWordIn 20 = .ok (.if_icmp .ge 29, 3) := by decide +kernel
theorem dX3_isWordIn_23 : decode cX3_isWordIn 23 = .ok (.aload_n 0, 1) := by decide +kernel
theorem dX3_isWordIn_24 : decode cX3_isWordIn 24 = .ok (.getfield 11, 3) := by decide +kernel
theorem dX3_isWordIn_27 : decode cX3_isWordIn 27 = .ok (.iload_n 2, 1) := by decide +kernel
theorem dX3_isWordIn_28 : decode cX3_isWordIn 28 = .ok (.iload 4, 2) := by decide +kernel
theorem dX3_isWordIn_30 : decode cX3_isWordIn 30 = .ok (.iadd, 1) := by decide +kernel
theorem dX3_isWordIn_31 : decode cX3_isWordIn 31 = .ok (.iaload, 1) := by decide +kernel
theorem dX3_isWordIn_32 : decode cX3_isWordIn 32 = .ok (.aload_n 1, 1) := by decide +kernel
theorem dX3_isWordIn_33 : decode cX3_isWordIn 33 = .ok (.iload 4, 2) := by decide +kernel
theorem dX3_isWordIn_35 : decode cX3_isWordIn 35 = .ok (.invokevirtual 68, 3) := by decide +kernel
theorem dX3_isWordIn_38 : decode cX3_isWordIn 38 = .ok (.if_icmp .eq 5, 3) := by decide +kernel
theorem dX3_isWordIn_41 : decode cX3_isWordIn 41 = .ok (.iconst 0, 1) := by decide +kernel
theorem dX3_isWordIn_42 : decode cX3_isWordIn 42 = .ok (.ireturn, 1) := by decide +kernel
theorem dX3_isWordIn_43 : decode cX3_isWordIn 43 = .ok (.iinc 4 1, 3) := by decide +kernel
theorem dX3_isWordIn_46 : decode cX3_isWordIn 46 = .ok (.goto (-31), 3) := by decide +kernel
theorem dX3_isWordIn_49 : decode cX3_isWordIn 49 = .ok (.iconst 1, 1) := by decide +kernel
theorem dX3_isWordIn_50 : decode cX3_isWordIn 50 = .ok (.ireturn, 1) := by decide +kernel
theorem dX3_numberIn_0 : decode cX3_numberIn 0 = .ok (.iconst 0, 1) := by decide +kernel
theorem dX3_numberIn_1 : decode cX3_numberIn 1 = .ok (.istore_n 3, 1) := by decide +kernel
theorem dX3_numberIn_2 : decode cX3_numberIn 2 = .ok (.iload_n 1, 1) := by decide +kernel
theorem dX3_numberIn_3 : decode cX3_numberIn 3 = .ok (.istore 4, 2) := by decide +kernel
theorem dX3_numberIn_5 : decode cX3_numberIn 5 = .ok (.iload 4, 2) := by decide +kernel
theorem dX3_numberIn_7 : decode cX3_numberIn 7 = .ok (.iload_n 2, 1) := by decide +kernel
theorem dX3_numberIn_8 : decode cX3_numberIn 8 = .ok (.if_icmp .ge 31, 3) := by decide +kernel
theorem dX3_numberIn_11 : decode cX3_numberIn 11 = .ok (.iload_n 3, 1) := by decide +kernel
theorem dX3_numberIn_12 : decode cX3_numberIn 12 = .ok (.bipush 10, 2) := by decide +kernel
theorem dX3_numberIn_14 : decode cX3_numberIn 14 = .ok (.imul, 1) := by decide +kernel
theorem dX3_numberIn_15 : decode cX3_numberIn 15 = .ok (.aload_n 0, 1) := by decide +kernel
theorem dX3_numberIn_16 : decode cX3_numberIn 16 = .ok (.getfield 11, 3) := by decide +kernel
theorem dX3_numberIn_19 : decode cX3_numberIn 19 = .ok (.iload 4, 2) := by decide +kernel
theorem dX3_numberIn_21 : decode cX3_numberIn 21 = .ok (.iaload, 1) := by decide +kernel
theorem dX3_numberIn_22 : decode cX3_numberIn 22 = .ok (.iadd, 1) := by decide +kernel
theorem dX3_numberIn_23 : decode cX3_numberIn 23 = .ok (.bipush 48, 2) := by decide +kernel
theorem dX3_numberIn_25 : decode cX3_numberIn 25 = .ok (.isub, 1) := by decide +kernel
theorem dX3_numberIn_26 : decode cX3_numberIn 26 = .ok (.sipush 1000, 3) := by decide +kernel
theorem dX3_numberIn_29 : decode cX3_numberIn 29 = .ok (.invokestatic 72, 3) := by decide +kernel
theorem dX3_numberIn_32 : decode cX3_numberIn 32 = .ok (.istore_n 3, 1) := by decide +kernel
theorem dX3_numberIn_33 : decode cX3_numberIn 33 = .ok (.iinc 4 1, 3) := by decide +kernel
theorem dX3_numberIn_36 : decode cX3_numberIn 36 = .ok (.goto (-31), 3) := by decide +kernel
theorem dX3_numberIn_39 : decode cX3_numberIn 39 = .ok (.iload_n 3, 1) := by decide +kernel
theorem dX3_numberIn_40 : decode cX3_numberIn 40 = .ok (.ireturn, 1) := by decide +kernel
theorem dX4_init_0 : decode cX4_init 0 = .ok (.aload_n 0, 1) := by decide +kernel
theorem dX4_init_1 : decode cX4_init 1 = .ok (.invokespecial 5, 3) := by decide +kernel
theorem dX4_init_4 : decode cX4_init 4 = .ok (.aload_n 0, 1) := by decide +kernel
theorem dX4_init_5 : decode cX4_init 5 = .ok (.bipush 120, 2) := by decide +kernel
theorem dX4_init_7 : decode cX4_init 7 = .ok (.newarray .int, 2) := by decide +kernel
theorem dX4_init_9 : decode cX4_init 9 = .ok (.putfield 13, 3) := by decide +kernel
theorem dX4_init_12 : decode cX4_init 12 = .ok (.aload_n 0, 1) := by decide +kernel
theorem dX4_init_13 : decode cX4_init 13 = .ok (.aload_n 1, 1) := by decide +kernel
theorem dX4_init_14 : decode cX4_init 14 = .ok (.putfield 17, 3) := by decide +kernel
theorem dX4_init_17 : decode cX4_init 17 = .ok (.return_, 1) := by decide +kernel
theorem dX4_parse_0 : decode cX4_parse 0 = .ok (.aload_n 0, 1) := by decide +kernel
theorem dX4_parse_1 : decode cX4_parse 1 = .ok (.iload_n 1, 1) := by decide +kernel
theorem dX4_parse_2 : decode cX4_parse 2 = .ok (.putfield 21, 3) := by decide +kernel
theorem dX4_parse_5 : decode cX4_parse 5 = .ok (.aload_n 0, 1) := by decide +kernel
theorem dX4_parse_6 : decode cX4_parse 6 = .ok (.iload_n 2, 1) := by decide +kernel
theorem dX4_parse_7 : decode cX4_parse 7 = .ok (.putfield 25, 3) := by decide +kernel
theorem dX4_parse_10 : decode cX4_parse 10 = .ok (.aload_n 0, 1) := by decide +kernel
theorem dX4_parse_11 : decode cX4_parse 11 = .ok (.iconst 0, 1) := by decide +kernel
theorem dX4_parse_12 : decode cX4_parse 12 = .ok (.putfield 28, 3) := by decide +kernel
theorem dX4_parse_15 : decode cX4_parse 15 = .ok (.aload_n 0, 1) := by decide +kernel
theorem dX4_parse_16 : decode cX4_parse 16 = .ok (.iconst 0, 1) := by decide +kernel
theorem dX4_parse_17 : decode cX4_parse 17 = .ok (.putfield 31, 3) := by decide +kernel
theorem dX4_parse_20 : decode cX4_parse 20 = .ok (.aload_n 0, 1) := by decide +kernel
theorem dX4_parse_21 : decode cX4_parse 21 = .ok (.iconst (-1), 1) := by decide +kernel
theorem dX4_parse_22 : decode cX4_parse 22 = .ok (.putfield 34, 3) := by decide +kernel
theorem dX4_parse_25 : decode cX4_parse 25 = .ok (.aload_n 0, 1) := by decide +kernel
theorem dX4_parse_26 : decode cX4_parse 26 = .ok (.getfield 17, 3) := by decide +kernel
theorem dX4_parse_29 : decode cX4_parse 29 = .ok (.invokevirtual 37, 3) := by decide +kernel
theorem dX4_parse_32 : decode cX4_parse 32 = .ok (.iconst 1, 1) := by decide +kernel
theorem dX4_parse_33 : decode cX4_parse 33 = .ok (.istore_n 3, 1) := by decide +kernel
theorem dX4_parse_34 : decode cX4_parse 34 = .ok (.iconst 0, 1) := by decide +kernel
theorem dX4_parse_35 : decode cX4_parse 35 = .ok (.istore 4, 2) := by decide +kernel
theorem dX4_parse_37 : decode cX4_parse 37 = .ok (.iload 4, 2) := by decide +kernel
theorem dX4_parse_39 : decode cX4_parse 39 = .ok (.bipush 120, 2) := by decide +kernel
theorem dX4_parse_41 : decode cX4_parse 41 = .ok (.if_icmp .gt 53, 3) := by decide +kernel
theorem dX4_parse_44 : decode cX4_parse 44 = .ok (.iload_n 3, 1) := by decide +kernel
theorem dX4_parse_45 : decode cX4_parse 45 = .ok (.ifCond .eq 49, 3) := by decide +kernel
theorem dX4_parse_48 : decode cX4_parse 48 = .ok (.aload_n 0, 1) := by decide +kernel
theorem dX4_parse_49 : decode cX4_parse 49 = .ok (.invokevirtual 40, 3) := by decide +kernel
theorem dX4_parse_52 : decode cX4_parse 52 = .ok (.aload_n 0, 1) := by decide +kernel
theorem dX4_parse_53 : decode cX4_parse 53 = .ok (.getfield 34, 3) := by decide +kernel
theorem dX4_parse_56 : decode cX4_parse 56 = .ok (.iconst (-1), 1) := by decide +kernel
theorem dX4_parse_57 : decode cX4_parse 57 = .ok (.if_icmp .ne 21, 3) := by decide +kernel
theorem dX4_parse_60 : decode cX4_parse 60 = .ok (.aload_n 0, 1) := by decide +kernel
theorem dX4_parse_61 : decode cX4_parse 61 = .ok (.getfield 17, 3) := by decide +kernel
theorem dX4_parse_64 : decode cX4_parse 64 = .ok (.aload_n 0, 1) := by decide +kernel
theorem dX4_parse_65 : decode cX4_parse 65 = .ok (.getfield 31, 3) := by decide +kernel
theorem dX4_parse_68 : decode cX4_parse 68 = .ok (.invokevirtual 43, 3) := by decide +kernel
theorem dX4_parse_71 : decode cX4_parse 71 = .ok (.ifCond .eq 7, 3) := by decide +kernel
theorem dX4_parse_74 : decode cX4_parse 74 = .ok (.iconst 1, 1) := by decide +kernel
theorem dX4_parse_75 : decode cX4_parse 75 = .ok (.goto 4, 3) := by decide +kernel
theorem dX4_parse_78 : decode cX4_parse 78 = .ok (.iconst 0, 1) := by decide +kernel
theorem dX4_parse_79 : decode cX4_parse 79 = .ok (.istore_n 3, 1) := by decide +kernel
theorem dX4_parse_80 : decode cX4_parse 80 = .ok (.iload_n 3, 1) := by decide +kernel
theorem dX4_parse_81 : decode cX4_parse 81 = .ok (.ifCond .eq 7, 3) := by decide +kernel
theorem dX4_parse_84 : decode cX4_parse 84 = .ok (.aload_n 0, 1) := by decide +kernel
theorem dX4_parse_85 : decode cX4_parse 85 = .ok (.invokevirtual 47, 3) := by decide +kernel
theorem dX4_parse_88 : decode cX4_parse 88 = .ok (.iinc 4 1, 3) := by decide +kernel
theorem dX4_parse_91 : decode cX4_parse 91 = .ok (.goto (-54), 3) := by decide +kernel
theorem dX4_parse_94 : decode cX4_parse 94 = .ok (.aload_n 0, 1) := by decide +kernel
theorem dX4_parse_95 : decode cX4_parse 95 = .ok (.getfield 34, 3) := by decide +kernel
theorem dX4_parse_98 : decode cX4_parse 98 = .ok (.iconst (-1), 1) := by decide +kernel
theorem dX4_parse_99 : decode cX4_parse 99 = .ok (.if_icmp .ne 7, 3) := by decide +kernel
theorem dX4_parse_102 : decode cX4_parse 102 = .ok (.iconst (-1), 1) := by decide +kernel
theorem dX4_parse_103 : decode cX4_parse 103 = .ok (.goto 14, 3) := by decide +kernel
theorem dX4_parse_106 : decode cX4_parse 106 = .ok (.aload_n 0, 1) := by decide +kernel
theorem dX4_parse_107 : decode cX4_parse 107 = .ok (.getfield 17, 3) := by decide +kernel
theorem dX4_parse_110 : decode cX4_parse 110 = .ok (.aload_n 0, 1) := by decide +kernel
theorem dX4_parse_111 : decode cX4_parse 111 = .ok (.getfield 34, 3) := by decide +kernel
theorem dX4_parse_114 : decode cX4_parse 114 = .ok (.invokevirtual 50, 3) := by decide +kernel
theorem dX4_parse_117 : decode cX4_parse 117 = .ok (.ireturn, 1) := by decide +kernel
theorem dX4_parseItem_0 : decode cX4_parseItem 0 = .ok (.aload_n 0, 1) := by decide +kernel
theorem dX4_parseItem_1 : decode cX4_parseItem 1 = .ok (.getfield 17, 3) := by decide +kernel
theorem dX4_parseItem_4 : decode cX4_parseItem 4 = .ok (.aload_n 0, 1) := by decide +kernel
theorem dX4_parseItem_5 : decode cX4_parseItem 5 = .ok (.getfield 31, 3) := by decide +kernel
theorem dX4_parseItem_8 : decode cX4_parseItem 8 = .ok (.invokevirtual 53, 3) := by decide +kernel
theorem dX4_parseItem_11 : decode cX4_parseItem 11 = .ok (.istore_n 1, 1) := by decide +kernel
theorem dX4_parseItem_12 : decode cX4_parseItem 12 = .ok (.iload_n 1, 1) := by decide +kernel
theorem dX4_parseItem_13 : decode cX4_parseItem 13 = .ok (.tableswitch 92 7 12 #[39, 46, 54, 62, 72, 82], 39) := by decide +kernel
theorem dX4_parseItem_52 : decode cX4_parseItem 52 = .ok (.aload_n 0, 1) := by decide +kernel
theorem dX4_parseItem_53 : decode cX4_parseItem 53 = .ok (.invokevirtual 56, 3) := by decide +kernel
theorem dX4_parseItem_56 : decode cX4_parseItem 56 = .ok (.goto 68, 3) := by decide +kernel
theorem dX4_parseItem_59 : decode cX4_parseItem 59 = .ok (.aload_n 0, 1) := by decide +kernel
theorem dX4_parseItem_60 : decode cX4_parseItem 60 = .ok (.iconst 1, 1) := by decide +kernel
theorem dX4_parseItem_61 : decode cX4_parseItem 61 = .ok (.invokevirtual 59, 3) := by decide +kernel
theorem dX4_parseItem_64 : decode cX4_parseItem 64 = .ok (.goto 60, 3) := by decide +kernel
theorem dX4_parseItem_67 : decode cX4_parseItem 67 = .ok (.aload_n 0, 1) := by decide +kernel
theorem dX4_parseItem_68 : decode cX4_parseItem 68 = .ok (.iconst 0, 1) := by decide +kernel
theorem dX4_parseItem_69 : decode cX4_parseItem 69 = .ok (.invokevirtual 59, 3) := by decide +kernel
theorem dX4_parseItem_72 : decode cX4_parseItem 72 = .ok (.goto 52, 3) := by decide +kernel
theorem dX4_parseItem_75 : decode cX4_parseItem 75 = .ok (.aload_n 0, 1) := by decide +kernel
theorem dX4_parseItem_76 : decode cX4_parseItem 76 = .ok (.iconst 0, 1) := by decide +kernel
theorem dX4_parseItem_77 : decode cX4_parseItem 77 = .ok (.bipush 7, 2) := by decide +kernel
theorem dX4_parseItem_79 : decode cX4_parseItem 79 = .ok (.invokevirtual 63, 3) := by decide +kernel
theorem dX4_parseItem_82 : decode cX4_parseItem 82 = .ok (.goto 42, 3) := by decide +kernel
theorem dX4_parseItem_85 : decode cX4_parseItem 85 = .ok (.aload_n 0, 1) := by decide +kernel
theorem dX4_parseItem_86 : decode cX4_parseItem 86 = .ok (.iconst 1, 1) := by decide +kernel
theorem dX4_parseItem_87 : decode cX4_parseItem 87 = .ok (.bipush 7, 2) := by decide +kernel
theorem dX4_parseItem_89 : decode cX4_parseItem 89 = .ok (.invokevirtual 63, 3) := by decide +kernel
theorem dX4_parseItem_92 : decode cX4_parseItem 92 = .ok (.goto 32, 3) := by decide +kernel
theorem dX4_parseItem_95 : decode cX4_parseItem 95 = .ok (.aload_n 0, 1) := by decide +kernel
theorem dX4_parseItem_96 : decode cX4_parseItem 96 = .ok (.iconst 2, 1) := by decide +kernel
theorem dX4_parseItem_97 : decode cX4_parseItem 97 = .ok (.bipush 100, 2) := by decide +kernel
theorem dX4_parseItem_99 : decode cX4_parseItem 99 = .ok (.invokevirtual 63, 3) := by decide +kernel
theorem dX4_parseItem_102 : decode cX4_parseItem 102 = .ok (.goto 22, 3) := by decide +kernel
theorem dX4_parseItem_105 : decode cX4_parseItem 105 = .ok (.iload_n 1, 1) := by decide +kernel
theorem dX4_parseItem_106 : decode cX4_parseItem 106 = .ok (.invokestatic 67, 3) := by decide +kernel
theorem dX4_parseItem_109 : decode cX4_parseItem 109 = .ok (.ifCond .eq 11, 3) := by decide +kernel
theorem dX4_parseItem_112 : decode cX4_parseItem 112 = .ok (.aload_n 0, 1) := by decide +kernel
theorem dX4_parseItem_113 : decode cX4_parseItem 113 = .ok (.iload_n 1, 1) := by decide +kernel
theorem dX4_parseItem_114 : decode cX4_parseItem 114 = .ok (.invokevirtual 71, 3) := by decide +kernel
theorem dX4_parseItem_117 : decode cX4_parseItem 117 = .ok (.goto 7, 3) := by decide +kernel
theorem dX4_parseItem_120 : decode cX4_parseItem 120 = .ok (.aload_n 0, 1) := by decide +kernel
theorem dX4_parseItem_121 : decode cX4_parseItem 121 = .ok (.invokevirtual 74, 3) := by decide +kernel
theorem dX4_parseItem_124 : decode cX4_parseItem 124 = .ok (.return_, 1) := by decide +kernel
theorem dX4_parseThing_0 : decode cX4_parseThing 0 = .ok (.aload_n 0, 1) := by decide +kernel
theorem dX4_parseThing_1 : decode cX4_parseThing 1 = .ok (.getfield 21, 3) := by decide +kernel
theorem dX4_parseThing_4 : decode cX4_parseThing 4 = .ok (.bipush 8, 2) := by decide +kernel
theorem dX4_parseThing_6 : decode cX4_parseThing 6 = .ok (.if_icmp .lt 8, 3) := by decide +kernel
theorem dX4_parseThing_9 : decode cX4_parseThing 9 = .ok (.aload_n 0, 1) := by decide +kernel
theorem dX4_parseThing_10 : decode cX4_parseThing 10 = .ok (.invokevirtual 74, 3) := by decide +kernel
theorem dX4_parseThing_13 : decode cX4_parseThing 13 = .ok (.return_, 1) := by decide +kernel
theorem dX4_parseThing_14 : decode cX4_parseThing 14 = .ok (.aload_n 0, 1) := by decide +kernel
theorem dX4_parseThing_15 : decode cX4_parseThing 15 = .ok (.dup, 1) := by decide +kernel
theorem dX4_parseThing_16 : decode cX4_parseThing 16 = .ok (.getfield 21, 3) := by decide +kernel
theorem dX4_parseThing_19 : decode cX4_parseThing 19 = .ok (.iconst 1, 1) := by decide +kernel
theorem dX4_parseThing_20 : decode cX4_parseThing 20 = .ok (.iadd, 1) := by decide +kernel
theorem dX4_parseThing_21 : decode cX4_parseThing 21 = .ok (.putfield 21, 3) := by decide +kernel
theorem dX4_parseThing_24 : decode cX4_parseThing 24 = .ok (.aload_n 0, 1) := by decide +kernel
theorem dX4_parseThing_25 : decode cX4_parseThing 25 = .ok (.dup, 1) := by decide +kernel
theorem dX4_parseThing_26 : decode cX4_parseThing 26 = .ok (.getfield 31, 3) := by decide +kernel
theorem dX4_parseThing_29 : decode cX4_parseThing 29 = .ok (.iconst 1, 1) := by decide +kernel
theorem dX4_parseThing_30 : decode cX4_parseThing 30 = .ok (.iadd, 1) := by decide +kernel
theorem dX4_parseThing_31 : decode cX4_parseThing 31 = .ok (.putfield 31, 3) := by decide +kernel
theorem dX4_parseThing_34 : decode cX4_parseThing 34 = .ok (.aload_n 0, 1) := by decide +kernel
theorem dX4_parseThing_35 : decode cX4_parseThing 35 = .ok (.bipush 13, 2) := by decide +kernel
theorem dX4_parseThing_37 : decode cX4_parseThing 37 = .ok (.iconst 0, 1) := by decide +kernel
theorem dX4_parseThing_38 : decode cX4_parseThing 38 = .ok (.bipush 7, 2) := by decide +kernel
theorem dX4_parseThing_40 : decode cX4_parseThing 40 = .ok (.iconst 0, 1) := by decide +kernel
theorem dX4_parseThing_41 : decode cX4_parseThing 41 = .ok (.invokevirtual 79, 3) := by decide +kernel
theorem dX4_parseThing_44 : decode cX4_parseThing 44 = .ok (.istore_n 2, 1) := by decide +kernel
theorem dX4_parseThing_45 : decode cX4_parseThing 45 = .ok (.aload_n 0, 1) := by decide +kernel
theorem dX4_parseThing_46 : decode cX4_parseThing 46 = .ok (.bipush 14, 2) := by decide +kernel
theorem dX4_parseThing_48 : decode cX4_parseThing 48 = .ok (.iconst 1, 1) := by decide +kernel
theorem dX4_parseThing_49 : decode cX4_parseThing 49 = .ok (.bipush 60, 2) := by decide +kernel
theorem dX4_parseThing_51 : decode cX4_parseThing 51 = .ok (.bipush 8, 2) := by decide +kernel
theorem dX4_parseThing_53 : decode cX4_parseThing 53 = .ok (.invokevirtual 79, 3) := by decide +kernel
theorem dX4_parseThing_56 : decode cX4_parseThing 56 = .ok (.istore_n 3, 1) := by decide +kernel
theorem dX4_parseThing_57 : decode cX4_parseThing 57 = .ok (.aload_n 0, 1) := by decide +kernel
theorem dX4_parseThing_58 : decode cX4_parseThing 58 = .ok (.iconst 0, 1) := by decide +kernel
theorem dX4_parseThing_59 : decode cX4_parseThing 59 = .ok (.iload_n 1, 1) := by decide +kernel
theorem dX4_parseThing_60 : decode cX4_parseThing 60 = .ok (.iload_n 2, 1) := by decide +kernel
theorem dX4_parseThing_61 : decode cX4_parseThing 61 = .ok (.iload_n 3, 1) := by decide +kernel
theorem dX4_parseThing_62 : decode cX4_parseThing 62 = .ok (.invokevirtual 83, 3) := by decide +kernel
theorem dX4_parseThing_65 : decode cX4_parseThing 65 = .ok (.return_, 1) := by decide +kernel
theorem dX4_parseOne_0 : decode cX4_parseOne 0 = .ok (.aload_n 0, 1) := by decide +kernel
theorem dX4_parseOne_1 : decode cX4_parseOne 1 = .ok (.getfield 25, 3) := by decide +kernel
theorem dX4_parseOne_4 : decode cX4_parseOne 4 = .ok (.iconst 4, 1) := by decide +kernel
theorem dX4_parseOne_5 : decode cX4_parseOne 5 = .ok (.if_icmp .lt 8, 3) := by decide +kernel
theorem dX4_parseOne_8 : decode cX4_parseOne 8 = .ok (.aload_n 0, 1) := by decide +kernel
theorem dX4_parseOne_9 : decode cX4_parseOne 9 = .ok (.invokevirtual 74, 3) := by decide +kernel
theorem dX4_parseOne_12 : decode cX4_parseOne 12 = .ok (.return_, 1) := by decide +kernel
theorem dX4_parseOne_13 : decode cX4_parseOne 13 = .ok (.aload_n 0, 1) := by decide +kernel
theorem dX4_parseOne_14 : decode cX4_parseOne 14 = .ok (.dup, 1) := by decide +kernel
theorem dX4_parseOne_15 : decode cX4_parseOne 15 = .ok (.getfield 25, 3) := by decide +kernel
theorem dX4_parseOne_18 : decode cX4_parseOne 18 = .ok (.iconst 1, 1) := by decide +kernel
theorem dX4_parseOne_19 : decode cX4_parseOne 19 = .ok (.iadd, 1) := by decide +kernel
theorem dX4_parseOne_20 : decode cX4_parseOne 20 = .ok (.putfield 25, 3) := by decide +kernel
theorem dX4_parseOne_23 : decode cX4_parseOne 23 = .ok (.aload_n 0, 1) := by decide +kernel
theorem dX4_parseOne_24 : decode cX4_parseOne 24 = .ok (.dup, 1) := by decide +kernel
theorem dX4_parseOne_25 : decode cX4_parseOne 25 = .ok (.getfield 31, 3) := by decide +kernel
theorem dX4_parseOne_28 : decode cX4_parseOne 28 = .ok (.iconst 1, 1) := by decide +kernel
theorem dX4_parseOne_29 : decode cX4_parseOne 29 = .ok (.iadd, 1) := by decide +kernel
theorem dX4_parseOne_30 : decode cX4_parseOne 30 = .ok (.putfield 31, 3) := by decide +kernel
theorem dX4_parseOne_33 : decode cX4_parseOne 33 = .ok (.aload_n 0, 1) := by decide +kernel
theorem dX4_parseOne_34 : decode cX4_parseOne 34 = .ok (.bipush 13, 2) := by decide +kernel
theorem dX4_parseOne_36 : decode cX4_parseOne 36 = .ok (.iconst 0, 1) := by decide +kernel
theorem dX4_parseOne_37 : decode cX4_parseOne 37 = .ok (.bipush 7, 2) := by decide +kernel
theorem dX4_parseOne_39 : decode cX4_parseOne 39 = .ok (.iconst 0, 1) := by decide +kernel
theorem dX4_parseOne_40 : decode cX4_parseOne 40 = .ok (.invokevirtual 79, 3) := by decide +kernel
theorem dX4_parseOne_43 : decode cX4_parseOne 43 = .ok (.istore_n 1, 1) := by decide +kernel
theorem dX4_parseOne_44 : decode cX4_parseOne 44 = .ok (.aload_n 0, 1) := by decide +kernel
theorem dX4_parseOne_45 : decode cX4_parseOne 45 = .ok (.bipush 15, 2) := by decide +kernel
theorem dX4_parseOne_47 : decode cX4_parseOne 47 = .ok (.iconst 0, 1) := by decide +kernel
theorem dX4_parseOne_48 : decode cX4_parseOne 48 = .ok (.iconst 4, 1) := by decide +kernel
theorem dX4_parseOne_49 : decode cX4_parseOne 49 = .ok (.iconst 0, 1) := by decide +kernel
theorem dX4_parseOne_50 : decode cX4_parseOne 50 = .ok (.invokevirtual 79, 3) := by decide +kernel
theorem dX4_parseOne_53 : decode cX4_parseOne 53 = .ok (.istore_n 2, 1) := by decide +kernel
theorem dX4_parseOne_54 : decode cX4_parseOne 54 = .ok (.aload_n 0, 1) := by decide +kernel
theorem dX4_parseOne_55 : decode cX4_parseOne 55 = .ok (.bipush 16, 2) := by decide +kernel
theorem dX4_parseOne_57 : decode cX4_parseOne 57 = .ok (.iconst 0, 1) := by decide +kernel
theorem dX4_parseOne_58 : decode cX4_parseOne 58 = .ok (.bipush 60, 2) := by decide +kernel
theorem dX4_parseOne_60 : decode cX4_parseOne 60 = .ok (.bipush 10, 2) := by decide +kernel
theorem dX4_parseOne_62 : decode cX4_parseOne 62 = .ok (.invokevirtual 79, 3) := by decide +kernel
theorem dX4_parseOne_65 : decode cX4_parseOne 65 = .ok (.istore_n 3, 1) := by decide +kernel
theorem dX4_parseOne_66 : decode cX4_parseOne 66 = .ok (.aload_n 0, 1) := by decide +kernel
theorem dX4_parseOne_67 : decode cX4_parseOne 67 = .ok (.iconst 1, 1) := by decide +kernel
theorem dX4_parseOne_68 : decode cX4_parseOne 68 = .ok (.iload_n 2, 1) := by decide +kernel
theorem dX4_parseOne_69 : decode cX4_parseOne 69 = .ok (.bipush 8, 2) := by decide +kernel
theorem dX4_parseOne_71 : decode cX4_parseOne 71 = .ok (.imul, 1) := by decide +kernel
theorem dX4_parseOne_72 : decode cX4_parseOne 72 = .ok (.iload_n 1, 1) := by decide +kernel
theorem dX4_parseOne_73 : decode cX4_parseOne 73 = .ok (.iadd, 1) := by decide +kernel
theorem dX4_parseOne_74 : decode cX4_parseOne 74 = .ok (.iload_n 3, 1) := by decide +kernel
theorem dX4_parseOne_75 : decode cX4_parseOne 75 = .ok (.iconst 0, 1) := by decide +kernel
theorem dX4_parseOne_76 : decode cX4_parseOne 76 = .ok (.invokevirtual 83, 3) := by decide +kernel
theorem dX4_parseOne_79 : decode cX4_parseOne 79 = .ok (.return_, 1) := by decide +kernel
theorem dX4_parseDoor_0 : decode cX4_parseDoor 0 = .ok (.aload_n 0, 1) := by decide +kernel
theorem dX4_parseDoor_1 : decode cX4_parseDoor 1 = .ok (.dup, 1) := by decide +kernel
theorem dX4_parseDoor_2 : decode cX4_parseDoor 2 = .ok (.getfield 31, 3) := by decide +kernel
theorem dX4_parseDoor_5 : decode cX4_parseDoor 5 = .ok (.iconst 1, 1) := by decide +kernel
theorem dX4_parseDoor_6 : decode cX4_parseDoor 6 = .ok (.iadd, 1) := by decide +kernel
theorem dX4_parseDoor_7 : decode cX4_parseDoor 7 = .ok (.putfield 31, 3) := by decide +kernel
theorem dX4_parseDoor_10 : decode cX4_parseDoor 10 = .ok (.aload_n 0, 1) := by decide +kernel
theorem dX4_parseDoor_11 : decode cX4_parseDoor 11 = .ok (.iconst 0, 1) := by decide +kernel
theorem dX4_parseDoor_12 : decode cX4_parseDoor 12 = .ok (.bipush 7, 2) := by decide +kernel
theorem dX4_parseDoor_14 : decode cX4_parseDoor 14 = .ok (.iconst (-1), 1) := by decide +kernel
theorem dX4_parseDoor_15 : decode cX4_parseDoor 15 = .ok (.invokevirtual 87, 3) := by decide +kernel
theorem dX4_parseDoor_18 : decode cX4_parseDoor 18 = .ok (.istore_n 2, 1) := by decide +kernel
theorem dX4_parseDoor_19 : decode cX4_parseDoor 19 = .ok (.aload_n 0, 1) := by decide +kernel
theorem dX4_parseDoor_20 : decode cX4_parseDoor 20 = .ok (.iconst 0, 1) := by decide +kernel
theorem dX4_parseDoor_21 : decode cX4_parseDoor 21 = .ok (.bipush 7, 2) := by decide +kernel
theorem dX4_parseDoor_23 : decode cX4_parseDoor 23 = .ok (.iload_n 2, 1) := by decide +kernel
theorem dX4_parseDoor_24 : decode cX4_parseDoor 24 = .ok (.invokevirtual 87, 3) := by decide +kernel
theorem dX4_parseDoor_27 : decode cX4_parseDoor 27 = .ok (.istore_n 3, 1) := by decide +kernel
theorem dX4_parseDoor_28 : decode cX4_parseDoor 28 = .ok (.aload_n 0, 1) := by decide +kernel
theorem dX4_parseDoor_29 : decode cX4_parseDoor 29 = .ok (.iconst 2, 1) := by decide +kernel
theorem dX4_parseDoor_30 : decode cX4_parseDoor 30 = .ok (.iload_n 2, 1) := by decide +kernel
theorem dX4_parseDoor_31 : decode cX4_parseDoor 31 = .ok (.iload_n 3, 1) := by decide +kernel
theorem dX4_parseDoor_32 : decode cX4_parseDoor 32 = .ok (.iload_n 1, 1) := by decide +kernel
theorem dX4_parseDoor_33 : decode cX4_parseDoor 33 = .ok (.invokevirtual 83, 3) := by decide +kernel
theorem dX4_parseDoor_36 : decode cX4_parseDoor 36 = .ok (.return_, 1) := by decide +kernel
theorem dX4_parseRule_0 : decode cX4_parseRule 0 = .ok (.aload_n 0, 1) := by decide +kernel
theorem dX4_parseRule_1 : decode cX4_parseRule 1 = .ok (.dup, 1) := by decide +kernel
theorem dX4_parseRule_2 : decode cX4_parseRule 2 = .ok (.getfield 31, 3) := by decide +kernel
theorem dX4_parseRule_5 : decode cX4_parseRule 5 = .ok (.iconst 1, 1) := by decide +kernel
theorem dX4_parseRule_6 : decode cX4_parseRule 6 = .ok (.iadd, 1) := by decide +kernel
theorem dX4_parseRule_7 : decode cX4_parseRule 7 = .ok (.putfield 31, 3) := by decide +kernel
theorem dX4_parseRule_10 : decode cX4_parseRule 10 = .ok (.aload_n 0, 1) := by decide +kernel
theorem dX4_parseRule_11 : decode cX4_parseRule 11 = .ok (.iconst 0, 1) := by decide +kernel
theorem dX4_parseRule_12 : decode cX4_parseRule 12 = .ok (.iload_n 2, 1) := by decide +kernel
theorem dX4_parseRule_13 : decode cX4_parseRule 13 = .ok (.iconst (-1), 1) := by decide +kernel
theorem dX4_parseRule_14 : decode cX4_parseRule 14 = .ok (.invokevirtual 87, 3) := by decide +kernel
theorem dX4_parseRule_17 : decode cX4_parseRule 17 = .ok (.istore_n 3, 1) := by decide +kernel
theorem dX4_parseRule_18 : decode cX4_parseRule 18 = .ok (.aload_n 0, 1) := by decide +kernel
theorem dX4_parseRule_19 : decode cX4_parseRule 19 = .ok (.iconst 3, 1) := by decide +kernel
theorem dX4_parseRule_20 : decode cX4_parseRule 20 = .ok (.iload_n 1, 1) := by decide +kernel
theorem dX4_parseRule_21 : decode cX4_parseRule 21 = .ok (.iload_n 3, 1) := by decide +kernel
theorem dX4_parseRule_22 : decode cX4_parseRule 22 = .ok (.iconst 0, 1) := by decide +kernel
theorem dX4_parseRule_23 : decode cX4_parseRule 23 = .ok (.invokevirtual 83, 3) := by decide +kernel
theorem dX4_parseRule_26 : decode cX4_parseRule 26 = .ok (.return_, 1) := by decide +kernel
theorem dX4_takePerhaps_0 : decode cX4_takePerhaps 0 = .ok (.aload_n 0, 1) := by decide +kernel
theorem dX4_takePerhaps_1 : decode cX4_takePerhaps 1 = .ok (.getfield 17, 3) := by decide +kernel
theorem dX4_takePerhaps_4 : decode cX4_takePerhaps 4 = .ok (.aload_n 0, 1) := by decide +kernel
theorem dX4_takePerhaps_5 : decode cX4_takePerhaps 5 = .ok (.getfield 31, 3) := by decide +kernel
theorem dX4_takePerhaps_8 : decode cX4_takePerhaps 8 = .ok (.invokevirtual 53, 3) := by decide +kernel
theorem dX4_takePerhaps_11 : decode cX4_takePerhaps 11 = .ok (.iload_n 1, 1) := by decide +kernel
theorem dX4_takePerhaps_12 : decode cX4_takePerhaps 12 = .ok (.if_icmp .eq 6, 3) := by decide +kernel
theorem dX4_takePerhaps_15 : decode cX4_takePerhaps 15 = .ok (.iload 4, 2) := by decide +kernel
theorem dX4_takePerhaps_17 : decode cX4_takePerhaps 17 = .ok (.ireturn, 1) := by decide +kernel
theorem dX4_takePerhaps_18 : decode cX4_takePerhaps 18 = .ok (.aload_n 0, 1) := by decide +kernel
theorem dX4_takePerhaps_19 : decode cX4_takePerhaps 19 = .ok (.dup, 1) := by decide +kernel
theorem dX4_takePerhaps_20 : decode cX4_takePerhaps 20 = .ok (.getfield 31, 3) := by decide +kernel
theorem dX4_takePerhaps_23 : decode cX4_takePerhaps 23 = .ok (.iconst 1, 1) := by decide +kernel
theorem dX4_takePerhaps_24 : decode cX4_takePerhaps 24 = .ok (.iadd, 1) := by decide +kernel
theorem dX4_takePerhaps_25 : decode cX4_takePerhaps 25 = .ok (.putfield 31, 3) := by decide +kernel
theorem dX4_takePerhaps_28 : decode cX4_takePerhaps 28 = .ok (.aload_n 0, 1) := by decide +kernel
theorem dX4_takePerhaps_29 : decode cX4_takePerhaps 29 = .ok (.iload_n 2, 1) := by decide +kernel
theorem dX4_takePerhaps_30 : decode cX4_takePerhaps 30 = .ok (.iload_n 3, 1) := by decide +kernel
theorem dX4_takePerhaps_31 : decode cX4_takePerhaps 31 = .ok (.iconst (-1), 1) := by decide +kernel
theorem dX4_takePerhaps_32 : decode cX4_takePerhaps 32 = .ok (.invokevirtual 87, 3) := by decide +kernel
theorem dX4_takePerhaps_35 : decode cX4_takePerhaps 35 = .ok (.ireturn, 1) := by decide +kernel
theorem dX4_takeNumber_0 : decode cX4_takeNumber 0 = .ok (.aload_n 0, 1) := by decide +kernel
theorem dX4_takeNumber_1 : decode cX4_takeNumber 1 = .ok (.getfield 17, 3) := by decide +kernel
theorem dX4_takeNumber_4 : decode cX4_takeNumber 4 = .ok (.aload_n 0, 1) := by decide +kernel
theorem dX4_takeNumber_5 : decode cX4_takeNumber 5 = .ok (.getfield 31, 3) := by decide +kernel
theorem dX4_takeNumber_8 : decode cX4_takeNumber 8 = .ok (.invokevirtual 91, 3) := by decide +kernel
theorem dX4_takeNumber_11 : decode cX4_takeNumber 11 = .ok (.istore 4, 2) := by decide +kernel
theorem dX4_takeNumber_13 : decode cX4_takeNumber 13 = .ok (.iload 4, 2) := by decide +kernel
theorem dX4_takeNumber_15 : decode cX4_takeNumber 15 = .ok (.iload_n 1, 1) := by decide +kernel
theorem dX4_takeNumber_16 : decode cX4_takeNumber 16 = .ok (.iload_n 2, 1) := by decide +kernel
theorem dX4_takeNumber_17 : decode cX4_takeNumber 17 = .ok (.invokestatic 94, 3) := by decide +kernel
theorem dX4_takeNumber_20 : decode cX4_takeNumber 20 = .ok (.ifCond .eq 9, 3) := by decide +kernel
theorem dX4_takeNumber_23 : decode cX4_takeNumber 23 = .ok (.iload 4, 2) := by decide +kernel
theorem dX4_takeNumber_25 : decode cX4_takeNumber 25 = .ok (.iload_n 3, 1) := by decide +kernel
theorem dX4_takeNumber_26 : decode cX4_takeNumber 26 = .ok (.if_icmp .ne 9, 3) := by decide +kernel
theorem dX4_takeNumber_29 : decode cX4_takeNumber 29 = .ok (.aload_n 0, 1) := by decide +kernel
theorem dX4_takeNumber_30 : decode cX4_takeNumber 30 = .ok (.invokevirtual 74, 3) := by decide +kernel
theorem dX4_takeNumber_33 : decode cX4_takeNumber 33 = .ok (.iload_n 1, 1) := by decide +kernel
theorem dX4_takeNumber_34 : decode cX4_takeNumber 34 = .ok (.ireturn, 1) := by decide +kernel
theorem dX4_takeNumber_35 : decode cX4_takeNumber 35 = .ok (.aload_n 0, 1) := by decide +kernel
theorem dX4_takeNumber_36 : decode cX4_takeNumber 36 = .ok (.dup, 1) := by decide +kernel
theorem dX4_takeNumber_37 : decode cX4_takeNumber 37 = .ok (.getfield 31, 3) := by decide +kernel
theorem dX4_takeNumber_40 : decode cX4_takeNumber 40 = .ok (.iconst 1, 1) := by decide +kernel
theorem dX4_takeNumber_41 : decode cX4_takeNumber 41 = .ok (.iadd, 1) := by decide +kernel
theorem dX4_takeNumber_42 : decode cX4_takeNumber 42 = .ok (.putfield 31, 3) := by decide +kernel
theorem dX4_takeNumber_45 : decode cX4_takeNumber 45 = .ok (.iload 4, 2) := by decide +kernel
theorem dX4_takeNumber_47 : decode cX4_takeNumber 47 = .ok (.ireturn, 1) := by decide +kernel
theorem dX4_takeSign_0 : decode cX4_takeSign 0 = .ok (.aload_n 0, 1) := by decide +kernel
theorem dX4_takeSign_1 : decode cX4_takeSign 1 = .ok (.getfield 17, 3) := by decide +kernel
theorem dX4_takeSign_4 : decode cX4_takeSign 4 = .ok (.aload_n 0, 1) := by decide +kernel
theorem dX4_takeSign_5 : decode cX4_takeSign 5 = .ok (.getfield 31, 3) := by decide +kernel
theorem dX4_takeSign_8 : decode cX4_takeSign 8 = .ok (.invokevirtual 43, 3) := by decide +kernel
theorem dX4_takeSign_11 : decode cX4_takeSign 11 = .ok (.iconst 3, 1) := by decide +kernel
theorem dX4_takeSign_12 : decode cX4_takeSign 12 = .ok (.if_icmp .eq 8, 3) := by decide +kernel
theorem dX4_takeSign_15 : decode cX4_takeSign 15 = .ok (.aload_n 0, 1) := by decide +kernel
theorem dX4_takeSign_16 : decode cX4_takeSign 16 = .ok (.invokevirtual 74, 3) := by decide +kernel
theorem dX4_takeSign_19 : decode cX4_takeSign 19 = .ok (.return_, 1) := by decide +kernel
theorem dX4_takeSign_20 : decode cX4_takeSign 20 = .ok (.aload_n 0, 1) := by decide +kernel
theorem dX4_takeSign_21 : decode cX4_takeSign 21 = .ok (.dup, 1) := by decide +kernel
theorem dX4_takeSign_22 : decode cX4_takeSign 22 = .ok (.getfield 31, 3) := by decide +kernel
theorem dX4_takeSign_25 : decode cX4_takeSign 25 = .ok (.iconst 1, 1) := by decide +kernel
theorem dX4_takeSign_26 : decode cX4_takeSign 26 = .ok (.iadd, 1) := by decide +kernel
theorem dX4_takeSign_27 : decode cX4_takeSign 27 = .ok (.putfield 31, 3) := by decide +kernel
theorem dX4_takeSign_30 : decode cX4_takeSign 30 = .ok (.return_, 1) := by decide +kernel
theorem dX4_refuse_0 : decode cX4_refuse 0 = .ok (.aload_n 0, 1) := by decide +kernel
theorem dX4_refuse_1 : decode cX4_refuse 1 = .ok (.getfield 34, 3) := by decide +kernel
theorem dX4_refuse_4 : decode cX4_refuse 4 = .ok (.iconst (-1), 1) := by decide +kernel
theorem dX4_refuse_5 : decode cX4_refuse 5 = .ok (.if_icmp .ne 11, 3) := by decide +kernel
theorem dX4_refuse_8 : decode cX4_refuse 8 = .ok (.aload_n 0, 1) := by decide +kernel
theorem dX4_refuse_9 : decode cX4_refuse 9 = .ok (.aload_n 0, 1) := by decide +kernel
theorem dX4_refuse_10 : decode cX4_refuse 10 = .ok (.getfield 31, 3) := by decide +kernel
theorem dX4_refuse_13 : decode cX4_refuse 13 = .ok (.putfield 34, 3) := by decide +kernel
theorem dX4_refuse_16 : decode cX4_refuse 16 = .ok (.return_, 1) := by decide +kernel
theorem dX4_addItem_0 : decode cX4_addItem 0 = .ok (.aload_n 0, 1) := by decide +kernel
theorem dX4_addItem_1 : decode cX4_addItem 1 = .ok (.getfield 28, 3) := by decide +kernel
theorem dX4_addItem_4 : decode cX4_addItem 4 = .ok (.bipush 30, 2) := by decide +kernel
theorem dX4_addItem_6 : decode cX4_addItem 6 = .ok (.if_icmp .lt 4, 3) := by decide +kernel
theorem dX4_addItem_9 : decode cX4_addItem 9 = .ok (.return_, 1) := by decide +kernel
theorem dX4_addItem_10 : decode cX4_addItem 10 = .ok (.aload_n 0, 1) := by decide +kernel
theorem dX4_addItem_11 : decode cX4_addItem 11 = .ok (.getfield 28, 3) := by decide +kernel
theorem dX4_addItem_14 : decode cX4_addItem 14 = .ok (.iconst 4, 1) := by decide +kernel
theorem dX4_addItem_15 : decode cX4_addItem 15 = .ok (.imul, 1) := by decide +kernel
theorem dX4_addItem_16 : decode cX4_addItem 16 = .ok (.istore 5, 2) := by decide +kernel
theorem dX4_addItem_18 : decode cX4_addItem 18 = .ok (.aload_n 0, 1) := by decide +kernel
theorem dX4_addItem_19 : decode cX4_addItem 19 = .ok (.getfield 13, 3) := by decide +kernel
theorem dX4_addItem_22 : decode cX4_addItem 22 = .ok (.iload 5, 2) := by decide +kernel
theorem dX4_addItem_24 : decode cX4_addItem 24 = .ok (.iload_n 1, 1) := by decide +kernel
theorem dX4_addItem_25 : decode cX4_addItem 25 = .ok (.iastore, 1) := by decide +kernel
theorem dX4_addItem_26 : decode cX4_addItem 26 = .ok (.aload_n 0, 1) := by decide +kernel
theorem dX4_addItem_27 : decode cX4_addItem 27 = .ok (.getfield 13, 3) := by decide +kernel
theorem dX4_addItem_30 : decode cX4_addItem 30 = .ok (.iload 5, 2) := by decide +kernel
theorem dX4_addItem_32 : decode cX4_addItem 32 = .ok (.iconst 1, 1) := by decide +kernel
theorem dX4_addItem_33 : decode cX4_addItem 33 = .ok (.iadd, 1) := by decide +kernel
theorem dX4_addItem_34 : decode cX4_addItem 34 = .ok (.iload_n 2, 1) := by decide +kernel
theorem dX4_addItem_35 : decode cX4_addItem 35 = .ok (.iastore, 1) := by decide +kernel
theorem dX4_addItem_36 : decode cX4_addItem 36 = .ok (.aload_n 0, 1) := by decide +kernel
theorem dX4_addItem_37 : decode cX4_addItem 37 = .ok (.getfield 13, 3) := by decide +kernel
theorem dX4_addItem_40 : decode cX4_addItem 40 = .ok (.iload 5, 2) := by decide +kernel
theorem dX4_addItem_42 : decode cX4_addItem 42 = .ok (.iconst 2, 1) := by decide +kernel
theorem dX4_addItem_43 : decode cX4_addItem 43 = .ok (.iadd, 1) := by decide +kernel
theorem dX4_addItem_44 : decode cX4_addItem 44 = .ok (.iload_n 3, 1) := by decide +kernel
theorem dX4_addItem_45 : decode cX4_addItem 45 = .ok (.iastore, 1) := by decide +kernel
theorem dX4_addItem_46 : decode cX4_addItem 46 = .ok (.aload_n 0, 1) := by decide +kernel
theorem dX4_addItem_47 : decode cX4_addItem 47 = .ok (.getfield 13, 3) := by decide +kernel
theorem dX4_addItem_50 : decode cX4_addItem 50 = .ok (.iload 5, 2) := by decide +kernel
theorem dX4_addItem_52 : decode cX4_addItem 52 = .ok (.iconst 3, 1) := by decide +kernel
theorem dX4_addItem_53 : decode cX4_addItem 53 = .ok (.iadd, 1) := by decide +kernel
theorem dX4_addItem_54 : decode cX4_addItem 54 = .ok (.iload 4, 2) := by decide +kernel
theorem dX4_addItem_56 : decode cX4_addItem 56 = .ok (.iastore, 1) := by decide +kernel
theorem dX4_addItem_57 : decode cX4_addItem 57 = .ok (.aload_n 0, 1) := by decide +kernel
theorem dX4_addItem_58 : decode cX4_addItem 58 = .ok (.dup, 1) := by decide +kernel
theorem dX4_addItem_59 : decode cX4_addItem 59 = .ok (.getfield 28, 3) := by decide +kernel
theorem dX4_addItem_62 : decode cX4_addItem 62 = .ok (.iconst 1, 1) := by decide +kernel
theorem dX4_addItem_63 : decode cX4_addItem 63 = .ok (.iadd, 1) := by decide +kernel
theorem dX4_addItem_64 : decode cX4_addItem 64 = .ok (.putfield 28, 3) := by decide +kernel
theorem dX4_addItem_67 : decode cX4_addItem 67 = .ok (.return_, 1) := by decide +kernel
theorem dX5_nameOf_0 : decode cX5_nameOf 0 = .ok (.iload_n 0, 1) := by decide +kernel
theorem dX5_nameOf_1 : decode cX5_nameOf 1 = .ok (.tableswitch 134 0 16 #[83, 86, 89, 92, 95, 98, 101, 104, 107, 110, 113, 116, 119, 122, 125, 128, 131], 83) := by decide +kernel
theorem dX5_nameOf_84 : decode cX5_nameOf 84 = .ok (.ldc 7, 2) := by decide +kernel
theorem dX5_nameOf_86 : decode cX5_nameOf 86 = .ok (.areturn, 1) := by decide +kernel
theorem dX5_nameOf_87 : decode cX5_nameOf 87 = .ok (.ldc 9, 2) := by decide +kernel
theorem dX5_nameOf_89 : decode cX5_nameOf 89 = .ok (.areturn, 1) := by decide +kernel
theorem dX5_nameOf_90 : decode cX5_nameOf 90 = .ok (.ldc 11, 2) := by decide +kernel
theorem dX5_nameOf_92 : decode cX5_nameOf 92 = .ok (.areturn, 1) := by decide +kernel
theorem dX5_nameOf_93 : decode cX5_nameOf 93 = .ok (.ldc 13, 2) := by decide +kernel
theorem dX5_nameOf_95 : decode cX5_nameOf 95 = .ok (.areturn, 1) := by decide +kernel
theorem dX5_nameOf_96 : decode cX5_nameOf 96 = .ok (.ldc 15, 2) := by decide +kernel
theorem dX5_nameOf_98 : decode cX5_nameOf 98 = .ok (.areturn, 1) := by decide +kernel
theorem dX5_nameOf_99 : decode cX5_nameOf 99 = .ok (.ldc 17, 2) := by decide +kernel
theorem dX5_nameOf_101 : decode cX5_nameOf 101 = .ok (.areturn, 1) := by decide +kernel
theorem dX5_nameOf_102 : decode cX5_nameOf 102 = .ok (.ldc 19, 2) := by decide +kernel
theorem dX5_nameOf_104 : decode cX5_nameOf 104 = .ok (.areturn, 1) := by decide +kernel
theorem dX5_nameOf_105 : decode cX5_nameOf 105 = .ok (.ldc 21, 2) := by decide +kernel
theorem dX5_nameOf_107 : decode cX5_nameOf 107 = .ok (.areturn, 1) := by decide +kernel
theorem dX5_nameOf_108 : decode cX5_nameOf 108 = .ok (.ldc 23, 2) := by decide +kernel
theorem dX5_nameOf_110 : decode cX5_nameOf 110 = .ok (.areturn, 1) := by decide +kernel
theorem dX5_nameOf_111 : decode cX5_nameOf 111 = .ok (.ldc 25, 2) := by decide +kernel
theorem dX5_nameOf_113 : decode cX5_nameOf 113 = .ok (.areturn, 1) := by decide +kernel
theorem dX5_nameOf_114 : decode cX5_nameOf 114 = .ok (.ldc 27, 2) := by decide +kernel
theorem dX5_nameOf_116 : decode cX5_nameOf 116 = .ok (.areturn, 1) := by decide +kernel
theorem dX5_nameOf_117 : decode cX5_nameOf 117 = .ok (.ldc 29, 2) := by decide +kernel
theorem dX5_nameOf_119 : decode cX5_nameOf 119 = .ok (.areturn, 1) := by decide +kernel
theorem dX5_nameOf_120 : decode cX5_nameOf 120 = .ok (.ldc 31, 2) := by decide +kernel
theorem dX5_nameOf_122 : decode cX5_nameOf 122 = .ok (.areturn, 1) := by decide +kernel
theorem dX5_nameOf_123 : decode cX5_nameOf 123 = .ok (.ldc 33, 2) := by decide +kernel
theorem dX5_nameOf_125 : decode cX5_nameOf 125 = .ok (.areturn, 1) := by decide +kernel
theorem dX5_nameOf_126 : decode cX5_nameOf 126 = .ok (.ldc 35, 2) := by decide +kernel
theorem dX5_nameOf_128 : decode cX5_nameOf 128 = .ok (.areturn, 1) := by decide +kernel
theorem dX5_nameOf_129 : decode cX5_nameOf 129 = .ok (.ldc 37, 2) := by decide +kernel
theorem dX5_nameOf_131 : decode cX5_nameOf 131 = .ok (.areturn, 1) := by decide +kernel
theorem dX5_nameOf_132 : decode cX5_nameOf 132 = .ok (.ldc 39, 2) := by decide +kernel
theorem dX5_nameOf_134 : decode cX5_nameOf 134 = .ok (.areturn, 1) := by decide +kernel
theorem dX5_nameOf_135 : decode cX5_nameOf 135 = .ok (.ldc 41, 2) := by decide +kernel
theorem dX5_nameOf_137 : decode cX5_nameOf 137 = .ok (.areturn, 1) := by decide +kernel
theorem dX6_init_0 : decode cX6_init 0 = .ok (.aload_n 0, 1) := by decide +kernel
theorem dX6_init_1 : decode cX6_init 1 = .ok (.invokespecial 3, 3) := by decide +kernel
theorem dX6_init_4 : decode cX6_init 4 = .ok (.aload_n 0, 1) := by decide +kernel
theorem dX6_init_5 : decode cX6_init 5 = .ok (.bipush 8, 2) := by decide +kernel
theorem dX6_init_7 : decode cX6_init 7 = .ok (.newarray .int, 2) := by decide +kernel
theorem dX6_init_9 : decode cX6_init 9 = .ok (.putfield 9, 3) := by decide +kernel
theorem dX6_init_12 : decode cX6_init 12 = .ok (.aload_n 0, 1) := by decide +kernel
theorem dX6_init_13 : decode cX6_init 13 = .ok (.iconst 3, 1) := by decide +kernel
theorem dX6_init_14 : decode cX6_init 14 = .ok (.putfield 15, 3) := by decide +kernel
theorem dX6_init_17 : decode cX6_init 17 = .ok (.aload_n 0, 1) := by decide +kernel
theorem dX6_init_18 : decode cX6_init 18 = .ok (.bipush 8, 2) := by decide +kernel
theorem dX6_init_20 : decode cX6_init 20 = .ok (.newarray .int, 2) := by decide +kernel
theorem dX6_init_22 : decode cX6_init 22 = .ok (.putfield 19, 3) := by decide +kernel
theorem dX6_init_25 : decode cX6_init 25 = .ok (.aload_n 0, 1) := by decide +kernel
theorem dX6_init_26 : decode cX6_init 26 = .ok (.bipush 8, 2) := by decide +kernel
theorem dX6_init_28 : decode cX6_init 28 = .ok (.newarray .int, 2) := by decide +kernel
theorem dX6_init_30 : decode cX6_init 30 = .ok (.putfield 22, 3) := by decide +kernel
theorem dX6_init_33 : decode cX6_init 33 = .ok (.aload_n 0, 1) := by decide +kernel
theorem dX6_init_34 : decode cX6_init 34 = .ok (.bipush 8, 2) := by decide +kernel
theorem dX6_init_36 : decode cX6_init 36 = .ok (.newarray .int, 2) := by decide +kernel
theorem dX6_init_38 : decode cX6_init 38 = .ok (.putfield 25, 3) := by decide +kernel
theorem dX6_init_41 : decode cX6_init 41 = .ok (.aload_n 0, 1) := by decide +kernel
theorem dX6_init_42 : decode cX6_init 42 = .ok (.iconst 4, 1) := by decide +kernel
theorem dX6_init_43 : decode cX6_init 43 = .ok (.newarray .int, 2) := by decide +kernel
theorem dX6_init_45 : decode cX6_init 45 = .ok (.putfield 28, 3) := by decide +kernel
theorem dX6_init_48 : decode cX6_init 48 = .ok (.aload_n 0, 1) := by decide +kernel
theorem dX6_init_49 : decode cX6_init 49 = .ok (.iconst 4, 1) := by decide +kernel
theorem dX6_init_50 : decode cX6_init 50 = .ok (.newarray .int, 2) := by decide +kernel
theorem dX6_init_52 : decode cX6_init 52 = .ok (.putfield 31, 3) := by decide +kernel
theorem dX6_init_55 : decode cX6_init 55 = .ok (.aload_n 0, 1) := by decide +kernel
theorem dX6_init_56 : decode cX6_init 56 = .ok (.bipush 60, 2) := by decide +kernel
theorem dX6_init_58 : decode cX6_init 58 = .ok (.newarray .int, 2) := by decide +kernel
theorem dX6_init_60 : decode cX6_init 60 = .ok (.putfield 34, 3) := by decide +kernel
theorem dX6_init_63 : decode cX6_init 63 = .ok (.aload_n 0, 1) := by decide +kernel
theorem dX6_init_64 : decode cX6_init 64 = .ok (.iconst 1, 1) := by decide +kernel
theorem dX6_init_65 : decode cX6_init 65 = .ok (.putfield 37, 3) := by decide +kernel
theorem dX6_init_68 : decode cX6_init 68 = .ok (.aload_n 0, 1) := by decide +kernel
theorem dX6_init_69 : decode cX6_init 69 = .ok (.bipush 10, 2) := by decide +kernel
theorem dX6_init_71 : decode cX6_init 71 = .ok (.newarray .int, 2) := by decide +kernel
theorem dX6_init_73 : decode cX6_init 73 = .ok (.putfield 40, 3) := by decide +kernel
theorem dX6_init_76 : decode cX6_init 76 = .ok (.iconst 0, 1) := by decide +kernel
theorem dX6_init_77 : decode cX6_init 77 = .ok (.istore_n 1, 1) := by decide +kernel
theorem dX6_init_78 : decode cX6_init 78 = .ok (.iload_n 1, 1) := by decide +kernel
theorem dX6_init_79 : decode cX6_init 79 = .ok (.bipush 7, 2) := by decide +kernel
theorem dX6_init_81 : decode cX6_init 81 = .ok (.if_icmp .ge 37, 3) := by decide +kernel
theorem dX6_init_84 : decode cX6_init 84 = .ok (.aload_n 0, 1) := by decide +kernel
theorem dX6_init_85 : decode cX6_init 85 = .ok (.getfield 9, 3) := by decide +kernel
theorem dX6_init_88 : decode cX6_init 88 = .ok (.iload_n 1, 1) := by decide +kernel
theorem dX6_init_89 : decode cX6_init 89 = .ok (.dup2, 1) := by decide +kernel
theorem dX6_init_90 : decode cX6_init 90 = .ok (.iaload, 1) := by decide +kernel
theorem dX6_init_91 : decode cX6_init 91 = .ok (.iconst 1, 1) := by decide +kernel
theorem dX6_init_92 : decode cX6_init 92 = .ok (.iload_n 1, 1) := by decide +kernel
theorem dX6_init_93 : decode cX6_init 93 = .ok (.iconst 1, 1) := by decide +kernel
theorem dX6_init_94 : decode cX6_init 94 = .ok (.iadd, 1) := by decide +kernel
theorem dX6_init_95 : decode cX6_init 95 = .ok (.ishl, 1) := by decide +kernel
theorem dX6_init_96 : decode cX6_init 96 = .ok (.ior, 1) := by decide +kernel
theorem dX6_init_97 : decode cX6_init 97 = .ok (.iastore, 1) := by decide +kernel
theorem dX6_init_98 : decode cX6_init 98 = .ok (.aload_n 0, 1) := by decide +kernel
theorem dX6_init_99 : decode cX6_init 99 = .ok (.getfield 9, 3) := by decide +kernel
theorem dX6_init_102 : decode cX6_init 102 = .ok (.iload_n 1, 1) := by decide +kernel
theorem dX6_init_103 : decode cX6_init 103 = .ok (.iconst 1, 1) := by decide +kernel
theorem dX6_init_104 : decode cX6_init 104 = .ok (.iadd, 1) := by decide +kernel
theorem dX6_init_105 : decode cX6_init 105 = .ok (.dup2, 1) := by decide +kernel
theorem dX6_init_106 : decode cX6_init 106 = .ok (.iaload, 1) := by decide +kernel
theorem dX6_init_107 : decode cX6_init 107 = .ok (.iconst 1, 1) := by decide +kernel
theorem dX6_init_108 : decode cX6_init 108 = .ok (.iload_n 1, 1) := by decide +kernel
theorem dX6_init_109 : decode cX6_init 109 = .ok (.ishl, 1) := by decide +kernel
theorem dX6_init_110 : decode cX6_init 110 = .ok (.ior, 1) := by decide +kernel
theorem dX6_init_111 : decode cX6_init 111 = .ok (.iastore, 1) := by decide +kernel
theorem dX6_init_112 : decode cX6_init 112 = .ok (.iinc 1 1, 3) := by decide +kernel
theorem dX6_init_115 : decode cX6_init 115 = .ok (.goto (-37), 3) := by decide +kernel
theorem dX6_init_118 : decode cX6_init 118 = .ok (.aload_n 0, 1) := by decide +kernel
theorem dX6_init_119 : decode cX6_init 119 = .ok (.getfield 40, 3) := by decide +kernel
theorem dX6_init_122 : decode cX6_init 122 = .ok (.iconst (-1), 1) := by decide +kernel
theorem dX6_init_123 : decode cX6_init 123 = .ok (.invokestatic 43, 3) := by decide +kernel
theorem dX6_init_126 : decode cX6_init 126 = .ok (.return_, 1) := by decide +kernel
theorem dX6_become_0 : decode cX6_become 0 = .ok (.aload_n 1, 1) := by decide +kernel
theorem dX6_become_1 : decode cX6_become 1 = .ok (.getfield 9, 3) := by decide +kernel
theorem dX6_become_4 : decode cX6_become 4 = .ok (.iconst 0, 1) := by decide +kernel
theorem dX6_become_5 : decode cX6_become 5 = .ok (.aload_n 0, 1) := by decide +kernel
theorem dX6_become_6 : decode cX6_become 6 = .ok (.getfield 9, 3) := by decide +kernel
theorem dX6_become_9 : decode cX6_become 9 = .ok (.iconst 0, 1) := by decide +kernel
theorem dX6_become_10 : decode cX6_become 10 = .ok (.bipush 8, 2) := by decide +kernel
theorem dX6_become_12 : decode cX6_become 12 = .ok (.invokestatic 49, 3) := by decide +kernel
theorem dX6_become_15 : decode cX6_become 15 = .ok (.aload_n 0, 1) := by decide +kernel
theorem dX6_become_16 : decode cX6_become 16 = .ok (.aload_n 1, 1) := by decide +kernel
theorem dX6_become_17 : decode cX6_become 17 = .ok (.getfield 15, 3) := by decide +kernel
theorem dX6_become_20 : decode cX6_become 20 = .ok (.putfield 15, 3) := by decide +kernel
theorem dX6_become_23 : decode cX6_become 23 = .ok (.aload_n 0, 1) := by decide +kernel
theorem dX6_become_24 : decode cX6_become 24 = .ok (.aload_n 1, 1) := by decide +kernel
theorem dX6_become_25 : decode cX6_become 25 = .ok (.getfield 55, 3) := by decide +kernel
theorem dX6_become_28 : decode cX6_become 28 = .ok (.putfield 55, 3) := by decide +kernel
theorem dX6_become_31 : decode cX6_become 31 = .ok (.aload_n 0, 1) := by decide +kernel
theorem dX6_become_32 : decode cX6_become 32 = .ok (.aload_n 1, 1) := by decide +kernel
theorem dX6_become_33 : decode cX6_become 33 = .ok (.getfield 58, 3) := by decide +kernel
theorem dX6_become_36 : decode cX6_become 36 = .ok (.putfield 58, 3) := by decide +kernel
theorem dX6_become_39 : decode cX6_become 39 = .ok (.aload_n 0, 1) := by decide +kernel
theorem dX6_become_40 : decode cX6_become 40 = .ok (.aload_n 1, 1) := by decide +kernel
theorem dX6_become_41 : decode cX6_become 41 = .ok (.getfield 61, 3) := by decide +kernel
theorem dX6_become_44 : decode cX6_become 44 = .ok (.putfield 61, 3) := by decide +kernel
theorem dX6_become_47 : decode cX6_become 47 = .ok (.aload_n 1, 1) := by decide +kernel
theorem dX6_become_48 : decode cX6_become 48 = .ok (.getfield 19, 3) := by decide +kernel
theorem dX6_become_51 : decode cX6_become 51 = .ok (.iconst 0, 1) := by decide +kernel
theorem dX6_become_52 : decode cX6_become 52 = .ok (.aload_n 0, 1) := by decide +kernel
theorem dX6_become_53 : decode cX6_become 53 = .ok (.getfield 19, 3) := by decide +kernel
theorem dX6_become_56 : decode cX6_become 56 = .ok (.iconst 0, 1) := by decide +kernel
theorem dX6_become_57 : decode cX6_become 57 = .ok (.bipush 8, 2) := by decide +kernel
theorem dX6_become_59 : decode cX6_become 59 = .ok (.invokestatic 49, 3) := by decide +kernel
theorem dX6_become_62 : decode cX6_become 62 = .ok (.aload_n 1, 1) := by decide +kernel
theorem dX6_become_63 : decode cX6_become 63 = .ok (.getfield 22, 3) := by decide +kernel
theorem dX6_become_66 : decode cX6_become 66 = .ok (.iconst 0, 1) := by decide +kernel
theorem dX6_become_67 : decode cX6_become 67 = .ok (.aload_n 0, 1) := by decide +kernel
theorem dX6_become_68 : decode cX6_become 68 = .ok (.getfield 22, 3) := by decide +kernel
theorem dX6_become_71 : decode cX6_become 71 = .ok (.iconst 0, 1) := by decide +kernel
theorem dX6_become_72 : decode cX6_become 72 = .ok (.bipush 8, 2) := by decide +kernel
theorem dX6_become_74 : decode cX6_become 74 = .ok (.invokestatic 49, 3) := by decide +kernel
theorem dX6_become_77 : decode cX6_become 77 = .ok (.aload_n 1, 1) := by decide +kernel
theorem dX6_become_78 : decode cX6_become 78 = .ok (.getfield 25, 3) := by decide +kernel
theorem dX6_become_81 : decode cX6_become 81 = .ok (.iconst 0, 1) := by decide +kernel
theorem dX6_become_82 : decode cX6_become 82 = .ok (.aload_n 0, 1) := by decide +kernel
theorem dX6_become_83 : decode cX6_become 83 = .ok (.getfield 25, 3) := by decide +kernel
theorem dX6_become_86 : decode cX6_become 86 = .ok (.iconst 0, 1) := by decide +kernel
theorem dX6_become_87 : decode cX6_become 87 = .ok (.bipush 8, 2) := by decide +kernel
theorem dX6_become_89 : decode cX6_become 89 = .ok (.invokestatic 49, 3) := by decide +kernel
theorem dX6_become_92 : decode cX6_become 92 = .ok (.aload_n 0, 1) := by decide +kernel
theorem dX6_become_93 : decode cX6_become 93 = .ok (.aload_n 1, 1) := by decide +kernel
theorem dX6_become_94 : decode cX6_become 94 = .ok (.getfield 64, 3) := by decide +kernel
theorem dX6_become_97 : decode cX6_become 97 = .ok (.putfield 64, 3) := by decide +kernel
theorem dX6_become_100 : decode cX6_become 100 = .ok (.aload_n 1, 1) := by decide +kernel
theorem dX6_become_101 : decode cX6_become 101 = .ok (.getfield 28, 3) := by decide +kernel
theorem dX6_become_104 : decode cX6_become 104 = .ok (.iconst 0, 1) := by decide +kernel
theorem dX6_become_105 : decode cX6_become 105 = .ok (.aload_n 0, 1) := by decide +kernel
theorem dX6_become_106 : decode cX6_become 106 = .ok (.getfield 28, 3) := by decide +kernel
theorem dX6_become_109 : decode cX6_become 109 = .ok (.iconst 0, 1) := by decide +kernel
theorem dX6_become_110 : decode cX6_become 110 = .ok (.iconst 4, 1) := by decide +kernel
theorem dX6_become_111 : decode cX6_become 111 = .ok (.invokestatic 49, 3) := by decide +kernel
theorem dX6_become_114 : decode cX6_become 114 = .ok (.aload_n 1, 1) := by decide +kernel
theorem dX6_become_115 : decode cX6_become 115 = .ok (.getfield 31, 3) := by decide +kernel
theorem dX6_become_118 : decode cX6_become 118 = .ok (.iconst 0, 1) := by decide +kernel
theorem dX6_become_119 : decode cX6_become 119 = .ok (.aload_n 0, 1) := by decide +kernel
theorem dX6_become_120 : decode cX6_become 120 = .ok (.getfield 31, 3) := by decide +kernel
theorem dX6_become_123 : decode cX6_become 123 = .ok (.iconst 0, 1) := by decide +kernel
theorem dX6_become_124 : decode cX6_become 124 = .ok (.iconst 4, 1) := by decide +kernel
theorem dX6_become_125 : decode cX6_become 125 = .ok (.invokestatic 49, 3) := by decide +kernel
theorem dX6_become_128 : decode cX6_become 128 = .ok (.aload_n 0, 1) := by decide +kernel
theorem dX6_become_129 : decode cX6_become 129 = .ok (.aload_n 1, 1) := by decide +kernel
theorem dX6_become_130 : decode cX6_become 130 = .ok (.getfield 67, 3) := by decide +kernel
theorem dX6_become_133 : decode cX6_become 133 = .ok (.putfield 67, 3) := by decide +kernel
theorem dX6_become_136 : decode cX6_become 136 = .ok (.aload_n 0, 1) := by decide +kernel
theorem dX6_become_137 : decode cX6_become 137 = .ok (.aload_n 1, 1) := by decide +kernel
theorem dX6_become_138 : decode cX6_become 138 = .ok (.getfield 70, 3) := by decide +kernel
theorem dX6_become_141 : decode cX6_become 141 = .ok (.putfield 70, 3) := by decide +kernel
theorem dX6_become_144 : decode cX6_become 144 = .ok (.aload_n 0, 1) := by decide +kernel
theorem dX6_become_145 : decode cX6_become 145 = .ok (.aload_n 1, 1) := by decide +kernel
theorem dX6_become_146 : decode cX6_become 146 = .ok (.getfield 73, 3) := by decide +kernel
theorem dX6_become_149 : decode cX6_become 149 = .ok (.putfield 73, 3) := by decide +kernel
theorem dX6_become_152 : decode cX6_become 152 = .ok (.aload_n 1, 1) := by decide +kernel
theorem dX6_become_153 : decode cX6_become 153 = .ok (.getfield 34, 3) := by decide +kernel
theorem dX6_become_156 : decode cX6_become 156 = .ok (.iconst 0, 1) := by decide +kernel
theorem dX6_become_157 : decode cX6_become 157 = .ok (.aload_n 0, 1) := by decide +kernel
theorem dX6_become_158 : decode cX6_become 158 = .ok (.getfield 34, 3) := by decide +kernel
theorem dX6_become_161 : decode cX6_become 161 = .ok (.iconst 0, 1) := by decide +kernel
theorem dX6_become_162 : decode cX6_become 162 = .ok (.bipush 60, 2) := by decide +kernel
theorem dX6_become_164 : decode cX6_become 164 = .ok (.invokestatic 49, 3) := by decide +kernel
theorem dX6_become_167 : decode cX6_become 167 = .ok (.aload_n 0, 1) := by decide +kernel
theorem dX6_become_168 : decode cX6_become 168 = .ok (.aload_n 1, 1) := by decide +kernel
theorem dX6_become_169 : decode cX6_become 169 = .ok (.getfield 76, 3) := by decide +kernel
theorem dX6_become_172 : decode cX6_become 172 = .ok (.putfield 76, 3) := by decide +kernel
theorem dX6_become_175 : decode cX6_become 175 = .ok (.aload_n 0, 1) := by decide +kernel
theorem dX6_become_176 : decode cX6_become 176 = .ok (.aload_n 1, 1) := by decide +kernel
theorem dX6_become_177 : decode cX6_become 177 = .ok (.getfield 37, 3) := by decide +kernel
theorem dX6_become_180 : decode cX6_become 180 = .ok (.putfield 37, 3) := by decide +kernel
theorem dX6_become_183 : decode cX6_become 183 = .ok (.aload_n 1, 1) := by decide +kernel
theorem dX6_become_184 : decode cX6_become 184 = .ok (.getfield 40, 3) := by decide +kernel
theorem dX6_become_187 : decode cX6_become 187 = .ok (.iconst 0, 1) := by decide +kernel
theorem dX6_become_188 : decode cX6_become 188 = .ok (.aload_n 0, 1) := by decide +kernel
theorem dX6_become_189 : decode cX6_become 189 = .ok (.getfield 40, 3) := by decide +kernel
theorem dX6_become_192 : decode cX6_become 192 = .ok (.iconst 0, 1) := by decide +kernel
theorem dX6_become_193 : decode cX6_become 193 = .ok (.bipush 10, 2) := by decide +kernel
theorem dX6_become_195 : decode cX6_become 195 = .ok (.invokestatic 49, 3) := by decide +kernel
theorem dX6_become_198 : decode cX6_become 198 = .ok (.return_, 1) := by decide +kernel
theorem dX6_isOpen_0 : decode cX6_isOpen 0 = .ok (.aload_n 0, 1) := by decide +kernel
theorem dX6_isOpen_1 : decode cX6_isOpen 1 = .ok (.getfield 9, 3) := by decide +kernel
theorem dX6_isOpen_4 : decode cX6_isOpen 4 = .ok (.iload_n 1, 1) := by decide +kernel
theorem dX6_isOpen_5 : decode cX6_isOpen 5 = .ok (.iaload, 1) := by decide +kernel
theorem dX6_isOpen_6 : decode cX6_isOpen 6 = .ok (.iload_n 2, 1) := by decide +kernel
theorem dX6_isOpen_7 : decode cX6_isOpen 7 = .ok (.ishr, 1) := by decide +kernel
theorem dX6_isOpen_8 : decode cX6_isOpen 8 = .ok (.iconst 1, 1) := by decide +kernel
theorem dX6_isOpen_9 : decode cX6_isOpen 9 = .ok (.iand, 1) := by decide +kernel
theorem dX6_isOpen_10 : decode cX6_isOpen 10 = .ok (.iconst 1, 1) := by decide +kernel
theorem dX6_isOpen_11 : decode cX6_isOpen 11 = .ok (.if_icmp .ne 7, 3) := by decide +kernel
theorem dX6_isOpen_14 : decode cX6_isOpen 14 = .ok (.iconst 1, 1) := by decide +kernel
theorem dX6_isOpen_15 : decode cX6_isOpen 15 = .ok (.goto 4, 3) := by decide +kernel
theorem dX6_isOpen_18 : decode cX6_isOpen 18 = .ok (.iconst 0, 1) := by decide +kernel
theorem dX6_isOpen_19 : decode cX6_isOpen 19 = .ok (.ireturn, 1) := by decide +kernel
theorem dX6_setDoor_0 : decode cX6_setDoor 0 = .ok (.iload_n 3, 1) := by decide +kernel
theorem dX6_setDoor_1 : decode cX6_setDoor 1 = .ok (.ifCond .eq 30, 3) := by decide +kernel
theorem dX6_setDoor_4 : decode cX6_setDoor 4 = .ok (.aload_n 0, 1) := by decide +kernel
theorem dX6_setDoor_5 : decode cX6_setDoor 5 = .ok (.getfield 9, 3) := by decide +kernel
theorem dX6_setDoor_8 : decode cX6_setDoor 8 = .ok (.iload_n 1, 1) := by decide +kernel
theorem dX6_setDoor_9 : decode cX6_setDoor 9 = .ok (.dup2, 1) := by decide +kernel
theorem dX6_setDoor_10 : decode cX6_setDoor 10 = .ok (.iaload, 1) := by decide +kernel
theorem dX6_setDoor_11 : decode cX6_setDoor 11 = .ok (.iconst 1, 1) := by decide +kernel
theorem dX6_setDoor_12 : decode cX6_setDoor 12 = .ok (.iload_n 2, 1) := by decide +kernel
theorem dX6_setDoor_13 : decode cX6_setDoor 13 = .ok (.ishl, 1) := by decide +kernel
theorem dX6_setDoor_14 : decode cX6_setDoor 14 = .ok (.ior, 1) := by decide +kernel
theorem dX6_setDoor_15 : decode cX6_setDoor 15 = .ok (.iastore, 1) := by decide +kernel
theorem dX6_setDoor_16 : decode cX6_setDoor 16 = .ok (.aload_n 0, 1) := by decide +kernel
theorem dX6_setDoor_17 : decode cX6_setDoor 17 = .ok (.getfield 9, 3) := by decide +kernel
theorem dX6_setDoor_20 : decode cX6_setDoor 20 = .ok (.iload_n 2, 1) := by decide +kernel
theorem dX6_setDoor_21 : decode cX6_setDoor 21 = .ok (.dup2, 1) := by decide +kernel
theorem dX6_setDoor_22 : decode cX6_setDoor 22 = .ok (.iaload, 1) := by decide +kernel
theorem dX6_setDoor_23 : decode cX6_setDoor 23 = .ok (.iconst 1, 1) := by decide +kernel
theorem dX6_setDoor_24 : decode cX6_setDoor 24 = .ok (.iload_n 1, 1) := by decide +kernel
theorem dX6_setDoor_25 : decode cX6_setDoor 25 = .ok (.ishl, 1) := by decide +kernel
theorem dX6_setDoor_26 : decode cX6_setDoor 26 = .ok (.ior, 1) := by decide +kernel
theorem dX6_setDoor_27 : decode cX6_setDoor 27 = .ok (.iastore, 1) := by decide +kernel
theorem dX6_setDoor_28 : decode cX6_setDoor 28 = .ok (.goto 31, 3) := by decide +kernel
theorem dX6_setDoor_31 : decode cX6_setDoor 31 = .ok (.aload_n 0, 1) := by decide +kernel
theorem dX6_setDoor_32 : decode cX6_setDoor 32 = .ok (.getfield 9, 3) := by decide +kernel
theorem dX6_setDoor_35 : decode cX6_setDoor 35 = .ok (.iload_n 1, 1) := by decide +kernel
theorem dX6_setDoor_36 : decode cX6_setDoor 36 = .ok (.dup2, 1) := by decide +kernel
theorem dX6_setDoor_37 : decode cX6_setDoor 37 = .ok (.iaload, 1) := by decide +kernel
theorem dX6_setDoor_38 : decode cX6_setDoor 38 = .ok (.iconst 1, 1) := by decide +kernel
theorem dX6_setDoor_39 : decode cX6_setDoor 39 = .ok (.iload_n 2, 1) := by decide +kernel
theorem dX6_setDoor_40 : decode cX6_setDoor 40 = .ok (.ishl, 1) := by decide +kernel
theorem dX6_setDoor_41 : decode cX6_setDoor 41 = .ok (.iconst (-1), 1) := by decide +kernel
theorem dX6_setDoor_42 : decode cX6_setDoor 42 = .ok (.ixor, 1) := by decide +kernel
theorem dX6_setDoor_43 : decode cX6_setDoor 43 = .ok (.iand, 1) := by decide +kernel
theorem dX6_setDoor_44 : decode cX6_setDoor 44 = .ok (.iastore, 1) := by decide +kernel
theorem dX6_setDoor_45 : decode cX6_setDoor 45 = .ok (.aload_n 0, 1) := by decide +kernel
theorem dX6_setDoor_46 : decode cX6_setDoor 46 = .ok (.getfield 9, 3) := by decide +kernel
theorem dX6_setDoor_49 : decode cX6_setDoor 49 = .ok (.iload_n 2, 1) := by decide +kernel
theorem dX6_setDoor_50 : decode cX6_setDoor 50 = .ok (.dup2, 1) := by decide +kernel
theorem dX6_setDoor_51 : decode cX6_setDoor 51 = .ok (.iaload, 1) := by decide +kernel
theorem dX6_setDoor_52 : decode cX6_setDoor 52 = .ok (.iconst 1, 1) := by decide +kernel
theorem dX6_setDoor_53 : decode cX6_setDoor 53 = .ok (.iload_n 1, 1) := by decide +kernel
theorem dX6_setDoor_54 : decode cX6_setDoor 54 = .ok (.ishl, 1) := by decide +kernel
theorem dX6_setDoor_55 : decode cX6_setDoor 55 = .ok (.iconst (-1), 1) := by decide +kernel
theorem dX6_setDoor_56 : decode cX6_setDoor 56 = .ok (.ixor, 1) := by decide +kernel
theorem dX6_setDoor_57 : decode cX6_setDoor 57 = .ok (.iand, 1) := by decide +kernel
theorem dX6_setDoor_58 : decode cX6_setDoor 58 = .ok (.iastore, 1) := by decide +kernel
theorem dX6_setDoor_59 : decode cX6_setDoor 59 = .ok (.return_, 1) := by decide +kernel
theorem dX6_setRule_0 : decode cX6_setRule 0 = .ok (.iload_n 1, 1) := by decide +kernel
theorem dX6_setRule_1 : decode cX6_setRule 1 = .ok (.lookupswitch 53 #[(0, 27), (1, 40)], 27) := by decide +kernel
theorem dX6_setRule_28 : decode cX6_setRule 28 = .ok (.aload_n 0, 1) := by decide +kernel
theorem dX6_setRule_29 : decode cX6_setRule 29 = .ok (.getfield 15, 3) := by decide +kernel
theorem dX6_setRule_32 : decode cX6_setRule 32 = .ok (.istore_n 3, 1) := by decide +kernel
theorem dX6_setRule_33 : decode cX6_setRule 33 = .ok (.aload_n 0, 1) := by decide +kernel
theorem dX6_setRule_34 : decode cX6_setRule 34 = .ok (.iload_n 2, 1) := by decide +kernel
theorem dX6_setRule_35 : decode cX6_setRule 35 = .ok (.putfield 15, 3) := by decide +kernel
theorem dX6_setRule_38 : decode cX6_setRule 38 = .ok (.goto 26, 3) := by decide +kernel
theorem dX6_setRule_41 : decode cX6_setRule 41 = .ok (.aload_n 0, 1) := by decide +kernel
theorem dX6_setRule_42 : decode cX6_setRule 42 = .ok (.getfield 55, 3) := by decide +kernel
theorem dX6_setRule_45 : decode cX6_setRule 45 = .ok (.istore_n 3, 1) := by decide +kernel
theorem dX6_setRule_46 : decode cX6_setRule 46 = .ok (.aload_n 0, 1) := by decide +kernel
theorem dX6_setRule_47 : decode cX6_setRule 47 = .ok (.iload_n 2, 1) := by decide +kernel
theorem dX6_setRule_48 : decode cX6_setRule 48 = .ok (.putfield 55, 3) := by decide +kernel
theorem dX6_setRule_51 : decode cX6_setRule 51 = .ok (.goto 13, 3) := by decide +kernel
theorem dX6_setRule_54 : decode cX6_setRule 54 = .ok (.aload_n 0, 1) := by decide +kernel
theorem dX6_setRule_55 : decode cX6_setRule 55 = .ok (.getfield 58, 3) := by decide +kernel
theorem dX6_setRule_58 : decode cX6_setRule 58 = .ok (.istore_n 3, 1) := by decide +kernel
theorem dX6_setRule_59 : decode cX6_setRule 59 = .ok (.aload_n 0, 1) := by decide +kernel
theorem dX6_setRule_60 : decode cX6_setRule 60 = .ok (.iload_n 2, 1) := by decide +kernel
theorem dX6_setRule_61 : decode cX6_setRule 61 = .ok (.putfield 58, 3) := by decide +kernel
theorem dX6_setRule_64 : decode cX6_setRule 64 = .ok (.iload_n 3, 1) := by decide +kernel
theorem dX6_setRule_65 : decode cX6_setRule 65 = .ok (.ireturn, 1) := by decide +kernel
theorem dX6_addThing_0 : decode cX6_addThing 0 = .ok (.aload_n 0, 1) := by decide +kernel
theorem dX6_addThing_1 : decode cX6_addThing 1 = .ok (.getfield 61, 3) := by decide +kernel
theorem dX6_addThing_4 : decode cX6_addThing 4 = .ok (.bipush 8, 2) := by decide +kernel
theorem dX6_addThing_6 : decode cX6_addThing 6 = .ok (.if_icmp .lt 6, 3) := by decide +kernel
theorem dX6_addThing_9 : decode cX6_addThing 9 = .ok (.ldc 79, 2) := by decide +kernel
theorem dX6_addThing_11 : decode cX6_addThing 11 = .ok (.ireturn, 1) := by decide +kernel
theorem dX6_addThing_12 : decode cX6_addThing 12 = .ok (.aload_n 0, 1) := by decide +kernel
theorem dX6_addThing_13 : decode cX6_addThing 13 = .ok (.getfield 19, 3) := by decide +kernel
theorem dX6_addThing_16 : decode cX6_addThing 16 = .ok (.aload_n 0, 1) := by decide +kernel
theorem dX6_addThing_17 : decode cX6_addThing 17 = .ok (.getfield 61, 3) := by decide +kernel
theorem dX6_addThing_20 : decode cX6_addThing 20 = .ok (.iload_n 1, 1) := by decide +kernel
theorem dX6_addThing_21 : decode cX6_addThing 21 = .ok (.iastore, 1) := by decide +kernel
theorem dX6_addThing_22 : decode cX6_addThing 22 = .ok (.aload_n 0, 1) := by decide +kernel
theorem dX6_addThing_23 : decode cX6_addThing 23 = .ok (.getfield 22, 3) := by decide +kernel
theorem dX6_addThing_26 : decode cX6_addThing 26 = .ok (.aload_n 0, 1) := by decide +kernel
theorem dX6_addThing_27 : decode cX6_addThing 27 = .ok (.getfield 61, 3) := by decide +kernel
theorem dX6_addThing_30 : decode cX6_addThing 30 = .ok (.iload_n 2, 1) := by decide +kernel
theorem dX6_addThing_31 : decode cX6_addThing 31 = .ok (.iastore, 1) := by decide +kernel
theorem dX6_addThing_32 : decode cX6_addThing 32 = .ok (.aload_n 0, 1) := by decide +kernel
theorem dX6_addThing_33 : decode cX6_addThing 33 = .ok (.getfield 25, 3) := by decide +kernel
theorem dX6_addThing_36 : decode cX6_addThing 36 = .ok (.aload_n 0, 1) := by decide +kernel
theorem dX6_addThing_37 : decode cX6_addThing 37 = .ok (.getfield 61, 3) := by decide +kernel
theorem dX6_addThing_40 : decode cX6_addThing 40 = .ok (.iload_n 3, 1) := by decide +kernel
theorem dX6_addThing_41 : decode cX6_addThing 41 = .ok (.iastore, 1) := by decide +kernel
theorem dX6_addThing_42 : decode cX6_addThing 42 = .ok (.aload_n 0, 1) := by decide +kernel
theorem dX6_addThing_43 : decode cX6_addThing 43 = .ok (.dup, 1) := by decide +kernel
theorem dX6_addThing_44 : decode cX6_addThing 44 = .ok (.getfield 61, 3) := by decide +kernel
theorem dX6_addThing_47 : decode cX6_addThing 47 = .ok (.iconst 1, 1) := by decide +kernel
theorem dX6_addThing_48 : decode cX6_addThing 48 = .ok (.iadd, 1) := by decide +kernel
theorem dX6_addThing_49 : decode cX6_addThing 49 = .ok (.putfield 61, 3) := by decide +kernel
theorem dX6_addThing_52 : decode cX6_addThing 52 = .ok (.aload_n 0, 1) := by decide +kernel
theorem dX6_addThing_53 : decode cX6_addThing 53 = .ok (.getfield 61, 3) := by decide +kernel
theorem dX6_addThing_56 : decode cX6_addThing 56 = .ok (.iconst 1, 1) := by decide +kernel
theorem dX6_addThing_57 : decode cX6_addThing 57 = .ok (.isub, 1) := by decide +kernel
theorem dX6_addThing_58 : decode cX6_addThing 58 = .ok (.ireturn, 1) := by decide +kernel
theorem dX6_partOf_0 : decode cX6_partOf 0 = .ok (.iload_n 2, 1) := by decide +kernel
theorem dX6_partOf_1 : decode cX6_partOf 1 = .ok (.lookupswitch 41 #[(0, 27), (1, 34)], 27) := by decide +kernel
theorem dX6_partOf_28 : decode cX6_partOf 28 = .ok (.aload_n 0, 1) := by decide +kernel
theorem dX6_partOf_29 : decode cX6_partOf 29 = .ok (.getfield 19, 3) := by decide +kernel
theorem dX6_partOf_32 : decode cX6_partOf 32 = .ok (.iload_n 1, 1) := by decide +kernel
theorem dX6_partOf_33 : decode cX6_partOf 33 = .ok (.iaload, 1) := by decide +kernel
theorem dX6_partOf_34 : decode cX6_partOf 34 = .ok (.ireturn, 1) := by decide +kernel
theorem dX6_partOf_35 : decode cX6_partOf 35 = .ok (.aload_n 0, 1) := by decide +kernel
theorem dX6_partOf_36 : decode cX6_partOf 36 = .ok (.getfield 22, 3) := by decide +kernel
theorem dX6_partOf_39 : decode cX6_partOf 39 = .ok (.iload_n 1, 1) := by decide +kernel
theorem dX6_partOf_40 : decode cX6_partOf 40 = .ok (.iaload, 1) := by decide +kernel
theorem dX6_partOf_41 : decode cX6_partOf 41 = .ok (.ireturn, 1) := by decide +kernel
theorem dX6_partOf_42 : decode cX6_partOf 42 = .ok (.aload_n 0, 1) := by decide +kernel
theorem dX6_partOf_43 : decode cX6_partOf 43 = .ok (.getfield 25, 3) := by decide +kernel
theorem dX6_partOf_46 : decode cX6_partOf 46 = .ok (.iload_n 1, 1) := by decide +kernel
theorem dX6_partOf_47 : decode cX6_partOf 47 = .ok (.iaload, 1) := by decide +kernel
theorem dX6_partOf_48 : decode cX6_partOf 48 = .ok (.ireturn, 1) := by decide +kernel
theorem dX6_setPart_0 : decode cX6_setPart 0 = .ok (.iload_n 2, 1) := by decide +kernel
theorem dX6_setPart_1 : decode cX6_setPart 1 = .ok (.lookupswitch 47 #[(0, 27), (1, 37)], 27) := by decide +kernel
theorem dX6_setPart_28 : decode cX6_setPart 28 = .ok (.aload_n 0, 1) := by decide +kernel
theorem dX6_setPart_29 : decode cX6_setPart 29 = .ok (.getfield 19, 3) := by decide +kernel
theorem dX6_setPart_32 : decode cX6_setPart 32 = .ok (.iload_n 1, 1) := by decide +kernel
theorem dX6_setPart_33 : decode cX6_setPart 33 = .ok (.iload_n 3, 1) := by decide +kernel
theorem dX6_setPart_34 : decode cX6_setPart 34 = .ok (.iastore, 1) := by decide +kernel
theorem dX6_setPart_35 : decode cX6_setPart 35 = .ok (.goto 20, 3) := by decide +kernel
theorem dX6_setPart_38 : decode cX6_setPart 38 = .ok (.aload_n 0, 1) := by decide +kernel
theorem dX6_setPart_39 : decode cX6_setPart 39 = .ok (.getfield 22, 3) := by decide +kernel
theorem dX6_setPart_42 : decode cX6_setPart 42 = .ok (.iload_n 1, 1) := by decide +kernel
theorem dX6_setPart_43 : decode cX6_setPart 43 = .ok (.iload_n 3, 1) := by decide +kernel
theorem dX6_setPart_44 : decode cX6_setPart 44 = .ok (.iastore, 1) := by decide +kernel
theorem dX6_setPart_45 : decode cX6_setPart 45 = .ok (.goto 10, 3) := by decide +kernel
theorem dX6_setPart_48 : decode cX6_setPart 48 = .ok (.aload_n 0, 1) := by decide +kernel
theorem dX6_setPart_49 : decode cX6_setPart 49 = .ok (.getfield 25, 3) := by decide +kernel
theorem dX6_setPart_52 : decode cX6_setPart 52 = .ok (.iload_n 1, 1) := by decide +kernel
theorem dX6_setPart_53 : decode cX6_setPart 53 = .ok (.iload_n 3, 1) := by decide +kernel
theorem dX6_setPart_54 : decode cX6_setPart 54 = .ok (.iastore, 1) := by decide +kernel
theorem dX6_setPart_55 : decode cX6_setPart 55 = .ok (.return_, 1) := by decide +kernel
theorem dX6_weightIn_0 : decode cX6_weightIn 0 = .ok (.aload_n 0, 1) := by decide +kernel
theorem dX6_weightIn_1 : decode cX6_weightIn 1 = .ok (.getfield 19, 3) := by decide +kernel
theorem dX6_weightIn_4 : decode cX6_weightIn 4 = .ok (.iload_n 1, 1) := by decide +kernel
theorem dX6_weightIn_5 : decode cX6_weightIn 5 = .ok (.iaload, 1) := by decide +kernel
theorem dX6_weightIn_6 : decode cX6_weightIn 6 = .ok (.aload_n 0, 1) := by decide +kernel
theorem dX6_weightIn_7 : decode cX6_weightIn 7 = .ok (.getfield 25, 3) := by decide +kernel
theorem dX6_weightIn_10 : decode cX6_weightIn 10 = .ok (.iload_n 1, 1) := by decide +kernel
theorem dX6_weightIn_11 : decode cX6_weightIn 11 = .ok (.iaload, 1) := by decide +kernel
theorem dX6_weightIn_12 : decode cX6_weightIn 12 = .ok (.iload_n 2, 1) := by decide +kernel
theorem dX6_weightIn_13 : decode cX6_weightIn 13 = .ok (.invokestatic 80, 3) := by decide +kernel
theorem dX6_weightIn_16 : decode cX6_weightIn 16 = .ok (.ireturn, 1) := by decide +kernel
theorem dX6_weighsSomewhere_0 : decode cX6_weighsSomewhere 0 = .ok (.iconst 0, 1) := by decide +kernel
theorem dX6_weighsSomewhere_1 : decode cX6_weighsSomewhere 1 = .ok (.istore_n 3, 1) := by decide +kernel
theorem dX6_weighsSomewhere_2 : decode cX6_weighsSomewhere 2 = .ok (.iload_n 3, 1) := by decide +kernel
theorem dX6_weighsSomewhere_3 : decode cX6_weighsSomewhere 3 = .ok (.iconst 5, 1) := by decide +kernel
theorem dX6_weighsSomewhere_4 : decode cX6_weighsSomewhere 4 = .ok (.if_icmp .ge 21, 3) := by decide +kernel
theorem dX6_weighsSomewhere_7 : decode cX6_weighsSomewhere 7 = .ok (.aload_n 0, 1) := by decide +kernel
theorem dX6_weighsSomewhere_8 : decode cX6_weighsSomewhere 8 = .ok (.iload_n 1, 1) := by decide +kernel
theorem dX6_weighsSomewhere_9 : decode cX6_weighsSomewhere 9 = .ok (.iload_n 3, 1) := by decide +kernel
theorem dX6_weighsSomewhere_10 : decode cX6_weighsSomewhere 10 = .ok (.invokevirtual 86, 3) := by decide +kernel
theorem dX6_weighsSomewhere_13 : decode cX6_weighsSomewhere 13 = .ok (.iload_n 2, 1) := by decide +kernel
theorem dX6_weighsSomewhere_14 : decode cX6_weighsSomewhere 14 = .ok (.if_icmp .ne 5, 3) := by decide +kernel
theorem dX6_weighsSomewhere_17 : decode cX6_weighsSomewhere 17 = .ok (.iconst 1, 1) := by decide +kernel
theorem dX6_weighsSomewhere_18 : decode cX6_weighsSomewhere 18 = .ok (.ireturn, 1) := by decide +kernel
theorem dX6_weighsSomewhere_19 : decode cX6_weighsSomewhere 19 = .ok (.iinc 3 1, 3) := by decide +kernel
theorem dX6_weighsSomewhere_22 : decode cX6_weighsSomewhere 22 = .ok (.goto (-20), 3) := by decide +kernel
theorem dX6_weighsSomewhere_25 : decode cX6_weighsSomewhere 25 = .ok (.iconst 0, 1) := by decide +kernel
theorem dX6_weighsSomewhere_26 : decode cX6_weighsSomewhere 26 = .ok (.ireturn, 1) := by decide +kernel
theorem dX6_thingsIn_0 : decode cX6_thingsIn 0 = .ok (.iconst 0, 1) := by decide +kernel
theorem dX6_thingsIn_1 : decode cX6_thingsIn 1 = .ok (.istore_n 2, 1) := by decide +kernel
theorem dX6_thingsIn_2 : decode cX6_thingsIn 2 = .ok (.iconst 0, 1) := by decide +kernel
theorem dX6_thingsIn_3 : decode cX6_thingsIn 3 = .ok (.istore_n 3, 1) := by decide +kernel
theorem dX6_thingsIn_4 : decode cX6_thingsIn 4 = .ok (.iload_n 3, 1) := by decide +kernel
theorem dX6_thingsIn_5 : decode cX6_thingsIn 5 = .ok (.aload_n 0, 1) := by decide +kernel
theorem dX6_thingsIn_6 : decode cX6_thingsIn 6 = .ok (.getfield 61, 3) := by decide +kernel
theorem dX6_thingsIn_9 : decode cX6_thingsIn 9 = .ok (.if_icmp .ge 25, 3) := by decide +kernel
theorem dX6_thingsIn_12 : decode cX6_thingsIn 12 = .ok (.aload_n 0, 1) := by decide +kernel
theorem dX6_thingsIn_13 : decode cX6_thingsIn 13 = .ok (.getfield 22, 3) := by decide +kernel
theorem dX6_thingsIn_16 : decode cX6_thingsIn 16 = .ok (.iload_n 3, 1) := by decide +kernel
theorem dX6_thingsIn_17 : decode cX6_thingsIn 17 = .ok (.iaload, 1) := by decide +kernel
theorem dX6_thingsIn_18 : decode cX6_thingsIn 18 = .ok (.iload_n 1, 1) := by decide +kernel
theorem dX6_thingsIn_19 : decode cX6_thingsIn 19 = .ok (.if_icmp .ne 9, 3) := by decide +kernel
theorem dX6_thingsIn_22 : decode cX6_thingsIn 22 = .ok (.iload_n 2, 1) := by decide +kernel
theorem dX6_thingsIn_23 : decode cX6_thingsIn 23 = .ok (.iconst 1, 1) := by decide +kernel
theorem dX6_thingsIn_24 : decode cX6_thingsIn 24 = .ok (.iload_n 3, 1) := by decide +kernel
theorem dX6_thingsIn_25 : decode cX6_thingsIn 25 = .ok (.ishl, 1) := by decide +kernel
theorem dX6_thingsIn_26 : decode cX6_thingsIn 26 = .ok (.ior, 1) := by decide +kernel
theorem dX6_thingsIn_27 : decode cX6_thingsIn 27 = .ok (.istore_n 2, 1) := by decide +kernel
theorem dX6_thingsIn_28 : decode cX6_thingsIn 28 = .ok (.iinc 3 1, 3) := by decide +kernel
theorem dX6_thingsIn_31 : decode cX6_thingsIn 31 = .ok (.goto (-27), 3) := by decide +kernel
theorem dX6_thingsIn_34 : decode cX6_thingsIn 34 = .ok (.iload_n 2, 1) := by decide +kernel
theorem dX6_thingsIn_35 : decode cX6_thingsIn 35 = .ok (.ireturn, 1) := by decide +kernel
theorem dX6_addOne_0 : decode cX6_addOne 0 = .ok (.aload_n 0, 1) := by decide +kernel
theorem dX6_addOne_1 : decode cX6_addOne 1 = .ok (.getfield 64, 3) := by decide +kernel
theorem dX6_addOne_4 : decode cX6_addOne 4 = .ok (.iconst 4, 1) := by decide +kernel
theorem dX6_addOne_5 : decode cX6_addOne 5 = .ok (.if_icmp .lt 6, 3) := by decide +kernel
theorem dX6_addOne_8 : decode cX6_addOne 8 = .ok (.ldc 79, 2) := by decide +kernel
theorem dX6_addOne_10 : decode cX6_addOne 10 = .ok (.ireturn, 1) := by decide +kernel
theorem dX6_addOne_11 : decode cX6_addOne 11 = .ok (.aload_n 0, 1) := by decide +kernel
theorem dX6_addOne_12 : decode cX6_addOne 12 = .ok (.getfield 28, 3) := by decide +kernel
theorem dX6_addOne_15 : decode cX6_addOne 15 = .ok (.aload_n 0, 1) := by decide +kernel
theorem dX6_addOne_16 : decode cX6_addOne 16 = .ok (.getfield 64, 3) := by decide +kernel
theorem dX6_addOne_19 : decode cX6_addOne 19 = .ok (.iload_n 1, 1) := by decide +kernel
theorem dX6_addOne_20 : decode cX6_addOne 20 = .ok (.iastore, 1) := by decide +kernel
theorem dX6_addOne_21 : decode cX6_addOne 21 = .ok (.aload_n 0, 1) := by decide +kernel
theorem dX6_addOne_22 : decode cX6_addOne 22 = .ok (.getfield 31, 3) := by decide +kernel
theorem dX6_addOne_25 : decode cX6_addOne 25 = .ok (.aload_n 0, 1) := by decide +kernel
theorem dX6_addOne_26 : decode cX6_addOne 26 = .ok (.getfield 64, 3) := by decide +kernel
theorem dX6_addOne_29 : decode cX6_addOne 29 = .ok (.iload_n 2, 1) := by decide +kernel
theorem dX6_addOne_30 : decode cX6_addOne 30 = .ok (.iastore, 1) := by decide +kernel
theorem dX6_addOne_31 : decode cX6_addOne 31 = .ok (.aload_n 0, 1) := by decide +kernel
theorem dX6_addOne_32 : decode cX6_addOne 32 = .ok (.dup, 1) := by decide +kernel
theorem dX6_addOne_33 : decode cX6_addOne 33 = .ok (.getfield 64, 3) := by decide +kernel
theorem dX6_addOne_36 : decode cX6_addOne 36 = .ok (.iconst 1, 1) := by decide +kernel
theorem dX6_addOne_37 : decode cX6_addOne 37 = .ok (.iadd, 1) := by decide +kernel
theorem dX6_addOne_38 : decode cX6_addOne 38 = .ok (.putfield 64, 3) := by decide +kernel
theorem dX6_addOne_41 : decode cX6_addOne 41 = .ok (.aload_n 0, 1) := by decide +kernel
theorem dX6_addOne_42 : decode cX6_addOne 42 = .ok (.getfield 64, 3) := by decide +kernel
theorem dX6_addOne_45 : decode cX6_addOne 45 = .ok (.iconst 1, 1) := by decide +kernel
theorem dX6_addOne_46 : decode cX6_addOne 46 = .ok (.isub, 1) := by decide +kernel
theorem dX6_addOne_47 : decode cX6_addOne 47 = .ok (.ireturn, 1) := by decide +kernel
theorem dX6_traitOf_0 : decode cX6_traitOf 0 = .ok (.iload_n 2, 1) := by decide +kernel
theorem dX6_traitOf_1 : decode cX6_traitOf 1 = .ok (.ifCond .ne 12, 3) := by decide +kernel
theorem dX6_traitOf_4 : decode cX6_traitOf 4 = .ok (.aload_n 0, 1) := by decide +kernel
theorem dX6_traitOf_5 : decode cX6_traitOf 5 = .ok (.getfield 28, 3) := by decide +kernel
theorem dX6_traitOf_8 : decode cX6_traitOf 8 = .ok (.iload_n 1, 1) := by decide +kernel
theorem dX6_traitOf_9 : decode cX6_traitOf 9 = .ok (.iaload, 1) := by decide +kernel
theorem dX6_traitOf_10 : decode cX6_traitOf 10 = .ok (.goto 9, 3) := by decide +kernel
theorem dX6_traitOf_13 : decode cX6_traitOf 13 = .ok (.aload_n 0, 1) := by decide +kernel
theorem dX6_traitOf_14 : decode cX6_traitOf 14 = .ok (.getfield 31, 3) := by decide +kernel
theorem dX6_traitOf_17 : decode cX6_traitOf 17 = .ok (.iload_n 1, 1) := by decide +kernel
theorem dX6_traitOf_18 : decode cX6_traitOf 18 = .ok (.iaload, 1) := by decide +kernel
theorem dX6_traitOf_19 : decode cX6_traitOf 19 = .ok (.ireturn, 1) := by decide +kernel
theorem dX6_setTrait_0 : decode cX6_setTrait 0 = .ok (.iload_n 2, 1) := by decide +kernel
theorem dX6_setTrait_1 : decode cX6_setTrait 1 = .ok (.ifCond .ne 13, 3) := by decide +kernel
theorem dX6_setTrait_4 : decode cX6_setTrait 4 = .ok (.aload_n 0, 1) := by decide +kernel
theorem dX6_setTrait_5 : decode cX6_setTrait 5 = .ok (.getfield 28, 3) := by decide +kernel
theorem dX6_setTrait_8 : decode cX6_setTrait 8 = .ok (.iload_n 1, 1) := by decide +kernel
theorem dX6_setTrait_9 : decode cX6_setTrait 9 = .ok (.iload_n 3, 1) := by decide +kernel
theorem dX6_setTrait_10 : decode cX6_setTrait 10 = .ok (.iastore, 1) := by decide +kernel
theorem dX6_setTrait_11 : decode cX6_setTrait 11 = .ok (.goto 10, 3) := by decide +kernel
theorem dX6_setTrait_14 : decode cX6_setTrait 14 = .ok (.aload_n 0, 1) := by decide +kernel
theorem dX6_setTrait_15 : decode cX6_setTrait 15 = .ok (.getfield 31, 3) := by decide +kernel
theorem dX6_setTrait_18 : decode cX6_setTrait 18 = .ok (.iload_n 1, 1) := by decide +kernel
theorem dX6_setTrait_19 : decode cX6_setTrait 19 = .ok (.iload_n 3, 1) := by decide +kernel
theorem dX6_setTrait_20 : decode cX6_setTrait 20 = .ok (.iastore, 1) := by decide +kernel
theorem dX6_setTrait_21 : decode cX6_setTrait 21 = .ok (.return_, 1) := by decide +kernel
theorem dX6_roomOf_0 : decode cX6_roomOf 0 = .ok (.aload_n 0, 1) := by decide +kernel
theorem dX6_roomOf_1 : decode cX6_roomOf 1 = .ok (.getfield 28, 3) := by decide +kernel
theorem dX6_roomOf_4 : decode cX6_roomOf 4 = .ok (.iload_n 1, 1) := by decide +kernel
theorem dX6_roomOf_5 : decode cX6_roomOf 5 = .ok (.iaload, 1) := by decide +kernel
theorem dX6_roomOf_6 : decode cX6_roomOf 6 = .ok (.bipush 8, 2) := by decide +kernel
theorem dX6_roomOf_8 : decode cX6_roomOf 8 = .ok (.irem, 1) := by decide +kernel
theorem dX6_roomOf_9 : decode cX6_roomOf 9 = .ok (.ireturn, 1) := by decide +kernel
theorem dX6_levelOf_0 : decode cX6_levelOf 0 = .ok (.aload_n 0, 1) := by decide +kernel
theorem dX6_levelOf_1 : decode cX6_levelOf 1 = .ok (.getfield 28, 3) := by decide +kernel
theorem dX6_levelOf_4 : decode cX6_levelOf 4 = .ok (.iload_n 1, 1) := by decide +kernel
theorem dX6_levelOf_5 : decode cX6_levelOf 5 = .ok (.iaload, 1) := by decide +kernel
theorem dX6_levelOf_6 : decode cX6_levelOf 6 = .ok (.bipush 8, 2) := by decide +kernel
theorem dX6_levelOf_8 : decode cX6_levelOf 8 = .ok (.idiv, 1) := by decide +kernel
theorem dX6_levelOf_9 : decode cX6_levelOf 9 = .ok (.ireturn, 1) := by decide +kernel
theorem dX6_moveTo_0 : decode cX6_moveTo 0 = .ok (.aload_n 0, 1) := by decide +kernel
theorem dX6_moveTo_1 : decode cX6_moveTo 1 = .ok (.getfield 28, 3) := by decide +kernel
theorem dX6_moveTo_4 : decode cX6_moveTo 4 = .ok (.iload_n 1, 1) := by decide +kernel
theorem dX6_moveTo_5 : decode cX6_moveTo 5 = .ok (.aload_n 0, 1) := by decide +kernel
theorem dX6_moveTo_6 : decode cX6_moveTo 6 = .ok (.iload_n 1, 1) := by decide +kernel
theorem dX6_moveTo_7 : decode cX6_moveTo 7 = .ok (.invokevirtual 90, 3) := by decide +kernel
theorem dX6_moveTo_10 : decode cX6_moveTo 10 = .ok (.bipush 8, 2) := by decide +kernel
theorem dX6_moveTo_12 : decode cX6_moveTo 12 = .ok (.imul, 1) := by decide +kernel
theorem dX6_moveTo_13 : decode cX6_moveTo 13 = .ok (.iload_n 2, 1) := by decide +kernel
theorem dX6_moveTo_14 : decode cX6_moveTo 14 = .ok (.iadd, 1) := by decide +kernel
theorem dX6_moveTo_15 : decode cX6_moveTo 15 = .ok (.iastore, 1) := by decide +kernel
theorem dX6_moveTo_16 : decode cX6_moveTo 16 = .ok (.return_, 1) := by decide +kernel
theorem dX6_placeInside_0 : decode cX6_placeInside 0 = .ok (.iload_n 1, 1) := by decide +kernel
theorem dX6_placeInside_1 : decode cX6_placeInside 1 = .ok (.bipush 8, 2) := by decide +kernel
theorem dX6_placeInside_3 : decode cX6_placeInside 3 = .ok (.irem, 1) := by decide +kernel
theorem dX6_placeInside_4 : decode cX6_placeInside 4 = .ok (.aload_n 0, 1) := by decide +kernel
theorem dX6_placeInside_5 : decode cX6_placeInside 5 = .ok (.getfield 15, 3) := by decide +kernel
theorem dX6_placeInside_8 : decode cX6_placeInside 8 = .ok (.if_icmp .ne 15, 3) := by decide +kernel
theorem dX6_placeInside_11 : decode cX6_placeInside 11 = .ok (.iload_n 1, 1) := by decide +kernel
theorem dX6_placeInside_12 : decode cX6_placeInside 12 = .ok (.bipush 8, 2) := by decide +kernel
theorem dX6_placeInside_14 : decode cX6_placeInside 14 = .ok (.idiv, 1) := by decide +kernel
theorem dX6_placeInside_15 : decode cX6_placeInside 15 = .ok (.iconst 4, 1) := by decide +kernel
theorem dX6_placeInside_16 : decode cX6_placeInside 16 = .ok (.if_icmp .ge 7, 3) := by decide +kernel
theorem dX6_placeInside_19 : decode cX6_placeInside 19 = .ok (.iconst 1, 1) := by decide +kernel
theorem dX6_placeInside_20 : decode cX6_placeInside 20 = .ok (.goto 4, 3) := by decide +kernel
theorem dX6_placeInside_23 : decode cX6_placeInside 23 = .ok (.iconst 0, 1) := by decide +kernel
theorem dX6_placeInside_24 : decode cX6_placeInside 24 = .ok (.istore_n 2, 1) := by decide +kernel
theorem dX6_placeInside_25 : decode cX6_placeInside 25 = .ok (.iload_n 2, 1) := by decide +kernel
theorem dX6_placeInside_26 : decode cX6_placeInside 26 = .ok (.ifCond .eq 20, 3) := by decide +kernel
theorem dX6_placeInside_29 : decode cX6_placeInside 29 = .ok (.iload_n 1, 1) := by decide +kernel
theorem dX6_placeInside_30 : decode cX6_placeInside 30 = .ok (.bipush 8, 2) := by decide +kernel
theorem dX6_placeInside_32 : decode cX6_placeInside 32 = .ok (.idiv, 1) := by decide +kernel
theorem dX6_placeInside_33 : decode cX6_placeInside 33 = .ok (.iconst 1, 1) := by decide +kernel
theorem dX6_placeInside_34 : decode cX6_placeInside 34 = .ok (.iadd, 1) := by decide +kernel
theorem dX6_placeInside_35 : decode cX6_placeInside 35 = .ok (.bipush 8, 2) := by decide +kernel
theorem dX6_placeInside_37 : decode cX6_placeInside 37 = .ok (.imul, 1) := by decide +kernel
theorem dX6_placeInside_38 : decode cX6_placeInside 38 = .ok (.aload_n 0, 1) := by decide +kernel
theorem dX6_placeInside_39 : decode cX6_placeInside 39 = .ok (.getfield 55, 3) := by decide +kernel
theorem dX6_placeInside_42 : decode cX6_placeInside 42 = .ok (.iadd, 1) := by decide +kernel
theorem dX6_placeInside_43 : decode cX6_placeInside 43 = .ok (.goto 4, 3) := by decide +kernel
theorem dX6_placeInside_46 : decode cX6_placeInside 46 = .ok (.iconst (-1), 1) := by decide +kernel
theorem dX6_placeInside_47 : decode cX6_placeInside 47 = .ok (.ireturn, 1) := by decide +kernel
end
section
theorem dX6_placeOutside_0 : decode cX6_placeOutside 0 = .ok (.iload_n 1, 1) := by decide +kernel
theorem dX6_placeOutside_1 : decode cX6_placeOutside 1 = .ok (.bipush 8, 2) := by decide +kernel
theorem dX6_placeOutside_3 : decode cX6_placeOutside 3 = .ok (.irem, 1) := by decide +kernel
theorem dX6_placeOutside_4 : decode cX6_placeOutside 4 = .ok (.aload_n 0, 1) := by decide +kernel
theorem dX6_placeOutside_5 : decode cX6_placeOutside 5 = .ok (.getfield 55, 3) := by decide +kernel
theorem dX6_placeOutside_8 : decode cX6_placeOutside 8 = .ok (.if_icmp .ne 14, 3) := by decide +kernel
theorem dX6_placeOutside_11 : decode cX6_placeOutside 11 = .ok (.iload_n 1, 1) := by decide +kernel
theorem dX6_placeOutside_12 : decode cX6_placeOutside 12 = .ok (.bipush 8, 2) := by decide +kernel
theorem dX6_placeOutside_14 : decode cX6_placeOutside 14 = .ok (.idiv, 1) := by decide +kernel
theorem dX6_placeOutside_15 : decode cX6_placeOutside 15 = .ok (.ifCond .le 7, 3) := by decide +kernel
theorem dX6_placeOutside_18 : decode cX6_placeOutside 18 = .ok (.iconst 1, 1) := by decide +kernel
theorem dX6_placeOutside_19 : decode cX6_placeOutside 19 = .ok (.goto 4, 3) := by decide +kernel
theorem dX6_placeOutside_22 : decode cX6_placeOutside 22 = .ok (.iconst 0, 1) := by decide +kernel
theorem dX6_placeOutside_23 : decode cX6_placeOutside 23 = .ok (.istore_n 2, 1) := by decide +kernel
theorem dX6_placeOutside_24 : decode cX6_placeOutside 24 = .ok (.iload_n 2, 1) := by decide +kernel
theorem dX6_placeOutside_25 : decode cX6_placeOutside 25 = .ok (.ifCond .eq 20, 3) := by decide +kernel
theorem dX6_placeOutside_28 : decode cX6_placeOutside 28 = .ok (.iload_n 1, 1) := by decide +kernel
theorem dX6_placeOutside_29 : decode cX6_placeOutside 29 = .ok (.bipush 8, 2) := by decide +kernel
theorem dX6_placeOutside_31 : decode cX6_placeOutside 31 = .ok (.idiv, 1) := by decide +kernel
theorem dX6_placeOutside_32 : decode cX6_placeOutside 32 = .ok (.iconst 1, 1) := by decide +kernel
theorem dX6_placeOutside_33 : decode cX6_placeOutside 33 = .ok (.isub, 1) := by decide +kernel
theorem dX6_placeOutside_34 : decode cX6_placeOutside 34 = .ok (.bipush 8, 2) := by decide +kernel
theorem dX6_placeOutside_36 : decode cX6_placeOutside 36 = .ok (.imul, 1) := by decide +kernel
theorem dX6_placeOutside_37 : decode cX6_placeOutside 37 = .ok (.aload_n 0, 1) := by decide +kernel
theorem dX6_placeOutside_38 : decode cX6_placeOutside 38 = .ok (.getfield 15, 3) := by decide +kernel
theorem dX6_placeOutside_41 : decode cX6_placeOutside 41 = .ok (.iadd, 1) := by decide +kernel
theorem dX6_placeOutside_42 : decode cX6_placeOutside 42 = .ok (.goto 4, 3) := by decide +kernel
theorem dX6_placeOutside_45 : decode cX6_placeOutside 45 = .ok (.iconst (-1), 1) := by decide +kernel
theorem dX6_placeOutside_46 : decode cX6_placeOutside 46 = .ok (.ireturn, 1) := by decide +kernel
theorem dX6_nextPlaces_0 : decode cX6_nextPlaces 0 = .ok (.lconst 0, 1) := by decide +kernel
theorem dX6_nextPlaces_1 : decode cX6_nextPlaces 1 = .ok (.lstore_n 3, 1) := by decide +kernel
theorem dX6_nextPlaces_2 : decode cX6_nextPlaces 2 = .ok (.iconst 0, 1) := by decide +kernel
theorem dX6_nextPlaces_3 : decode cX6_nextPlaces 3 = .ok (.istore 5, 2) := by decide +kernel
theorem dX6_nextPlaces_5 : decode cX6_nextPlaces 5 = .ok (.iload 5, 2) := by decide +kernel
theorem dX6_nextPlaces_7 : decode cX6_nextPlaces 7 = .ok (.bipush 8, 2) := by decide +kernel
theorem dX6_nextPlaces_9 : decode cX6_nextPlaces 9 = .ok (.if_icmp .ge 29, 3) := by decide +kernel
theorem dX6_nextPlaces_12 : decode cX6_nextPlaces 12 = .ok (.lload_n 3, 1) := by decide +kernel
theorem dX6_nextPlaces_13 : decode cX6_nextPlaces 13 = .ok (.lload_n 1, 1) := by decide +kernel
theorem dX6_nextPlaces_14 : decode cX6_nextPlaces 14 = .ok (.iload 5, 2) := by decide +kernel
theorem dX6_nextPlaces_16 : decode cX6_nextPlaces 16 = .ok (.lushr, 1) := by decide +kernel
theorem dX6_nextPlaces_17 : decode cX6_nextPlaces 17 = .ok (.ldc2_w 94, 3) := by decide +kernel
theorem dX6_nextPlaces_20 : decode cX6_nextPlaces 20 = .ok (.land, 1) := by decide +kernel
theorem dX6_nextPlaces_21 : decode cX6_nextPlaces 21 = .ok (.aload_n 0, 1) := by decide +kernel
theorem dX6_nextPlaces_22 : decode cX6_nextPlaces 22 = .ok (.getfield 9, 3) := by decide +kernel
theorem dX6_nextPlaces_25 : decode cX6_nextPlaces 25 = .ok (.iload 5, 2) := by decide +kernel
theorem dX6_nextPlaces_27 : decode cX6_nextPlaces 27 = .ok (.iaload, 1) := by decide +kernel
theorem dX6_nextPlaces_28 : decode cX6_nextPlaces 28 = .ok (.i2l, 1) := by decide +kernel
theorem dX6_nextPlaces_29 : decode cX6_nextPlaces 29 = .ok (.lmul, 1) := by decide +kernel
theorem dX6_nextPlaces_30 : decode cX6_nextPlaces 30 = .ok (.lor, 1) := by decide +kernel
theorem dX6_nextPlaces_31 : decode cX6_nextPlaces 31 = .ok (.lstore_n 3, 1) := by decide +kernel
theorem dX6_nextPlaces_32 : decode cX6_nextPlaces 32 = .ok (.iinc 5 1, 3) := by decide +kernel
theorem dX6_nextPlaces_35 : decode cX6_nextPlaces 35 = .ok (.goto (-30), 3) := by decide +kernel
theorem dX6_nextPlaces_38 : decode cX6_nextPlaces 38 = .ok (.lload_n 3, 1) := by decide +kernel
theorem dX6_nextPlaces_39 : decode cX6_nextPlaces 39 = .ok (.lload_n 1, 1) := by decide +kernel
theorem dX6_nextPlaces_40 : decode cX6_nextPlaces 40 = .ok (.aload_n 0, 1) := by decide +kernel
theorem dX6_nextPlaces_41 : decode cX6_nextPlaces 41 = .ok (.getfield 15, 3) := by decide +kernel
theorem dX6_nextPlaces_44 : decode cX6_nextPlaces 44 = .ok (.lushr, 1) := by decide +kernel
theorem dX6_nextPlaces_45 : decode cX6_nextPlaces 45 = .ok (.ldc2_w 96, 3) := by decide +kernel
theorem dX6_nextPlaces_48 : decode cX6_nextPlaces 48 = .ok (.land, 1) := by decide +kernel
theorem dX6_nextPlaces_49 : decode cX6_nextPlaces 49 = .ok (.bipush 8, 2) := by decide +kernel
theorem dX6_nextPlaces_51 : decode cX6_nextPlaces 51 = .ok (.aload_n 0, 1) := by decide +kernel
theorem dX6_nextPlaces_52 : decode cX6_nextPlaces 52 = .ok (.getfield 55, 3) := by decide +kernel
theorem dX6_nextPlaces_55 : decode cX6_nextPlaces 55 = .ok (.iadd, 1) := by decide +kernel
theorem dX6_nextPlaces_56 : decode cX6_nextPlaces 56 = .ok (.lshl, 1) := by decide +kernel
theorem dX6_nextPlaces_57 : decode cX6_nextPlaces 57 = .ok (.lor, 1) := by decide +kernel
theorem dX6_nextPlaces_58 : decode cX6_nextPlaces 58 = .ok (.lstore_n 3, 1) := by decide +kernel
theorem dX6_nextPlaces_59 : decode cX6_nextPlaces 59 = .ok (.lload_n 3, 1) := by decide +kernel
theorem dX6_nextPlaces_60 : decode cX6_nextPlaces 60 = .ok (.lload_n 1, 1) := by decide +kernel
theorem dX6_nextPlaces_61 : decode cX6_nextPlaces 61 = .ok (.aload_n 0, 1) := by decide +kernel
theorem dX6_nextPlaces_62 : decode cX6_nextPlaces 62 = .ok (.getfield 55, 3) := by decide +kernel
theorem dX6_nextPlaces_65 : decode cX6_nextPlaces 65 = .ok (.lushr, 1) := by decide +kernel
theorem dX6_nextPlaces_66 : decode cX6_nextPlaces 66 = .ok (.ldc2_w 94, 3) := by decide +kernel
theorem dX6_nextPlaces_69 : decode cX6_nextPlaces 69 = .ok (.land, 1) := by decide +kernel
theorem dX6_nextPlaces_70 : decode cX6_nextPlaces 70 = .ok (.bipush 8, 2) := by decide +kernel
theorem dX6_nextPlaces_72 : decode cX6_nextPlaces 72 = .ok (.lushr, 1) := by decide +kernel
theorem dX6_nextPlaces_73 : decode cX6_nextPlaces 73 = .ok (.aload_n 0, 1) := by decide +kernel
theorem dX6_nextPlaces_74 : decode cX6_nextPlaces 74 = .ok (.getfield 15, 3) := by decide +kernel
theorem dX6_nextPlaces_77 : decode cX6_nextPlaces 77 = .ok (.lshl, 1) := by decide +kernel
theorem dX6_nextPlaces_78 : decode cX6_nextPlaces 78 = .ok (.lor, 1) := by decide +kernel
theorem dX6_nextPlaces_79 : decode cX6_nextPlaces 79 = .ok (.lstore_n 3, 1) := by decide +kernel
theorem dX6_nextPlaces_80 : decode cX6_nextPlaces 80 = .ok (.lload_n 3, 1) := by decide +kernel
theorem dX6_nextPlaces_81 : decode cX6_nextPlaces 81 = .ok (.lreturn, 1) := by decide +kernel
theorem dX6_lightLevels_0 : decode cX6_lightLevels 0 = .ok (.lconst 0, 1) := by decide +kernel
theorem dX6_lightLevels_1 : decode cX6_lightLevels 1 = .ok (.lstore_n 3, 1) := by decide +kernel
theorem dX6_lightLevels_2 : decode cX6_lightLevels 2 = .ok (.iconst 0, 1) := by decide +kernel
theorem dX6_lightLevels_3 : decode cX6_lightLevels 3 = .ok (.istore 5, 2) := by decide +kernel
theorem dX6_lightLevels_5 : decode cX6_lightLevels 5 = .ok (.iload 5, 2) := by decide +kernel
theorem dX6_lightLevels_7 : decode cX6_lightLevels 7 = .ok (.iconst 5, 1) := by decide +kernel
theorem dX6_lightLevels_8 : decode cX6_lightLevels 8 = .ok (.if_icmp .ge 35, 3) := by decide +kernel
theorem dX6_lightLevels_11 : decode cX6_lightLevels 11 = .ok (.aload_n 0, 1) := by decide +kernel
theorem dX6_lightLevels_12 : decode cX6_lightLevels 12 = .ok (.iload_n 2, 1) := by decide +kernel
theorem dX6_lightLevels_13 : decode cX6_lightLevels 13 = .ok (.iload 5, 2) := by decide +kernel
theorem dX6_lightLevels_15 : decode cX6_lightLevels 15 = .ok (.invokevirtual 86, 3) := by decide +kernel
theorem dX6_lightLevels_18 : decode cX6_lightLevels 18 = .ok (.aload_n 0, 1) := by decide +kernel
theorem dX6_lightLevels_19 : decode cX6_lightLevels 19 = .ok (.getfield 31, 3) := by decide +kernel
theorem dX6_lightLevels_22 : decode cX6_lightLevels 22 = .ok (.iload_n 1, 1) := by decide +kernel
theorem dX6_lightLevels_23 : decode cX6_lightLevels 23 = .ok (.iaload, 1) := by decide +kernel
theorem dX6_lightLevels_24 : decode cX6_lightLevels 24 = .ok (.if_icmp .gt 13, 3) := by decide +kernel
theorem dX6_lightLevels_27 : decode cX6_lightLevels 27 = .ok (.lload_n 3, 1) := by decide +kernel
theorem dX6_lightLevels_28 : decode cX6_lightLevels 28 = .ok (.lconst 1, 1) := by decide +kernel
theorem dX6_lightLevels_29 : decode cX6_lightLevels 29 = .ok (.iload 5, 2) := by decide +kernel
theorem dX6_lightLevels_31 : decode cX6_lightLevels 31 = .ok (.bipush 8, 2) := by decide +kernel
theorem dX6_lightLevels_33 : decode cX6_lightLevels 33 = .ok (.imul, 1) := by decide +kernel
theorem dX6_lightLevels_34 : decode cX6_lightLevels 34 = .ok (.lshl, 1) := by decide +kernel
theorem dX6_lightLevels_35 : decode cX6_lightLevels 35 = .ok (.lor, 1) := by decide +kernel
theorem dX6_lightLevels_36 : decode cX6_lightLevels 36 = .ok (.lstore_n 3, 1) := by decide +kernel
theorem dX6_lightLevels_37 : decode cX6_lightLevels 37 = .ok (.iinc 5 1, 3) := by decide +kernel
theorem dX6_lightLevels_40 : decode cX6_lightLevels 40 = .ok (.goto (-35), 3) := by decide +kernel
theorem dX6_lightLevels_43 : decode cX6_lightLevels 43 = .ok (.lload_n 3, 1) := by decide +kernel
theorem dX6_lightLevels_44 : decode cX6_lightLevels 44 = .ok (.lreturn, 1) := by decide +kernel
theorem dX6_canCarry_0 : decode cX6_canCarry 0 = .ok (.aload_n 0, 1) := by decide +kernel
theorem dX6_canCarry_1 : decode cX6_canCarry 1 = .ok (.getfield 22, 3) := by decide +kernel
theorem dX6_canCarry_4 : decode cX6_canCarry 4 = .ok (.iload_n 2, 1) := by decide +kernel
theorem dX6_canCarry_5 : decode cX6_canCarry 5 = .ok (.iaload, 1) := by decide +kernel
theorem dX6_canCarry_6 : decode cX6_canCarry 6 = .ok (.aload_n 0, 1) := by decide +kernel
theorem dX6_canCarry_7 : decode cX6_canCarry 7 = .ok (.iload_n 1, 1) := by decide +kernel
theorem dX6_canCarry_8 : decode cX6_canCarry 8 = .ok (.invokevirtual 98, 3) := by decide +kernel
theorem dX6_canCarry_11 : decode cX6_canCarry 11 = .ok (.if_icmp .ne 26, 3) := by decide +kernel
theorem dX6_canCarry_14 : decode cX6_canCarry 14 = .ok (.aload_n 0, 1) := by decide +kernel
theorem dX6_canCarry_15 : decode cX6_canCarry 15 = .ok (.iload_n 2, 1) := by decide +kernel
theorem dX6_canCarry_16 : decode cX6_canCarry 16 = .ok (.aload_n 0, 1) := by decide +kernel
theorem dX6_canCarry_17 : decode cX6_canCarry 17 = .ok (.iload_n 1, 1) := by decide +kernel
theorem dX6_canCarry_18 : decode cX6_canCarry 18 = .ok (.invokevirtual 90, 3) := by decide +kernel
theorem dX6_canCarry_21 : decode cX6_canCarry 21 = .ok (.invokevirtual 86, 3) := by decide +kernel
theorem dX6_canCarry_24 : decode cX6_canCarry 24 = .ok (.aload_n 0, 1) := by decide +kernel
theorem dX6_canCarry_25 : decode cX6_canCarry 25 = .ok (.getfield 31, 3) := by decide +kernel
theorem dX6_canCarry_28 : decode cX6_canCarry 28 = .ok (.iload_n 1, 1) := by decide +kernel
theorem dX6_canCarry_29 : decode cX6_canCarry 29 = .ok (.iaload, 1) := by decide +kernel
theorem dX6_canCarry_30 : decode cX6_canCarry 30 = .ok (.if_icmp .gt 7, 3) := by decide +kernel
theorem dX6_canCarry_33 : decode cX6_canCarry 33 = .ok (.iconst 1, 1) := by decide +kernel
theorem dX6_canCarry_34 : decode cX6_canCarry 34 = .ok (.goto 4, 3) := by decide +kernel
theorem dX6_canCarry_37 : decode cX6_canCarry 37 = .ok (.iconst 0, 1) := by decide +kernel
theorem dX6_canCarry_38 : decode cX6_canCarry 38 = .ok (.ireturn, 1) := by decide +kernel
theorem dX6_canReach_0 : decode cX6_canReach 0 = .ok (.aload_n 0, 1) := by decide +kernel
theorem dX6_canReach_1 : decode cX6_canReach 1 = .ok (.iload_n 1, 1) := by decide +kernel
theorem dX6_canReach_2 : decode cX6_canReach 2 = .ok (.invokevirtual 90, 3) := by decide +kernel
theorem dX6_canReach_5 : decode cX6_canReach 5 = .ok (.istore_n 3, 1) := by decide +kernel
theorem dX6_canReach_6 : decode cX6_canReach 6 = .ok (.aload_n 0, 1) := by decide +kernel
theorem dX6_canReach_7 : decode cX6_canReach 7 = .ok (.iload_n 1, 1) := by decide +kernel
theorem dX6_canReach_8 : decode cX6_canReach 8 = .ok (.invokevirtual 98, 3) := by decide +kernel
theorem dX6_canReach_11 : decode cX6_canReach 11 = .ok (.aload_n 0, 1) := by decide +kernel
theorem dX6_canReach_12 : decode cX6_canReach 12 = .ok (.getfield 15, 3) := by decide +kernel
theorem dX6_canReach_15 : decode cX6_canReach 15 = .ok (.if_icmp .ne 29, 3) := by decide +kernel
theorem dX6_canReach_18 : decode cX6_canReach 18 = .ok (.iload_n 3, 1) := by decide +kernel
theorem dX6_canReach_19 : decode cX6_canReach 19 = .ok (.iconst 4, 1) := by decide +kernel
theorem dX6_canReach_20 : decode cX6_canReach 20 = .ok (.if_icmp .ge 24, 3) := by decide +kernel
theorem dX6_canReach_23 : decode cX6_canReach 23 = .ok (.aload_n 0, 1) := by decide +kernel
theorem dX6_canReach_24 : decode cX6_canReach 24 = .ok (.iload_n 2, 1) := by decide +kernel
theorem dX6_canReach_25 : decode cX6_canReach 25 = .ok (.iload_n 3, 1) := by decide +kernel
theorem dX6_canReach_26 : decode cX6_canReach 26 = .ok (.iconst 1, 1) := by decide +kernel
theorem dX6_canReach_27 : decode cX6_canReach 27 = .ok (.iadd, 1) := by decide +kernel
theorem dX6_canReach_28 : decode cX6_canReach 28 = .ok (.invokevirtual 86, 3) := by decide +kernel
theorem dX6_canReach_31 : decode cX6_canReach 31 = .ok (.aload_n 0, 1) := by decide +kernel
theorem dX6_canReach_32 : decode cX6_canReach 32 = .ok (.getfield 31, 3) := by decide +kernel
theorem dX6_canReach_35 : decode cX6_canReach 35 = .ok (.iload_n 1, 1) := by decide +kernel
theorem dX6_canReach_36 : decode cX6_canReach 36 = .ok (.iaload, 1) := by decide +kernel
theorem dX6_canReach_37 : decode cX6_canReach 37 = .ok (.if_icmp .gt 7, 3) := by decide +kernel
theorem dX6_canReach_40 : decode cX6_canReach 40 = .ok (.iconst 1, 1) := by decide +kernel
theorem dX6_canReach_41 : decode cX6_canReach 41 = .ok (.goto 4, 3) := by decide +kernel
theorem dX6_canReach_44 : decode cX6_canReach 44 = .ok (.iconst 0, 1) := by decide +kernel
theorem dX6_canReach_45 : decode cX6_canReach 45 = .ok (.ireturn, 1) := by decide +kernel
theorem dX6_canLift_0 : decode cX6_canLift 0 = .ok (.aload_n 0, 1) := by decide +kernel
theorem dX6_canLift_1 : decode cX6_canLift 1 = .ok (.iload_n 1, 1) := by decide +kernel
theorem dX6_canLift_2 : decode cX6_canLift 2 = .ok (.invokevirtual 98, 3) := by decide +kernel
theorem dX6_canLift_5 : decode cX6_canLift 5 = .ok (.aload_n 0, 1) := by decide +kernel
theorem dX6_canLift_6 : decode cX6_canLift 6 = .ok (.getfield 15, 3) := by decide +kernel
theorem dX6_canLift_9 : decode cX6_canLift 9 = .ok (.if_icmp .ne 22, 3) := by decide +kernel
theorem dX6_canLift_12 : decode cX6_canLift 12 = .ok (.aload_n 0, 1) := by decide +kernel
theorem dX6_canLift_13 : decode cX6_canLift 13 = .ok (.iload_n 2, 1) := by decide +kernel
theorem dX6_canLift_14 : decode cX6_canLift 14 = .ok (.invokevirtual 90, 3) := by decide +kernel
theorem dX6_canLift_17 : decode cX6_canLift 17 = .ok (.aload_n 0, 1) := by decide +kernel
theorem dX6_canLift_18 : decode cX6_canLift 18 = .ok (.iload_n 1, 1) := by decide +kernel
theorem dX6_canLift_19 : decode cX6_canLift 19 = .ok (.invokevirtual 90, 3) := by decide +kernel
theorem dX6_canLift_22 : decode cX6_canLift 22 = .ok (.iconst 1, 1) := by decide +kernel
theorem dX6_canLift_23 : decode cX6_canLift 23 = .ok (.iadd, 1) := by decide +kernel
theorem dX6_canLift_24 : decode cX6_canLift 24 = .ok (.if_icmp .ne 7, 3) := by decide +kernel
theorem dX6_canLift_27 : decode cX6_canLift 27 = .ok (.iconst 1, 1) := by decide +kernel
theorem dX6_canLift_28 : decode cX6_canLift 28 = .ok (.goto 4, 3) := by decide +kernel
theorem dX6_canLift_31 : decode cX6_canLift 31 = .ok (.iconst 0, 1) := by decide +kernel
theorem dX6_canLift_32 : decode cX6_canLift 32 = .ok (.ireturn, 1) := by decide +kernel
theorem dX6_carryOver_0 : decode cX6_carryOver 0 = .ok (.aload_n 0, 1) := by decide +kernel
theorem dX6_carryOver_1 : decode cX6_carryOver 1 = .ok (.getfield 22, 3) := by decide +kernel
theorem dX6_carryOver_4 : decode cX6_carryOver 4 = .ok (.iload_n 2, 1) := by decide +kernel
theorem dX6_carryOver_5 : decode cX6_carryOver 5 = .ok (.iaload, 1) := by decide +kernel
theorem dX6_carryOver_6 : decode cX6_carryOver 6 = .ok (.istore 4, 2) := by decide +kernel
theorem dX6_carryOver_8 : decode cX6_carryOver 8 = .ok (.aload_n 0, 1) := by decide +kernel
theorem dX6_carryOver_9 : decode cX6_carryOver 9 = .ok (.iload_n 1, 1) := by decide +kernel
theorem dX6_carryOver_10 : decode cX6_carryOver 10 = .ok (.iload_n 3, 1) := by decide +kernel
theorem dX6_carryOver_11 : decode cX6_carryOver 11 = .ok (.invokevirtual 101, 3) := by decide +kernel
theorem dX6_carryOver_14 : decode cX6_carryOver 14 = .ok (.aload_n 0, 1) := by decide +kernel
theorem dX6_carryOver_15 : decode cX6_carryOver 15 = .ok (.getfield 22, 3) := by decide +kernel
theorem dX6_carryOver_18 : decode cX6_carryOver 18 = .ok (.iload_n 2, 1) := by decide +kernel
theorem dX6_carryOver_19 : decode cX6_carryOver 19 = .ok (.iload_n 3, 1) := by decide +kernel
theorem dX6_carryOver_20 : decode cX6_carryOver 20 = .ok (.iastore, 1) := by decide +kernel
theorem dX6_carryOver_21 : decode cX6_carryOver 21 = .ok (.aload_n 0, 1) := by decide +kernel
theorem dX6_carryOver_22 : decode cX6_carryOver 22 = .ok (.iload_n 3, 1) := by decide +kernel
theorem dX6_carryOver_23 : decode cX6_carryOver 23 = .ok (.invokevirtual 105, 3) := by decide +kernel
theorem dX6_carryOver_26 : decode cX6_carryOver 26 = .ok (.iconst 1, 1) := by decide +kernel
theorem dX6_carryOver_27 : decode cX6_carryOver 27 = .ok (.isub, 1) := by decide +kernel
theorem dX6_carryOver_28 : decode cX6_carryOver 28 = .ok (.istore 5, 2) := by decide +kernel
theorem dX6_carryOver_30 : decode cX6_carryOver 30 = .ok (.aload_n 0, 1) := by decide +kernel
theorem dX6_carryOver_31 : decode cX6_carryOver 31 = .ok (.iload_n 1, 1) := by decide +kernel
theorem dX6_carryOver_32 : decode cX6_carryOver 32 = .ok (.iload_n 2, 1) := by decide +kernel
theorem dX6_carryOver_33 : decode cX6_carryOver 33 = .ok (.iload 4, 2) := by decide +kernel
theorem dX6_carryOver_35 : decode cX6_carryOver 35 = .ok (.iload_n 3, 1) := by decide +kernel
theorem dX6_carryOver_36 : decode cX6_carryOver 36 = .ok (.iload 5, 2) := by decide +kernel
theorem dX6_carryOver_38 : decode cX6_carryOver 38 = .ok (.invokevirtual 108, 3) := by decide +kernel
theorem dX6_carryOver_41 : decode cX6_carryOver 41 = .ok (.iload 5, 2) := by decide +kernel
theorem dX6_carryOver_43 : decode cX6_carryOver 43 = .ok (.ireturn, 1) := by decide +kernel
theorem dX6_reachOver_0 : decode cX6_reachOver 0 = .ok (.aload_n 0, 1) := by decide +kernel
theorem dX6_reachOver_1 : decode cX6_reachOver 1 = .ok (.getfield 22, 3) := by decide +kernel
theorem dX6_reachOver_4 : decode cX6_reachOver 4 = .ok (.iload_n 2, 1) := by decide +kernel
theorem dX6_reachOver_5 : decode cX6_reachOver 5 = .ok (.iaload, 1) := by decide +kernel
theorem dX6_reachOver_6 : decode cX6_reachOver 6 = .ok (.istore 4, 2) := by decide +kernel
theorem dX6_reachOver_8 : decode cX6_reachOver 8 = .ok (.aload_n 0, 1) := by decide +kernel
theorem dX6_reachOver_9 : decode cX6_reachOver 9 = .ok (.getfield 22, 3) := by decide +kernel
theorem dX6_reachOver_12 : decode cX6_reachOver 12 = .ok (.iload_n 2, 1) := by decide +kernel
theorem dX6_reachOver_13 : decode cX6_reachOver 13 = .ok (.iload_n 3, 1) := by decide +kernel
theorem dX6_reachOver_14 : decode cX6_reachOver 14 = .ok (.iastore, 1) := by decide +kernel
theorem dX6_reachOver_15 : decode cX6_reachOver 15 = .ok (.aload_n 0, 1) := by decide +kernel
theorem dX6_reachOver_16 : decode cX6_reachOver 16 = .ok (.iload_n 3, 1) := by decide +kernel
theorem dX6_reachOver_17 : decode cX6_reachOver 17 = .ok (.invokevirtual 105, 3) := by decide +kernel
theorem dX6_reachOver_20 : decode cX6_reachOver 20 = .ok (.istore 5, 2) := by decide +kernel
theorem dX6_reachOver_22 : decode cX6_reachOver 22 = .ok (.aload_n 0, 1) := by decide +kernel
theorem dX6_reachOver_23 : decode cX6_reachOver 23 = .ok (.iload_n 1, 1) := by decide +kernel
theorem dX6_reachOver_24 : decode cX6_reachOver 24 = .ok (.iload_n 2, 1) := by decide +kernel
theorem dX6_reachOver_25 : decode cX6_reachOver 25 = .ok (.iload 4, 2) := by decide +kernel
theorem dX6_reachOver_27 : decode cX6_reachOver 27 = .ok (.iload_n 3, 1) := by decide +kernel
theorem dX6_reachOver_28 : decode cX6_reachOver 28 = .ok (.iload 5, 2) := by decide +kernel
theorem dX6_reachOver_30 : decode cX6_reachOver 30 = .ok (.invokevirtual 108, 3) := by decide +kernel
theorem dX6_reachOver_33 : decode cX6_reachOver 33 = .ok (.iload 5, 2) := by decide +kernel
theorem dX6_reachOver_35 : decode cX6_reachOver 35 = .ok (.ireturn, 1) := by decide +kernel
theorem dX6_standingIn_0 : decode cX6_standingIn 0 = .ok (.iconst 0, 1) := by decide +kernel
theorem dX6_standingIn_1 : decode cX6_standingIn 1 = .ok (.istore_n 2, 1) := by decide +kernel
theorem dX6_standingIn_2 : decode cX6_standingIn 2 = .ok (.iconst 0, 1) := by decide +kernel
theorem dX6_standingIn_3 : decode cX6_standingIn 3 = .ok (.istore_n 3, 1) := by decide +kernel
theorem dX6_standingIn_4 : decode cX6_standingIn 4 = .ok (.iload_n 3, 1) := by decide +kernel
theorem dX6_standingIn_5 : decode cX6_standingIn 5 = .ok (.aload_n 0, 1) := by decide +kernel
theorem dX6_standingIn_6 : decode cX6_standingIn 6 = .ok (.getfield 64, 3) := by decide +kernel
theorem dX6_standingIn_9 : decode cX6_standingIn 9 = .ok (.if_icmp .ge 21, 3) := by decide +kernel
theorem dX6_standingIn_12 : decode cX6_standingIn 12 = .ok (.aload_n 0, 1) := by decide +kernel
theorem dX6_standingIn_13 : decode cX6_standingIn 13 = .ok (.iload_n 3, 1) := by decide +kernel
theorem dX6_standingIn_14 : decode cX6_standingIn 14 = .ok (.invokevirtual 98, 3) := by decide +kernel
theorem dX6_standingIn_17 : decode cX6_standingIn 17 = .ok (.iload_n 1, 1) := by decide +kernel
theorem dX6_standingIn_18 : decode cX6_standingIn 18 = .ok (.if_icmp .ne 6, 3) := by decide +kernel
theorem dX6_standingIn_21 : decode cX6_standingIn 21 = .ok (.iinc 2 1, 3) := by decide +kernel
theorem dX6_standingIn_24 : decode cX6_standingIn 24 = .ok (.iinc 3 1, 3) := by decide +kernel
theorem dX6_standingIn_27 : decode cX6_standingIn 27 = .ok (.goto (-23), 3) := by decide +kernel
theorem dX6_standingIn_30 : decode cX6_standingIn 30 = .ok (.iload_n 2, 1) := by decide +kernel
theorem dX6_standingIn_31 : decode cX6_standingIn 31 = .ok (.ireturn, 1) := by decide +kernel
theorem dX6_enter_0 : decode cX6_enter 0 = .ok (.aload_n 0, 1) := by decide +kernel
theorem dX6_enter_1 : decode cX6_enter 1 = .ok (.getfield 34, 3) := by decide +kernel
theorem dX6_enter_4 : decode cX6_enter 4 = .ok (.iconst 0, 1) := by decide +kernel
theorem dX6_enter_5 : decode cX6_enter 5 = .ok (.aload_n 0, 1) := by decide +kernel
theorem dX6_enter_6 : decode cX6_enter 6 = .ok (.getfield 34, 3) := by decide +kernel
theorem dX6_enter_9 : decode cX6_enter 9 = .ok (.iconst 5, 1) := by decide +kernel
theorem dX6_enter_10 : decode cX6_enter 10 = .ok (.bipush 55, 2) := by decide +kernel
theorem dX6_enter_12 : decode cX6_enter 12 = .ok (.invokestatic 49, 3) := by decide +kernel
theorem dX6_enter_15 : decode cX6_enter 15 = .ok (.aload_n 0, 1) := by decide +kernel
theorem dX6_enter_16 : decode cX6_enter 16 = .ok (.getfield 34, 3) := by decide +kernel
theorem dX6_enter_19 : decode cX6_enter 19 = .ok (.iconst 0, 1) := by decide +kernel
theorem dX6_enter_20 : decode cX6_enter 20 = .ok (.iload_n 1, 1) := by decide +kernel
theorem dX6_enter_21 : decode cX6_enter 21 = .ok (.iastore, 1) := by decide +kernel
theorem dX6_enter_22 : decode cX6_enter 22 = .ok (.aload_n 0, 1) := by decide +kernel
theorem dX6_enter_23 : decode cX6_enter 23 = .ok (.getfield 34, 3) := by decide +kernel
theorem dX6_enter_26 : decode cX6_enter 26 = .ok (.iconst 1, 1) := by decide +kernel
theorem dX6_enter_27 : decode cX6_enter 27 = .ok (.iload_n 2, 1) := by decide +kernel
theorem dX6_enter_28 : decode cX6_enter 28 = .ok (.iastore, 1) := by decide +kernel
theorem dX6_enter_29 : decode cX6_enter 29 = .ok (.aload_n 0, 1) := by decide +kernel
theorem dX6_enter_30 : decode cX6_enter 30 = .ok (.getfield 34, 3) := by decide +kernel
theorem dX6_enter_33 : decode cX6_enter 33 = .ok (.iconst 2, 1) := by decide +kernel
theorem dX6_enter_34 : decode cX6_enter 34 = .ok (.iload_n 3, 1) := by decide +kernel
theorem dX6_enter_35 : decode cX6_enter 35 = .ok (.iastore, 1) := by decide +kernel
theorem dX6_enter_36 : decode cX6_enter 36 = .ok (.aload_n 0, 1) := by decide +kernel
theorem dX6_enter_37 : decode cX6_enter 37 = .ok (.getfield 34, 3) := by decide +kernel
theorem dX6_enter_40 : decode cX6_enter 40 = .ok (.iconst 3, 1) := by decide +kernel
theorem dX6_enter_41 : decode cX6_enter 41 = .ok (.iload 4, 2) := by decide +kernel
theorem dX6_enter_43 : decode cX6_enter 43 = .ok (.iastore, 1) := by decide +kernel
theorem dX6_enter_44 : decode cX6_enter 44 = .ok (.aload_n 0, 1) := by decide +kernel
theorem dX6_enter_45 : decode cX6_enter 45 = .ok (.getfield 34, 3) := by decide +kernel
theorem dX6_enter_48 : decode cX6_enter 48 = .ok (.iconst 4, 1) := by decide +kernel
theorem dX6_enter_49 : decode cX6_enter 49 = .ok (.iload 5, 2) := by decide +kernel
theorem dX6_enter_51 : decode cX6_enter 51 = .ok (.iastore, 1) := by decide +kernel
theorem dX6_enter_52 : decode cX6_enter 52 = .ok (.aload_n 0, 1) := by decide +kernel
theorem dX6_enter_53 : decode cX6_enter 53 = .ok (.getfield 73, 3) := by decide +kernel
theorem dX6_enter_56 : decode cX6_enter 56 = .ok (.bipush 12, 2) := by decide +kernel
theorem dX6_enter_58 : decode cX6_enter 58 = .ok (.if_icmp .ge 13, 3) := by decide +kernel
theorem dX6_enter_61 : decode cX6_enter 61 = .ok (.aload_n 0, 1) := by decide +kernel
theorem dX6_enter_62 : decode cX6_enter 62 = .ok (.dup, 1) := by decide +kernel
theorem dX6_enter_63 : decode cX6_enter 63 = .ok (.getfield 73, 3) := by decide +kernel
theorem dX6_enter_66 : decode cX6_enter 66 = .ok (.iconst 1, 1) := by decide +kernel
theorem dX6_enter_67 : decode cX6_enter 67 = .ok (.iadd, 1) := by decide +kernel
theorem dX6_enter_68 : decode cX6_enter 68 = .ok (.putfield 73, 3) := by decide +kernel
theorem dX6_enter_71 : decode cX6_enter 71 = .ok (.aload_n 0, 1) := by decide +kernel
theorem dX6_enter_72 : decode cX6_enter 72 = .ok (.dup, 1) := by decide +kernel
theorem dX6_enter_73 : decode cX6_enter 73 = .ok (.getfield 67, 3) := by decide +kernel
theorem dX6_enter_76 : decode cX6_enter 76 = .ok (.iconst 1, 1) := by decide +kernel
theorem dX6_enter_77 : decode cX6_enter 77 = .ok (.iadd, 1) := by decide +kernel
theorem dX6_enter_78 : decode cX6_enter 78 = .ok (.putfield 67, 3) := by decide +kernel
theorem dX6_enter_81 : decode cX6_enter 81 = .ok (.aload_n 0, 1) := by decide +kernel
theorem dX6_enter_82 : decode cX6_enter 82 = .ok (.dup, 1) := by decide +kernel
theorem dX6_enter_83 : decode cX6_enter 83 = .ok (.getfield 70, 3) := by decide +kernel
theorem dX6_enter_86 : decode cX6_enter 86 = .ok (.iload 5, 2) := by decide +kernel
theorem dX6_enter_88 : decode cX6_enter 88 = .ok (.iadd, 1) := by decide +kernel
theorem dX6_enter_89 : decode cX6_enter 89 = .ok (.putfield 70, 3) := by decide +kernel
theorem dX6_enter_92 : decode cX6_enter 92 = .ok (.return_, 1) := by decide +kernel
theorem dX6_roomsHitBy_0 : decode cX6_roomsHitBy 0 = .ok (.iconst 0, 1) := by decide +kernel
theorem dX6_roomsHitBy_1 : decode cX6_roomsHitBy 1 = .ok (.istore_n 3, 1) := by decide +kernel
theorem dX6_roomsHitBy_2 : decode cX6_roomsHitBy 2 = .ok (.aload_n 0, 1) := by decide +kernel
theorem dX6_roomsHitBy_3 : decode cX6_roomsHitBy 3 = .ok (.iload_n 1, 1) := by decide +kernel
theorem dX6_roomsHitBy_4 : decode cX6_roomsHitBy 4 = .ok (.iload_n 2, 1) := by decide +kernel
theorem dX6_roomsHitBy_5 : decode cX6_roomsHitBy 5 = .ok (.invokevirtual 112, 3) := by decide +kernel
theorem dX6_roomsHitBy_8 : decode cX6_roomsHitBy 8 = .ok (.ifCond .eq 16, 3) := by decide +kernel
theorem dX6_roomsHitBy_11 : decode cX6_roomsHitBy 11 = .ok (.iload_n 3, 1) := by decide +kernel
theorem dX6_roomsHitBy_12 : decode cX6_roomsHitBy 12 = .ok (.aload_n 0, 1) := by decide +kernel
theorem dX6_roomsHitBy_13 : decode cX6_roomsHitBy 13 = .ok (.getfield 9, 3) := by decide +kernel
theorem dX6_roomsHitBy_16 : decode cX6_roomsHitBy 16 = .ok (.aload_n 0, 1) := by decide +kernel
theorem dX6_roomsHitBy_17 : decode cX6_roomsHitBy 17 = .ok (.iload_n 1, 1) := by decide +kernel
theorem dX6_roomsHitBy_18 : decode cX6_roomsHitBy 18 = .ok (.invokevirtual 98, 3) := by decide +kernel
theorem dX6_roomsHitBy_21 : decode cX6_roomsHitBy 21 = .ok (.iaload, 1) := by decide +kernel
theorem dX6_roomsHitBy_22 : decode cX6_roomsHitBy 22 = .ok (.ior, 1) := by decide +kernel
theorem dX6_roomsHitBy_23 : decode cX6_roomsHitBy 23 = .ok (.istore_n 3, 1) := by decide +kernel
theorem dX6_roomsHitBy_24 : decode cX6_roomsHitBy 24 = .ok (.aload_n 0, 1) := by decide +kernel
theorem dX6_roomsHitBy_25 : decode cX6_roomsHitBy 25 = .ok (.iload_n 1, 1) := by decide +kernel
theorem dX6_roomsHitBy_26 : decode cX6_roomsHitBy 26 = .ok (.iload_n 2, 1) := by decide +kernel
theorem dX6_roomsHitBy_27 : decode cX6_roomsHitBy 27 = .ok (.invokevirtual 116, 3) := by decide +kernel
theorem dX6_roomsHitBy_30 : decode cX6_roomsHitBy 30 = .ok (.ifCond .eq 16, 3) := by decide +kernel
theorem dX6_roomsHitBy_33 : decode cX6_roomsHitBy 33 = .ok (.iload_n 3, 1) := by decide +kernel
theorem dX6_roomsHitBy_34 : decode cX6_roomsHitBy 34 = .ok (.iconst 1, 1) := by decide +kernel
theorem dX6_roomsHitBy_35 : decode cX6_roomsHitBy 35 = .ok (.aload_n 0, 1) := by decide +kernel
theorem dX6_roomsHitBy_36 : decode cX6_roomsHitBy 36 = .ok (.getfield 22, 3) := by decide +kernel
theorem dX6_roomsHitBy_39 : decode cX6_roomsHitBy 39 = .ok (.iload_n 2, 1) := by decide +kernel
theorem dX6_roomsHitBy_40 : decode cX6_roomsHitBy 40 = .ok (.iaload, 1) := by decide +kernel
theorem dX6_roomsHitBy_41 : decode cX6_roomsHitBy 41 = .ok (.ishl, 1) := by decide +kernel
theorem dX6_roomsHitBy_42 : decode cX6_roomsHitBy 42 = .ok (.iconst (-1), 1) := by decide +kernel
theorem dX6_roomsHitBy_43 : decode cX6_roomsHitBy 43 = .ok (.ixor, 1) := by decide +kernel
theorem dX6_roomsHitBy_44 : decode cX6_roomsHitBy 44 = .ok (.ior, 1) := by decide +kernel
theorem dX6_roomsHitBy_45 : decode cX6_roomsHitBy 45 = .ok (.istore_n 3, 1) := by decide +kernel
theorem dX6_roomsHitBy_46 : decode cX6_roomsHitBy 46 = .ok (.iload_n 3, 1) := by decide +kernel
theorem dX6_roomsHitBy_47 : decode cX6_roomsHitBy 47 = .ok (.ireturn, 1) := by decide +kernel
theorem dX6_passDays_0 : decode cX6_passDays 0 = .ok (.aload_n 0, 1) := by decide +kernel
theorem dX6_passDays_1 : decode cX6_passDays 1 = .ok (.getfield 70, 3) := by decide +kernel
theorem dX6_passDays_4 : decode cX6_passDays 4 = .ok (.istore_n 2, 1) := by decide +kernel
theorem dX6_passDays_5 : decode cX6_passDays 5 = .ok (.iconst 0, 1) := by decide +kernel
theorem dX6_passDays_6 : decode cX6_passDays 6 = .ok (.istore_n 3, 1) := by decide +kernel
theorem dX6_passDays_7 : decode cX6_passDays 7 = .ok (.iload_n 3, 1) := by decide +kernel
theorem dX6_passDays_8 : decode cX6_passDays 8 = .ok (.iload_n 1, 1) := by decide +kernel
theorem dX6_passDays_9 : decode cX6_passDays 9 = .ok (.if_icmp .ge 43, 3) := by decide +kernel
theorem dX6_passDays_12 : decode cX6_passDays 12 = .ok (.iconst 0, 1) := by decide +kernel
theorem dX6_passDays_13 : decode cX6_passDays 13 = .ok (.istore 4, 2) := by decide +kernel
theorem dX6_passDays_15 : decode cX6_passDays 15 = .ok (.iload 4, 2) := by decide +kernel
theorem dX6_passDays_17 : decode cX6_passDays 17 = .ok (.aload_n 0, 1) := by decide +kernel
theorem dX6_passDays_18 : decode cX6_passDays 18 = .ok (.getfield 64, 3) := by decide +kernel
theorem dX6_passDays_21 : decode cX6_passDays 21 = .ok (.if_icmp .ge 15, 3) := by decide +kernel
theorem dX6_passDays_24 : decode cX6_passDays 24 = .ok (.aload_n 0, 1) := by decide +kernel
theorem dX6_passDays_25 : decode cX6_passDays 25 = .ok (.iload 4, 2) := by decide +kernel
theorem dX6_passDays_27 : decode cX6_passDays 27 = .ok (.invokevirtual 119, 3) := by decide +kernel
theorem dX6_passDays_30 : decode cX6_passDays 30 = .ok (.iinc 4 1, 3) := by decide +kernel
theorem dX6_passDays_33 : decode cX6_passDays 33 = .ok (.goto (-18), 3) := by decide +kernel
theorem dX6_passDays_36 : decode cX6_passDays 36 = .ok (.aload_n 0, 1) := by decide +kernel
theorem dX6_passDays_37 : decode cX6_passDays 37 = .ok (.dup, 1) := by decide +kernel
theorem dX6_passDays_38 : decode cX6_passDays 38 = .ok (.getfield 76, 3) := by decide +kernel
theorem dX6_passDays_41 : decode cX6_passDays 41 = .ok (.iconst 1, 1) := by decide +kernel
theorem dX6_passDays_42 : decode cX6_passDays 42 = .ok (.iadd, 1) := by decide +kernel
theorem dX6_passDays_43 : decode cX6_passDays 43 = .ok (.putfield 76, 3) := by decide +kernel
theorem dX6_passDays_46 : decode cX6_passDays 46 = .ok (.iinc 3 1, 3) := by decide +kernel
theorem dX6_passDays_49 : decode cX6_passDays 49 = .ok (.goto (-42), 3) := by decide +kernel
theorem dX6_passDays_52 : decode cX6_passDays 52 = .ok (.aload_n 0, 1) := by decide +kernel
theorem dX6_passDays_53 : decode cX6_passDays 53 = .ok (.getfield 70, 3) := by decide +kernel
theorem dX6_passDays_56 : decode cX6_passDays 56 = .ok (.iload_n 2, 1) := by decide +kernel
theorem dX6_passDays_57 : decode cX6_passDays 57 = .ok (.isub, 1) := by decide +kernel
theorem dX6_passDays_58 : decode cX6_passDays 58 = .ok (.ireturn, 1) := by decide +kernel
theorem dX6_actByDraws_0 : decode cX6_actByDraws 0 = .ok (.aload_n 0, 1) := by decide +kernel
theorem dX6_actByDraws_1 : decode cX6_actByDraws 1 = .ok (.invokevirtual 123, 3) := by decide +kernel
theorem dX6_actByDraws_4 : decode cX6_actByDraws 4 = .ok (.bipush 8, 2) := by decide +kernel
theorem dX6_actByDraws_6 : decode cX6_actByDraws 6 = .ok (.irem, 1) := by decide +kernel
theorem dX6_actByDraws_7 : decode cX6_actByDraws 7 = .ok (.istore_n 2, 1) := by decide +kernel
theorem dX6_actByDraws_8 : decode cX6_actByDraws 8 = .ok (.aload_n 0, 1) := by decide +kernel
theorem dX6_actByDraws_9 : decode cX6_actByDraws 9 = .ok (.aload_n 0, 1) := by decide +kernel
theorem dX6_actByDraws_10 : decode cX6_actByDraws 10 = .ok (.iload_n 1, 1) := by decide +kernel
theorem dX6_actByDraws_11 : decode cX6_actByDraws 11 = .ok (.invokevirtual 98, 3) := by decide +kernel
theorem dX6_actByDraws_14 : decode cX6_actByDraws 14 = .ok (.iload_n 2, 1) := by decide +kernel
theorem dX6_actByDraws_15 : decode cX6_actByDraws 15 = .ok (.invokevirtual 127, 3) := by decide +kernel
theorem dX6_actByDraws_18 : decode cX6_actByDraws 18 = .ok (.ifCond .eq 9, 3) := by decide +kernel
theorem dX6_actByDraws_21 : decode cX6_actByDraws 21 = .ok (.aload_n 0, 1) := by decide +kernel
theorem dX6_actByDraws_22 : decode cX6_actByDraws 22 = .ok (.iload_n 1, 1) := by decide +kernel
theorem dX6_actByDraws_23 : decode cX6_actByDraws 23 = .ok (.iload_n 2, 1) := by decide +kernel
theorem dX6_actByDraws_24 : decode cX6_actByDraws 24 = .ok (.invokevirtual 101, 3) := by decide +kernel
theorem dX6_actByDraws_27 : decode cX6_actByDraws 27 = .ok (.aload_n 0, 1) := by decide +kernel
theorem dX6_actByDraws_28 : decode cX6_actByDraws 28 = .ok (.getfield 61, 3) := by decide +kernel
theorem dX6_actByDraws_31 : decode cX6_actByDraws 31 = .ok (.ifCond .le 24, 3) := by decide +kernel
theorem dX6_actByDraws_34 : decode cX6_actByDraws 34 = .ok (.aload_n 0, 1) := by decide +kernel
theorem dX6_actByDraws_35 : decode cX6_actByDraws 35 = .ok (.iload_n 1, 1) := by decide +kernel
theorem dX6_actByDraws_36 : decode cX6_actByDraws 36 = .ok (.invokevirtual 98, 3) := by decide +kernel
theorem dX6_actByDraws_39 : decode cX6_actByDraws 39 = .ok (.aload_n 0, 1) := by decide +kernel
theorem dX6_actByDraws_40 : decode cX6_actByDraws 40 = .ok (.getfield 15, 3) := by decide +kernel
theorem dX6_actByDraws_43 : decode cX6_actByDraws 43 = .ok (.if_icmp .ne 12, 3) := by decide +kernel
theorem dX6_actByDraws_46 : decode cX6_actByDraws 46 = .ok (.aload_n 0, 1) := by decide +kernel
theorem dX6_actByDraws_47 : decode cX6_actByDraws 47 = .ok (.iload_n 1, 1) := by decide +kernel
theorem dX6_actByDraws_48 : decode cX6_actByDraws 48 = .ok (.invokevirtual 90, 3) := by decide +kernel
theorem dX6_actByDraws_51 : decode cX6_actByDraws 51 = .ok (.iconst 4, 1) := by decide +kernel
theorem dX6_actByDraws_52 : decode cX6_actByDraws 52 = .ok (.if_icmp .lt 4, 3) := by decide +kernel
theorem dX6_actByDraws_55 : decode cX6_actByDraws 55 = .ok (.return_, 1) := by decide +kernel
theorem dX6_actByDraws_56 : decode cX6_actByDraws 56 = .ok (.aload_n 0, 1) := by decide +kernel
theorem dX6_actByDraws_57 : decode cX6_actByDraws 57 = .ok (.invokevirtual 123, 3) := by decide +kernel
theorem dX6_actByDraws_60 : decode cX6_actByDraws 60 = .ok (.aload_n 0, 1) := by decide +kernel
theorem dX6_actByDraws_61 : decode cX6_actByDraws 61 = .ok (.getfield 61, 3) := by decide +kernel
theorem dX6_actByDraws_64 : decode cX6_actByDraws 64 = .ok (.irem, 1) := by decide +kernel
theorem dX6_actByDraws_65 : decode cX6_actByDraws 65 = .ok (.istore_n 3, 1) := by decide +kernel
theorem dX6_actByDraws_66 : decode cX6_actByDraws 66 = .ok (.aload_n 0, 1) := by decide +kernel
theorem dX6_actByDraws_67 : decode cX6_actByDraws 67 = .ok (.invokevirtual 123, 3) := by decide +kernel
theorem dX6_actByDraws_70 : decode cX6_actByDraws 70 = .ok (.bipush 8, 2) := by decide +kernel
theorem dX6_actByDraws_72 : decode cX6_actByDraws 72 = .ok (.irem, 1) := by decide +kernel
theorem dX6_actByDraws_73 : decode cX6_actByDraws 73 = .ok (.istore 4, 2) := by decide +kernel
theorem dX6_actByDraws_75 : decode cX6_actByDraws 75 = .ok (.aload_n 0, 1) := by decide +kernel
theorem dX6_actByDraws_76 : decode cX6_actByDraws 76 = .ok (.invokevirtual 123, 3) := by decide +kernel
theorem dX6_actByDraws_79 : decode cX6_actByDraws 79 = .ok (.bipush 100, 2) := by decide +kernel
theorem dX6_actByDraws_81 : decode cX6_actByDraws 81 = .ok (.irem, 1) := by decide +kernel
theorem dX6_actByDraws_82 : decode cX6_actByDraws 82 = .ok (.aload_n 0, 1) := by decide +kernel
theorem dX6_actByDraws_83 : decode cX6_actByDraws 83 = .ok (.getfield 58, 3) := by decide +kernel
theorem dX6_actByDraws_86 : decode cX6_actByDraws 86 = .ok (.if_icmp .ge 12, 3) := by decide +kernel
theorem dX6_actByDraws_89 : decode cX6_actByDraws 89 = .ok (.iload 4, 2) := by decide +kernel
theorem dX6_actByDraws_91 : decode cX6_actByDraws 91 = .ok (.iconst 1, 1) := by decide +kernel
theorem dX6_actByDraws_92 : decode cX6_actByDraws 92 = .ok (.iadd, 1) := by decide +kernel
theorem dX6_actByDraws_93 : decode cX6_actByDraws 93 = .ok (.bipush 8, 2) := by decide +kernel
theorem dX6_actByDraws_95 : decode cX6_actByDraws 95 = .ok (.irem, 1) := by decide +kernel
theorem dX6_actByDraws_96 : decode cX6_actByDraws 96 = .ok (.istore 4, 2) := by decide +kernel
theorem dX6_actByDraws_98 : decode cX6_actByDraws 98 = .ok (.aload_n 0, 1) := by decide +kernel
theorem dX6_actByDraws_99 : decode cX6_actByDraws 99 = .ok (.iload_n 1, 1) := by decide +kernel
theorem dX6_actByDraws_100 : decode cX6_actByDraws 100 = .ok (.iload_n 3, 1) := by decide +kernel
theorem dX6_actByDraws_101 : decode cX6_actByDraws 101 = .ok (.invokevirtual 116, 3) := by decide +kernel
theorem dX6_actByDraws_104 : decode cX6_actByDraws 104 = .ok (.ifCond .eq 23, 3) := by decide +kernel
theorem dX6_actByDraws_107 : decode cX6_actByDraws 107 = .ok (.aload_n 0, 1) := by decide +kernel
theorem dX6_actByDraws_108 : decode cX6_actByDraws 108 = .ok (.getfield 22, 3) := by decide +kernel
theorem dX6_actByDraws_111 : decode cX6_actByDraws 111 = .ok (.iload_n 3, 1) := by decide +kernel
theorem dX6_actByDraws_112 : decode cX6_actByDraws 112 = .ok (.iaload, 1) := by decide +kernel
theorem dX6_actByDraws_113 : decode cX6_actByDraws 113 = .ok (.iload 4, 2) := by decide +kernel
theorem dX6_actByDraws_115 : decode cX6_actByDraws 115 = .ok (.if_icmp .eq 12, 3) := by decide +kernel
theorem dX6_actByDraws_118 : decode cX6_actByDraws 118 = .ok (.aload_n 0, 1) := by decide +kernel
theorem dX6_actByDraws_119 : decode cX6_actByDraws 119 = .ok (.iload_n 1, 1) := by decide +kernel
theorem dX6_actByDraws_120 : decode cX6_actByDraws 120 = .ok (.iload_n 3, 1) := by decide +kernel
theorem dX6_actByDraws_121 : decode cX6_actByDraws 121 = .ok (.iload 4, 2) := by decide +kernel
theorem dX6_actByDraws_123 : decode cX6_actByDraws 123 = .ok (.invokevirtual 130, 3) := by decide +kernel
theorem dX6_actByDraws_126 : decode cX6_actByDraws 126 = .ok (.pop, 1) := by decide +kernel
theorem dX6_actByDraws_127 : decode cX6_actByDraws 127 = .ok (.return_, 1) := by decide +kernel
theorem dX6_draw_0 : decode cX6_draw 0 = .ok (.aload_n 0, 1) := by decide +kernel
theorem dX6_draw_1 : decode cX6_draw 1 = .ok (.aload_n 0, 1) := by decide +kernel
theorem dX6_draw_2 : decode cX6_draw 2 = .ok (.getfield 37, 3) := by decide +kernel
theorem dX6_draw_5 : decode cX6_draw 5 = .ok (.ldc 133, 2) := by decide +kernel
theorem dX6_draw_7 : decode cX6_draw 7 = .ok (.imul, 1) := by decide +kernel
theorem dX6_draw_8 : decode cX6_draw 8 = .ok (.sipush 12345, 3) := by decide +kernel
theorem dX6_draw_11 : decode cX6_draw 11 = .ok (.iadd, 1) := by decide +kernel
theorem dX6_draw_12 : decode cX6_draw 12 = .ok (.putfield 37, 3) := by decide +kernel
theorem dX6_draw_15 : decode cX6_draw 15 = .ok (.aload_n 0, 1) := by decide +kernel
theorem dX6_draw_16 : decode cX6_draw 16 = .ok (.getfield 37, 3) := by decide +kernel
theorem dX6_draw_19 : decode cX6_draw 19 = .ok (.bipush 8, 2) := by decide +kernel
theorem dX6_draw_21 : decode cX6_draw 21 = .ok (.iushr, 1) := by decide +kernel
theorem dX6_draw_22 : decode cX6_draw 22 = .ok (.ireturn, 1) := by decide +kernel
theorem dX6_fullSpots_0 : decode cX6_fullSpots 0 = .ok (.iconst 0, 1) := by decide +kernel
theorem dX6_fullSpots_1 : decode cX6_fullSpots 1 = .ok (.istore_n 1, 1) := by decide +kernel
theorem dX6_fullSpots_2 : decode cX6_fullSpots 2 = .ok (.iconst 0, 1) := by decide +kernel
theorem dX6_fullSpots_3 : decode cX6_fullSpots 3 = .ok (.istore_n 2, 1) := by decide +kernel
theorem dX6_fullSpots_4 : decode cX6_fullSpots 4 = .ok (.iload_n 2, 1) := by decide +kernel
theorem dX6_fullSpots_5 : decode cX6_fullSpots 5 = .ok (.bipush 10, 2) := by decide +kernel
theorem dX6_fullSpots_7 : decode cX6_fullSpots 7 = .ok (.if_icmp .ge 22, 3) := by decide +kernel
theorem dX6_fullSpots_10 : decode cX6_fullSpots 10 = .ok (.aload_n 0, 1) := by decide +kernel
theorem dX6_fullSpots_11 : decode cX6_fullSpots 11 = .ok (.getfield 40, 3) := by decide +kernel
theorem dX6_fullSpots_14 : decode cX6_fullSpots 14 = .ok (.iload_n 2, 1) := by decide +kernel
theorem dX6_fullSpots_15 : decode cX6_fullSpots 15 = .ok (.iaload, 1) := by decide +kernel
theorem dX6_fullSpots_16 : decode cX6_fullSpots 16 = .ok (.iconst (-1), 1) := by decide +kernel
theorem dX6_fullSpots_17 : decode cX6_fullSpots 17 = .ok (.if_icmp .eq 6, 3) := by decide +kernel
theorem dX6_fullSpots_20 : decode cX6_fullSpots 20 = .ok (.iinc 1 1, 3) := by decide +kernel
theorem dX6_fullSpots_23 : decode cX6_fullSpots 23 = .ok (.iinc 2 1, 3) := by decide +kernel
theorem dX6_fullSpots_26 : decode cX6_fullSpots 26 = .ok (.goto (-22), 3) := by decide +kernel
theorem dX6_fullSpots_29 : decode cX6_fullSpots 29 = .ok (.iload_n 1, 1) := by decide +kernel
theorem dX6_fullSpots_30 : decode cX6_fullSpots 30 = .ok (.ireturn, 1) := by decide +kernel
theorem dX7_init_0 : decode cX7_init 0 = .ok (.aload_n 0, 1) := by decide +kernel
theorem dX7_init_1 : decode cX7_init 1 = .ok (.invokespecial 3, 3) := by decide +kernel
theorem dX7_init_4 : decode cX7_init 4 = .ok (.aload_n 0, 1) := by decide +kernel
theorem dX7_init_5 : decode cX7_init 5 = .ok (.new 9, 3) := by decide +kernel
theorem dX7_init_8 : decode cX7_init 8 = .ok (.dup, 1) := by decide +kernel
theorem dX7_init_9 : decode cX7_init 9 = .ok (.invokespecial 11, 3) := by decide +kernel
theorem dX7_init_12 : decode cX7_init 12 = .ok (.putfield 12, 3) := by decide +kernel
theorem dX7_init_15 : decode cX7_init 15 = .ok (.aload_n 0, 1) := by decide +kernel
theorem dX7_init_16 : decode cX7_init 16 = .ok (.new 9, 3) := by decide +kernel
theorem dX7_init_19 : decode cX7_init 19 = .ok (.dup, 1) := by decide +kernel
theorem dX7_init_20 : decode cX7_init 20 = .ok (.invokespecial 11, 3) := by decide +kernel
theorem dX7_init_23 : decode cX7_init 23 = .ok (.putfield 16, 3) := by decide +kernel
theorem dX7_init_26 : decode cX7_init 26 = .ok (.aload_n 0, 1) := by decide +kernel
theorem dX7_init_27 : decode cX7_init 27 = .ok (.new 9, 3) := by decide +kernel
theorem dX7_init_30 : decode cX7_init 30 = .ok (.dup, 1) := by decide +kernel
theorem dX7_init_31 : decode cX7_init 31 = .ok (.invokespecial 11, 3) := by decide +kernel
theorem dX7_init_34 : decode cX7_init 34 = .ok (.putfield 19, 3) := by decide +kernel
theorem dX7_init_37 : decode cX7_init 37 = .ok (.aload_n 0, 1) := by decide +kernel
theorem dX7_init_38 : decode cX7_init 38 = .ok (.new 22, 3) := by decide +kernel
theorem dX7_init_41 : decode cX7_init 41 = .ok (.dup, 1) := by decide +kernel
theorem dX7_init_42 : decode cX7_init 42 = .ok (.invokespecial 24, 3) := by decide +kernel
theorem dX7_init_45 : decode cX7_init 45 = .ok (.putfield 25, 3) := by decide +kernel
theorem dX7_init_48 : decode cX7_init 48 = .ok (.aload_n 0, 1) := by decide +kernel
theorem dX7_init_49 : decode cX7_init 49 = .ok (.new 29, 3) := by decide +kernel
theorem dX7_init_52 : decode cX7_init 52 = .ok (.dup, 1) := by decide +kernel
theorem dX7_init_53 : decode cX7_init 53 = .ok (.invokespecial 31, 3) := by decide +kernel
theorem dX7_init_56 : decode cX7_init 56 = .ok (.putfield 32, 3) := by decide +kernel
theorem dX7_init_59 : decode cX7_init 59 = .ok (.aload_n 0, 1) := by decide +kernel
theorem dX7_init_60 : decode cX7_init 60 = .ok (.new 36, 3) := by decide +kernel
theorem dX7_init_63 : decode cX7_init 63 = .ok (.dup, 1) := by decide +kernel
theorem dX7_init_64 : decode cX7_init 64 = .ok (.aload_n 0, 1) := by decide +kernel
theorem dX7_init_65 : decode cX7_init 65 = .ok (.getfield 32, 3) := by decide +kernel
theorem dX7_init_68 : decode cX7_init 68 = .ok (.invokespecial 38, 3) := by decide +kernel
theorem dX7_init_71 : decode cX7_init 71 = .ok (.putfield 41, 3) := by decide +kernel
theorem dX7_init_74 : decode cX7_init 74 = .ok (.aload_n 0, 1) := by decide +kernel
theorem dX7_init_75 : decode cX7_init 75 = .ok (.iconst 4, 1) := by decide +kernel
theorem dX7_init_76 : decode cX7_init 76 = .ok (.anewarray 45, 3) := by decide +kernel
theorem dX7_init_79 : decode cX7_init 79 = .ok (.putfield 47, 3) := by decide +kernel
theorem dX7_init_82 : decode cX7_init 82 = .ok (.aload_n 0, 1) := by decide +kernel
theorem dX7_init_83 : decode cX7_init 83 = .ok (.bipush 7, 2) := by decide +kernel
theorem dX7_init_85 : decode cX7_init 85 = .ok (.newarray .int, 2) := by decide +kernel
theorem dX7_init_87 : decode cX7_init 87 = .ok (.putfield 51, 3) := by decide +kernel
theorem dX7_init_90 : decode cX7_init 90 = .ok (.iconst 0, 1) := by decide +kernel
theorem dX7_init_91 : decode cX7_init 91 = .ok (.istore_n 1, 1) := by decide +kernel
theorem dX7_init_92 : decode cX7_init 92 = .ok (.iload_n 1, 1) := by decide +kernel
theorem dX7_init_93 : decode cX7_init 93 = .ok (.iconst 4, 1) := by decide +kernel
theorem dX7_init_94 : decode cX7_init 94 = .ok (.if_icmp .ge 22, 3) := by decide +kernel
theorem dX7_init_97 : decode cX7_init 97 = .ok (.aload_n 0, 1) := by decide +kernel
theorem dX7_init_98 : decode cX7_init 98 = .ok (.getfield 47, 3) := by decide +kernel
theorem dX7_init_101 : decode cX7_init 101 = .ok (.iload_n 1, 1) := by decide +kernel
theorem dX7_init_102 : decode cX7_init 102 = .ok (.new 45, 3) := by decide +kernel
theorem dX7_init_105 : decode cX7_init 105 = .ok (.dup, 1) := by decide +kernel
theorem dX7_init_106 : decode cX7_init 106 = .ok (.invokespecial 55, 3) := by decide +kernel
theorem dX7_init_109 : decode cX7_init 109 = .ok (.aastore, 1) := by decide +kernel
theorem dX7_init_110 : decode cX7_init 110 = .ok (.iinc 1 1, 3) := by decide +kernel
theorem dX7_init_113 : decode cX7_init 113 = .ok (.goto (-21), 3) := by decide +kernel
theorem dX7_init_116 : decode cX7_init 116 = .ok (.return_, 1) := by decide +kernel
theorem dX7_door_0 : decode cX7_door 0 = .ok (.iload_n 1, 1) := by decide +kernel
theorem dX7_door_1 : decode cX7_door 1 = .ok (.invokestatic 56, 3) := by decide +kernel
theorem dX7_door_4 : decode cX7_door 4 = .ok (.ifCond .eq 24, 3) := by decide +kernel
theorem dX7_door_7 : decode cX7_door 7 = .ok (.iload_n 2, 1) := by decide +kernel
theorem dX7_door_8 : decode cX7_door 8 = .ok (.invokestatic 56, 3) := by decide +kernel
theorem dX7_door_11 : decode cX7_door 11 = .ok (.ifCond .eq 17, 3) := by decide +kernel
theorem dX7_door_14 : decode cX7_door 14 = .ok (.iload_n 1, 1) := by decide +kernel
theorem dX7_door_15 : decode cX7_door 15 = .ok (.iload_n 2, 1) := by decide +kernel
theorem dX7_door_16 : decode cX7_door 16 = .ok (.if_icmp .eq 12, 3) := by decide +kernel
theorem dX7_door_19 : decode cX7_door 19 = .ok (.iload_n 3, 1) := by decide +kernel
theorem dX7_door_20 : decode cX7_door 20 = .ok (.iconst 0, 1) := by decide +kernel
theorem dX7_door_21 : decode cX7_door 21 = .ok (.iconst 1, 1) := by decide +kernel
theorem dX7_door_22 : decode cX7_door 22 = .ok (.invokestatic 60, 3) := by decide +kernel
theorem dX7_door_25 : decode cX7_door 25 = .ok (.ifCond .ne 10, 3) := by decide +kernel
theorem dX7_door_28 : decode cX7_door 28 = .ok (.aload_n 0, 1) := by decide +kernel
theorem dX7_door_29 : decode cX7_door 29 = .ok (.ldc 64, 2) := by decide +kernel
theorem dX7_door_31 : decode cX7_door 31 = .ok (.invokevirtual 65, 3) := by decide +kernel
theorem dX7_door_34 : decode cX7_door 34 = .ok (.ireturn, 1) := by decide +kernel
theorem dX7_door_35 : decode cX7_door 35 = .ok (.aload_n 0, 1) := by decide +kernel
theorem dX7_door_36 : decode cX7_door 36 = .ok (.getfield 12, 3) := by decide +kernel
theorem dX7_door_39 : decode cX7_door 39 = .ok (.iload_n 1, 1) := by decide +kernel
theorem dX7_door_40 : decode cX7_door 40 = .ok (.iload_n 2, 1) := by decide +kernel
theorem dX7_door_41 : decode cX7_door 41 = .ok (.invokevirtual 69, 3) := by decide +kernel
theorem dX7_door_44 : decode cX7_door 44 = .ok (.ifCond .eq 7, 3) := by decide +kernel
theorem dX7_door_47 : decode cX7_door 47 = .ok (.iconst 1, 1) := by decide +kernel
theorem dX7_door_48 : decode cX7_door 48 = .ok (.goto 4, 3) := by decide +kernel
theorem dX7_door_51 : decode cX7_door 51 = .ok (.iconst 0, 1) := by decide +kernel
theorem dX7_door_52 : decode cX7_door 52 = .ok (.istore 4, 2) := by decide +kernel
theorem dX7_door_54 : decode cX7_door 54 = .ok (.aload_n 0, 1) := by decide +kernel
theorem dX7_door_55 : decode cX7_door 55 = .ok (.getfield 12, 3) := by decide +kernel
theorem dX7_door_58 : decode cX7_door 58 = .ok (.iload_n 1, 1) := by decide +kernel
theorem dX7_door_59 : decode cX7_door 59 = .ok (.iload_n 2, 1) := by decide +kernel
theorem dX7_door_60 : decode cX7_door 60 = .ok (.iload_n 3, 1) := by decide +kernel
theorem dX7_door_61 : decode cX7_door 61 = .ok (.iconst 1, 1) := by decide +kernel
theorem dX7_door_62 : decode cX7_door 62 = .ok (.if_icmp .ne 7, 3) := by decide +kernel
theorem dX7_door_65 : decode cX7_door 65 = .ok (.iconst 1, 1) := by decide +kernel
theorem dX7_door_66 : decode cX7_door 66 = .ok (.goto 4, 3) := by decide +kernel
theorem dX7_door_69 : decode cX7_door 69 = .ok (.iconst 0, 1) := by decide +kernel
theorem dX7_door_70 : decode cX7_door 70 = .ok (.invokevirtual 73, 3) := by decide +kernel
theorem dX7_door_73 : decode cX7_door 73 = .ok (.iload 4, 2) := by decide +kernel
theorem dX7_door_75 : decode cX7_door 75 = .ok (.ireturn, 1) := by decide +kernel
theorem dX7_rule_0 : decode cX7_rule 0 = .ok (.iload_n 1, 1) := by decide +kernel
theorem dX7_rule_1 : decode cX7_rule 1 = .ok (.iconst 0, 1) := by decide +kernel
theorem dX7_rule_2 : decode cX7_rule 2 = .ok (.iconst 2, 1) := by decide +kernel
theorem dX7_rule_3 : decode cX7_rule 3 = .ok (.invokestatic 60, 3) := by decide +kernel
theorem dX7_rule_6 : decode cX7_rule 6 = .ok (.ifCond .eq 23, 3) := by decide +kernel
theorem dX7_rule_9 : decode cX7_rule 9 = .ok (.iload_n 2, 1) := by decide +kernel
theorem dX7_rule_10 : decode cX7_rule 10 = .ok (.iconst 0, 1) := by decide +kernel
theorem dX7_rule_11 : decode cX7_rule 11 = .ok (.iload_n 1, 1) := by decide +kernel
theorem dX7_rule_12 : decode cX7_rule 12 = .ok (.iconst 2, 1) := by decide +kernel
theorem dX7_rule_13 : decode cX7_rule 13 = .ok (.if_icmp .ne 8, 3) := by decide +kernel
theorem dX7_rule_16 : decode cX7_rule 16 = .ok (.bipush 100, 2) := by decide +kernel
theorem dX7_rule_18 : decode cX7_rule 18 = .ok (.goto 5, 3) := by decide +kernel
theorem dX7_rule_21 : decode cX7_rule 21 = .ok (.bipush 7, 2) := by decide +kernel
theorem dX7_rule_23 : decode cX7_rule 23 = .ok (.invokestatic 60, 3) := by decide +kernel
theorem dX7_rule_26 : decode cX7_rule 26 = .ok (.ifCond .ne 10, 3) := by decide +kernel
theorem dX7_rule_29 : decode cX7_rule 29 = .ok (.aload_n 0, 1) := by decide +kernel
theorem dX7_rule_30 : decode cX7_rule 30 = .ok (.ldc 64, 2) := by decide +kernel
theorem dX7_rule_32 : decode cX7_rule 32 = .ok (.invokevirtual 65, 3) := by decide +kernel
theorem dX7_rule_35 : decode cX7_rule 35 = .ok (.ireturn, 1) := by decide +kernel
theorem dX7_rule_36 : decode cX7_rule 36 = .ok (.aload_n 0, 1) := by decide +kernel
theorem dX7_rule_37 : decode cX7_rule 37 = .ok (.getfield 12, 3) := by decide +kernel
theorem dX7_rule_40 : decode cX7_rule 40 = .ok (.iload_n 1, 1) := by decide +kernel
theorem dX7_rule_41 : decode cX7_rule 41 = .ok (.iload_n 2, 1) := by decide +kernel
theorem dX7_rule_42 : decode cX7_rule 42 = .ok (.invokevirtual 77, 3) := by decide +kernel
theorem dX7_rule_45 : decode cX7_rule 45 = .ok (.ireturn, 1) := by decide +kernel
theorem dX7_thing_0 : decode cX7_thing 0 = .ok (.iload_n 1, 1) := by decide +kernel
theorem dX7_thing_1 : decode cX7_thing 1 = .ok (.invokestatic 81, 3) := by decide +kernel
theorem dX7_thing_4 : decode cX7_thing 4 = .ok (.ifCond .eq 10, 3) := by decide +kernel
theorem dX7_thing_7 : decode cX7_thing 7 = .ok (.iload_n 2, 1) := by decide +kernel
theorem dX7_thing_8 : decode cX7_thing 8 = .ok (.invokestatic 56, 3) := by decide +kernel
theorem dX7_thing_11 : decode cX7_thing 11 = .ok (.ifCond .ne 10, 3) := by decide +kernel
theorem dX7_thing_14 : decode cX7_thing 14 = .ok (.aload_n 0, 1) := by decide +kernel
theorem dX7_thing_15 : decode cX7_thing 15 = .ok (.ldc 64, 2) := by decide +kernel
theorem dX7_thing_17 : decode cX7_thing 17 = .ok (.invokevirtual 65, 3) := by decide +kernel
theorem dX7_thing_20 : decode cX7_thing 20 = .ok (.ireturn, 1) := by decide +kernel
theorem dX7_thing_21 : decode cX7_thing 21 = .ok (.aload_n 0, 1) := by decide +kernel
theorem dX7_thing_22 : decode cX7_thing 22 = .ok (.getfield 12, 3) := by decide +kernel
theorem dX7_thing_25 : decode cX7_thing 25 = .ok (.getfield 84, 3) := by decide +kernel
theorem dX7_thing_28 : decode cX7_thing 28 = .ok (.bipush 8, 2) := by decide +kernel
theorem dX7_thing_30 : decode cX7_thing 30 = .ok (.if_icmp .lt 10, 3) := by decide +kernel
theorem dX7_thing_33 : decode cX7_thing 33 = .ok (.aload_n 0, 1) := by decide +kernel
theorem dX7_thing_34 : decode cX7_thing 34 = .ok (.ldc 88, 2) := by decide +kernel
theorem dX7_thing_36 : decode cX7_thing 36 = .ok (.invokevirtual 65, 3) := by decide +kernel
theorem dX7_thing_39 : decode cX7_thing 39 = .ok (.ireturn, 1) := by decide +kernel
theorem dX7_thing_40 : decode cX7_thing 40 = .ok (.aload_n 0, 1) := by decide +kernel
theorem dX7_thing_41 : decode cX7_thing 41 = .ok (.getfield 12, 3) := by decide +kernel
theorem dX7_thing_44 : decode cX7_thing 44 = .ok (.iload_n 1, 1) := by decide +kernel
theorem dX7_thing_45 : decode cX7_thing 45 = .ok (.iload_n 2, 1) := by decide +kernel
theorem dX7_thing_46 : decode cX7_thing 46 = .ok (.bipush 8, 2) := by decide +kernel
theorem dX7_thing_48 : decode cX7_thing 48 = .ok (.invokevirtual 89, 3) := by decide +kernel
theorem dX7_thing_51 : decode cX7_thing 51 = .ok (.ireturn, 1) := by decide +kernel
theorem dX7_of_0 : decode cX7_of 0 = .ok (.aload_n 0, 1) := by decide +kernel
theorem dX7_of_1 : decode cX7_of 1 = .ok (.iload_n 1, 1) := by decide +kernel
theorem dX7_of_2 : decode cX7_of 2 = .ok (.invokevirtual 93, 3) := by decide +kernel
theorem dX7_of_5 : decode cX7_of 5 = .ok (.ifCond .eq 13, 3) := by decide +kernel
theorem dX7_of_8 : decode cX7_of 8 = .ok (.iload_n 2, 1) := by decide +kernel
theorem dX7_of_9 : decode cX7_of 9 = .ok (.iconst 0, 1) := by decide +kernel
theorem dX7_of_10 : decode cX7_of 10 = .ok (.bipush 7, 2) := by decide +kernel
theorem dX7_of_12 : decode cX7_of 12 = .ok (.invokestatic 60, 3) := by decide +kernel
theorem dX7_of_15 : decode cX7_of 15 = .ok (.ifCond .ne 10, 3) := by decide +kernel
theorem dX7_of_18 : decode cX7_of 18 = .ok (.aload_n 0, 1) := by decide +kernel
theorem dX7_of_19 : decode cX7_of 19 = .ok (.ldc 64, 2) := by decide +kernel
theorem dX7_of_21 : decode cX7_of 21 = .ok (.invokevirtual 65, 3) := by decide +kernel
theorem dX7_of_24 : decode cX7_of 24 = .ok (.ireturn, 1) := by decide +kernel
theorem dX7_of_25 : decode cX7_of 25 = .ok (.iload_n 2, 1) := by decide +kernel
theorem dX7_of_26 : decode cX7_of 26 = .ok (.iconst 3, 1) := by decide +kernel
theorem dX7_of_27 : decode cX7_of 27 = .ok (.if_icmp .ge 15, 3) := by decide +kernel
theorem dX7_of_30 : decode cX7_of 30 = .ok (.aload_n 0, 1) := by decide +kernel
theorem dX7_of_31 : decode cX7_of 31 = .ok (.getfield 12, 3) := by decide +kernel
theorem dX7_of_34 : decode cX7_of 34 = .ok (.iload_n 1, 1) := by decide +kernel
theorem dX7_of_35 : decode cX7_of 35 = .ok (.iload_n 2, 1) := by decide +kernel
theorem dX7_of_36 : decode cX7_of 36 = .ok (.invokevirtual 96, 3) := by decide +kernel
theorem dX7_of_39 : decode cX7_of 39 = .ok (.goto 14, 3) := by decide +kernel
theorem dX7_of_42 : decode cX7_of 42 = .ok (.aload_n 0, 1) := by decide +kernel
theorem dX7_of_43 : decode cX7_of 43 = .ok (.getfield 12, 3) := by decide +kernel
theorem dX7_of_46 : decode cX7_of 46 = .ok (.iload_n 1, 1) := by decide +kernel
theorem dX7_of_47 : decode cX7_of 47 = .ok (.iload_n 2, 1) := by decide +kernel
theorem dX7_of_48 : decode cX7_of 48 = .ok (.iconst 3, 1) := by decide +kernel
theorem dX7_of_49 : decode cX7_of 49 = .ok (.isub, 1) := by decide +kernel
theorem dX7_of_50 : decode cX7_of 50 = .ok (.invokevirtual 99, 3) := by decide +kernel
theorem dX7_of_53 : decode cX7_of 53 = .ok (.ireturn, 1) := by decide +kernel
theorem dX7_change_0 : decode cX7_change 0 = .ok (.aload_n 0, 1) := by decide +kernel
theorem dX7_change_1 : decode cX7_change 1 = .ok (.iload_n 1, 1) := by decide +kernel
theorem dX7_change_2 : decode cX7_change 2 = .ok (.invokevirtual 93, 3) := by decide +kernel
theorem dX7_change_5 : decode cX7_change 5 = .ok (.ifCond .eq 20, 3) := by decide +kernel
theorem dX7_change_8 : decode cX7_change 8 = .ok (.iload_n 2, 1) := by decide +kernel
theorem dX7_change_9 : decode cX7_change 9 = .ok (.iconst 0, 1) := by decide +kernel
theorem dX7_change_10 : decode cX7_change 10 = .ok (.iconst 2, 1) := by decide +kernel
theorem dX7_change_11 : decode cX7_change 11 = .ok (.invokestatic 60, 3) := by decide +kernel
theorem dX7_change_14 : decode cX7_change 14 = .ok (.ifCond .eq 11, 3) := by decide +kernel
theorem dX7_change_17 : decode cX7_change 17 = .ok (.iload_n 2, 1) := by decide +kernel
theorem dX7_change_18 : decode cX7_change 18 = .ok (.iload_n 3, 1) := by decide +kernel
theorem dX7_change_19 : decode cX7_change 19 = .ok (.invokestatic 102, 3) := by decide +kernel
theorem dX7_change_22 : decode cX7_change 22 = .ok (.ifCond .ne 10, 3) := by decide +kernel
theorem dX7_change_25 : decode cX7_change 25 = .ok (.aload_n 0, 1) := by decide +kernel
theorem dX7_change_26 : decode cX7_change 26 = .ok (.ldc 64, 2) := by decide +kernel
theorem dX7_change_28 : decode cX7_change 28 = .ok (.invokevirtual 65, 3) := by decide +kernel
theorem dX7_change_31 : decode cX7_change 31 = .ok (.ireturn, 1) := by decide +kernel
theorem dX7_change_32 : decode cX7_change 32 = .ok (.aload_n 0, 1) := by decide +kernel
theorem dX7_change_33 : decode cX7_change 33 = .ok (.getfield 12, 3) := by decide +kernel
theorem dX7_change_36 : decode cX7_change 36 = .ok (.iload_n 1, 1) := by decide +kernel
theorem dX7_change_37 : decode cX7_change 37 = .ok (.iload_n 2, 1) := by decide +kernel
theorem dX7_change_38 : decode cX7_change 38 = .ok (.invokevirtual 96, 3) := by decide +kernel
theorem dX7_change_41 : decode cX7_change 41 = .ok (.istore 4, 2) := by decide +kernel
theorem dX7_change_43 : decode cX7_change 43 = .ok (.aload_n 0, 1) := by decide +kernel
theorem dX7_change_44 : decode cX7_change 44 = .ok (.getfield 12, 3) := by decide +kernel
theorem dX7_change_47 : decode cX7_change 47 = .ok (.iload_n 1, 1) := by decide +kernel
theorem dX7_change_48 : decode cX7_change 48 = .ok (.iload_n 2, 1) := by decide +kernel
theorem dX7_change_49 : decode cX7_change 49 = .ok (.iload_n 3, 1) := by decide +kernel
theorem dX7_change_50 : decode cX7_change 50 = .ok (.invokevirtual 105, 3) := by decide +kernel
theorem dX7_change_53 : decode cX7_change 53 = .ok (.iload 4, 2) := by decide +kernel
theorem dX7_change_55 : decode cX7_change 55 = .ok (.ireturn, 1) := by decide +kernel
theorem dX7_one_0 : decode cX7_one 0 = .ok (.iload_n 1, 1) := by decide +kernel
theorem dX7_one_1 : decode cX7_one 1 = .ok (.invokestatic 109, 3) := by decide +kernel
theorem dX7_one_4 : decode cX7_one 4 = .ok (.ifCond .ne 10, 3) := by decide +kernel
theorem dX7_one_7 : decode cX7_one 7 = .ok (.aload_n 0, 1) := by decide +kernel
theorem dX7_one_8 : decode cX7_one 8 = .ok (.ldc 64, 2) := by decide +kernel
theorem dX7_one_10 : decode cX7_one 10 = .ok (.invokevirtual 65, 3) := by decide +kernel
theorem dX7_one_13 : decode cX7_one 13 = .ok (.ireturn, 1) := by decide +kernel
theorem dX7_one_14 : decode cX7_one 14 = .ok (.aload_n 0, 1) := by decide +kernel
theorem dX7_one_15 : decode cX7_one 15 = .ok (.getfield 12, 3) := by decide +kernel
theorem dX7_one_18 : decode cX7_one 18 = .ok (.getfield 112, 3) := by decide +kernel
theorem dX7_one_21 : decode cX7_one 21 = .ok (.iconst 4, 1) := by decide +kernel
theorem dX7_one_22 : decode cX7_one 22 = .ok (.if_icmp .lt 10, 3) := by decide +kernel
theorem dX7_one_25 : decode cX7_one 25 = .ok (.aload_n 0, 1) := by decide +kernel
theorem dX7_one_26 : decode cX7_one 26 = .ok (.ldc 88, 2) := by decide +kernel
theorem dX7_one_28 : decode cX7_one 28 = .ok (.invokevirtual 65, 3) := by decide +kernel
theorem dX7_one_31 : decode cX7_one 31 = .ok (.ireturn, 1) := by decide +kernel
theorem dX7_one_32 : decode cX7_one 32 = .ok (.aload_n 0, 1) := by decide +kernel
theorem dX7_one_33 : decode cX7_one 33 = .ok (.getfield 12, 3) := by decide +kernel
theorem dX7_one_36 : decode cX7_one 36 = .ok (.iload_n 1, 1) := by decide +kernel
theorem dX7_one_37 : decode cX7_one 37 = .ok (.bipush 10, 2) := by decide +kernel
theorem dX7_one_39 : decode cX7_one 39 = .ok (.invokevirtual 115, 3) := by decide +kernel
theorem dX7_one_42 : decode cX7_one 42 = .ok (.ireturn, 1) := by decide +kernel
theorem dX7_person_0 : decode cX7_person 0 = .ok (.aload_n 0, 1) := by decide +kernel
theorem dX7_person_1 : decode cX7_person 1 = .ok (.iload_n 1, 1) := by decide +kernel
theorem dX7_person_2 : decode cX7_person 2 = .ok (.invokevirtual 118, 3) := by decide +kernel
theorem dX7_person_5 : decode cX7_person 5 = .ok (.ifCond .eq 31, 3) := by decide +kernel
theorem dX7_person_8 : decode cX7_person 8 = .ok (.iload_n 2, 1) := by decide +kernel
theorem dX7_person_9 : decode cX7_person 9 = .ok (.iconst 0, 1) := by decide +kernel
theorem dX7_person_10 : decode cX7_person 10 = .ok (.iconst 1, 1) := by decide +kernel
theorem dX7_person_11 : decode cX7_person 11 = .ok (.invokestatic 60, 3) := by decide +kernel
theorem dX7_person_14 : decode cX7_person 14 = .ok (.ifCond .eq 22, 3) := by decide +kernel
theorem dX7_person_17 : decode cX7_person 17 = .ok (.iload_n 3, 1) := by decide +kernel
theorem dX7_person_18 : decode cX7_person 18 = .ok (.iconst 0, 1) := by decide +kernel
theorem dX7_person_19 : decode cX7_person 19 = .ok (.iload_n 2, 1) := by decide +kernel
theorem dX7_person_20 : decode cX7_person 20 = .ok (.ifCond .ne 8, 3) := by decide +kernel
theorem dX7_person_23 : decode cX7_person 23 = .ok (.bipush 39, 2) := by decide +kernel
theorem dX7_person_25 : decode cX7_person 25 = .ok (.goto 5, 3) := by decide +kernel
theorem dX7_person_28 : decode cX7_person 28 = .ok (.bipush 60, 2) := by decide +kernel
theorem dX7_person_30 : decode cX7_person 30 = .ok (.invokestatic 60, 3) := by decide +kernel
theorem dX7_person_33 : decode cX7_person 33 = .ok (.ifCond .ne 10, 3) := by decide +kernel
theorem dX7_person_36 : decode cX7_person 36 = .ok (.aload_n 0, 1) := by decide +kernel
theorem dX7_person_37 : decode cX7_person 37 = .ok (.ldc 64, 2) := by decide +kernel
theorem dX7_person_39 : decode cX7_person 39 = .ok (.invokevirtual 65, 3) := by decide +kernel
theorem dX7_person_42 : decode cX7_person 42 = .ok (.ireturn, 1) := by decide +kernel
theorem dX7_person_43 : decode cX7_person 43 = .ok (.aload_n 0, 1) := by decide +kernel
theorem dX7_person_44 : decode cX7_person 44 = .ok (.getfield 12, 3) := by decide +kernel
theorem dX7_person_47 : decode cX7_person 47 = .ok (.iload_n 1, 1) := by decide +kernel
theorem dX7_person_48 : decode cX7_person 48 = .ok (.iload_n 2, 1) := by decide +kernel
theorem dX7_person_49 : decode cX7_person 49 = .ok (.invokevirtual 121, 3) := by decide +kernel
theorem dX7_person_52 : decode cX7_person 52 = .ok (.istore 4, 2) := by decide +kernel
theorem dX7_person_54 : decode cX7_person 54 = .ok (.aload_n 0, 1) := by decide +kernel
theorem dX7_person_55 : decode cX7_person 55 = .ok (.getfield 12, 3) := by decide +kernel
theorem dX7_person_58 : decode cX7_person 58 = .ok (.iload_n 1, 1) := by decide +kernel
theorem dX7_person_59 : decode cX7_person 59 = .ok (.iload_n 2, 1) := by decide +kernel
theorem dX7_person_60 : decode cX7_person 60 = .ok (.iload_n 3, 1) := by decide +kernel
theorem dX7_person_61 : decode cX7_person 61 = .ok (.invokevirtual 124, 3) := by decide +kernel
theorem dX7_person_64 : decode cX7_person 64 = .ok (.iload 4, 2) := by decide +kernel
theorem dX7_person_66 : decode cX7_person 66 = .ok (.ireturn, 1) := by decide +kernel
theorem dX7_tell_0 : decode cX7_tell 0 = .ok (.aload_n 0, 1) := by decide +kernel
theorem dX7_tell_1 : decode cX7_tell 1 = .ok (.iload_n 1, 1) := by decide +kernel
theorem dX7_tell_2 : decode cX7_tell 2 = .ok (.invokevirtual 118, 3) := by decide +kernel
theorem dX7_tell_5 : decode cX7_tell 5 = .ok (.ifCond .eq 12, 3) := by decide +kernel
theorem dX7_tell_8 : decode cX7_tell 8 = .ok (.iload_n 2, 1) := by decide +kernel
theorem dX7_tell_9 : decode cX7_tell 9 = .ok (.iconst 0, 1) := by decide +kernel
theorem dX7_tell_10 : decode cX7_tell 10 = .ok (.iconst 1, 1) := by decide +kernel
theorem dX7_tell_11 : decode cX7_tell 11 = .ok (.invokestatic 60, 3) := by decide +kernel
theorem dX7_tell_14 : decode cX7_tell 14 = .ok (.ifCond .ne 10, 3) := by decide +kernel
theorem dX7_tell_17 : decode cX7_tell 17 = .ok (.aload_n 0, 1) := by decide +kernel
theorem dX7_tell_18 : decode cX7_tell 18 = .ok (.ldc 64, 2) := by decide +kernel
theorem dX7_tell_20 : decode cX7_tell 20 = .ok (.invokevirtual 65, 3) := by decide +kernel
theorem dX7_tell_23 : decode cX7_tell 23 = .ok (.ireturn, 1) := by decide +kernel
theorem dX7_tell_24 : decode cX7_tell 24 = .ok (.aload_n 0, 1) := by decide +kernel
theorem dX7_tell_25 : decode cX7_tell 25 = .ok (.getfield 12, 3) := by decide +kernel
theorem dX7_tell_28 : decode cX7_tell 28 = .ok (.iload_n 1, 1) := by decide +kernel
theorem dX7_tell_29 : decode cX7_tell 29 = .ok (.iload_n 2, 1) := by decide +kernel
theorem dX7_tell_30 : decode cX7_tell 30 = .ok (.invokevirtual 121, 3) := by decide +kernel
theorem dX7_tell_33 : decode cX7_tell 33 = .ok (.ireturn, 1) := by decide +kernel
theorem dX7_lie_0 : decode cX7_lie 0 = .ok (.iload_n 1, 1) := by decide +kernel
theorem dX7_lie_1 : decode cX7_lie 1 = .ok (.invokestatic 56, 3) := by decide +kernel
theorem dX7_lie_4 : decode cX7_lie 4 = .ok (.ifCond .ne 10, 3) := by decide +kernel
theorem dX7_lie_7 : decode cX7_lie 7 = .ok (.aload_n 0, 1) := by decide +kernel
theorem dX7_lie_8 : decode cX7_lie 8 = .ok (.ldc 64, 2) := by decide +kernel
theorem dX7_lie_10 : decode cX7_lie 10 = .ok (.invokevirtual 65, 3) := by decide +kernel
theorem dX7_lie_13 : decode cX7_lie 13 = .ok (.ireturn, 1) := by decide +kernel
theorem dX7_lie_14 : decode cX7_lie 14 = .ok (.aload_n 0, 1) := by decide +kernel
theorem dX7_lie_15 : decode cX7_lie 15 = .ok (.getfield 12, 3) := by decide +kernel
theorem dX7_lie_18 : decode cX7_lie 18 = .ok (.iload_n 1, 1) := by decide +kernel
theorem dX7_lie_19 : decode cX7_lie 19 = .ok (.invokevirtual 127, 3) := by decide +kernel
theorem dX7_lie_22 : decode cX7_lie 22 = .ok (.ireturn, 1) := by decide +kernel
theorem dX7_walk_0 : decode cX7_walk 0 = .ok (.aload_n 0, 1) := by decide +kernel
theorem dX7_walk_1 : decode cX7_walk 1 = .ok (.iload_n 1, 1) := by decide +kernel
theorem dX7_walk_2 : decode cX7_walk 2 = .ok (.invokevirtual 118, 3) := by decide +kernel
theorem dX7_walk_5 : decode cX7_walk 5 = .ok (.ifCond .eq 10, 3) := by decide +kernel
theorem dX7_walk_8 : decode cX7_walk 8 = .ok (.iload_n 2, 1) := by decide +kernel
theorem dX7_walk_9 : decode cX7_walk 9 = .ok (.invokestatic 56, 3) := by decide +kernel
theorem dX7_walk_12 : decode cX7_walk 12 = .ok (.ifCond .ne 10, 3) := by decide +kernel
theorem dX7_walk_15 : decode cX7_walk 15 = .ok (.aload_n 0, 1) := by decide +kernel
theorem dX7_walk_16 : decode cX7_walk 16 = .ok (.ldc 64, 2) := by decide +kernel
theorem dX7_walk_18 : decode cX7_walk 18 = .ok (.invokevirtual 65, 3) := by decide +kernel
theorem dX7_walk_21 : decode cX7_walk 21 = .ok (.ireturn, 1) := by decide +kernel
theorem dX7_walk_22 : decode cX7_walk 22 = .ok (.aload_n 0, 1) := by decide +kernel
theorem dX7_walk_23 : decode cX7_walk 23 = .ok (.getfield 12, 3) := by decide +kernel
theorem dX7_walk_26 : decode cX7_walk 26 = .ok (.aload_n 0, 1) := by decide +kernel
theorem dX7_walk_27 : decode cX7_walk 27 = .ok (.getfield 12, 3) := by decide +kernel
theorem dX7_walk_30 : decode cX7_walk 30 = .ok (.iload_n 1, 1) := by decide +kernel
theorem dX7_walk_31 : decode cX7_walk 31 = .ok (.invokevirtual 130, 3) := by decide +kernel
theorem dX7_walk_34 : decode cX7_walk 34 = .ok (.iload_n 2, 1) := by decide +kernel
theorem dX7_walk_35 : decode cX7_walk 35 = .ok (.invokevirtual 69, 3) := by decide +kernel
theorem dX7_walk_38 : decode cX7_walk 38 = .ok (.ifCond .ne 10, 3) := by decide +kernel
theorem dX7_walk_41 : decode cX7_walk 41 = .ok (.aload_n 0, 1) := by decide +kernel
theorem dX7_walk_42 : decode cX7_walk 42 = .ok (.ldc 133, 2) := by decide +kernel
theorem dX7_walk_44 : decode cX7_walk 44 = .ok (.invokevirtual 65, 3) := by decide +kernel
theorem dX7_walk_47 : decode cX7_walk 47 = .ok (.ireturn, 1) := by decide +kernel
theorem dX7_walk_48 : decode cX7_walk 48 = .ok (.aload_n 0, 1) := by decide +kernel
theorem dX7_walk_49 : decode cX7_walk 49 = .ok (.getfield 12, 3) := by decide +kernel
theorem dX7_walk_52 : decode cX7_walk 52 = .ok (.iload_n 1, 1) := by decide +kernel
theorem dX7_walk_53 : decode cX7_walk 53 = .ok (.iload_n 2, 1) := by decide +kernel
theorem dX7_walk_54 : decode cX7_walk 54 = .ok (.invokevirtual 134, 3) := by decide +kernel
theorem dX7_walk_57 : decode cX7_walk 57 = .ok (.aload_n 0, 1) := by decide +kernel
theorem dX7_walk_58 : decode cX7_walk 58 = .ok (.getfield 12, 3) := by decide +kernel
theorem dX7_walk_61 : decode cX7_walk 61 = .ok (.getfield 138, 3) := by decide +kernel
theorem dX7_walk_64 : decode cX7_walk 64 = .ok (.iload_n 1, 1) := by decide +kernel
theorem dX7_walk_65 : decode cX7_walk 65 = .ok (.iaload, 1) := by decide +kernel
theorem dX7_walk_66 : decode cX7_walk 66 = .ok (.ireturn, 1) := by decide +kernel
theorem dX7_in_0 : decode cX7_in 0 = .ok (.aload_n 0, 1) := by decide +kernel
theorem dX7_in_1 : decode cX7_in 1 = .ok (.iload_n 1, 1) := by decide +kernel
theorem dX7_in_2 : decode cX7_in 2 = .ok (.invokevirtual 118, 3) := by decide +kernel
theorem dX7_in_5 : decode cX7_in 5 = .ok (.ifCond .ne 10, 3) := by decide +kernel
theorem dX7_in_8 : decode cX7_in 8 = .ok (.aload_n 0, 1) := by decide +kernel
theorem dX7_in_9 : decode cX7_in 9 = .ok (.ldc 64, 2) := by decide +kernel
theorem dX7_in_11 : decode cX7_in 11 = .ok (.invokevirtual 65, 3) := by decide +kernel
theorem dX7_in_14 : decode cX7_in 14 = .ok (.ireturn, 1) := by decide +kernel
theorem dX7_in_15 : decode cX7_in 15 = .ok (.aload_n 0, 1) := by decide +kernel
theorem dX7_in_16 : decode cX7_in 16 = .ok (.iload_n 1, 1) := by decide +kernel
theorem dX7_in_17 : decode cX7_in 17 = .ok (.aload_n 0, 1) := by decide +kernel
theorem dX7_in_18 : decode cX7_in 18 = .ok (.getfield 12, 3) := by decide +kernel
theorem dX7_in_21 : decode cX7_in 21 = .ok (.aload_n 0, 1) := by decide +kernel
theorem dX7_in_22 : decode cX7_in 22 = .ok (.getfield 12, 3) := by decide +kernel
theorem dX7_in_25 : decode cX7_in 25 = .ok (.getfield 138, 3) := by decide +kernel
theorem dX7_in_28 : decode cX7_in 28 = .ok (.iload_n 1, 1) := by decide +kernel
theorem dX7_in_29 : decode cX7_in 29 = .ok (.iaload, 1) := by decide +kernel
theorem dX7_in_30 : decode cX7_in 30 = .ok (.invokevirtual 141, 3) := by decide +kernel
theorem dX7_in_33 : decode cX7_in 33 = .ok (.invokevirtual 144, 3) := by decide +kernel
theorem dX7_in_36 : decode cX7_in 36 = .ok (.ireturn, 1) := by decide +kernel
theorem dX7_out_0 : decode cX7_out 0 = .ok (.aload_n 0, 1) := by decide +kernel
theorem dX7_out_1 : decode cX7_out 1 = .ok (.iload_n 1, 1) := by decide +kernel
theorem dX7_out_2 : decode cX7_out 2 = .ok (.invokevirtual 118, 3) := by decide +kernel
theorem dX7_out_5 : decode cX7_out 5 = .ok (.ifCond .ne 10, 3) := by decide +kernel
theorem dX7_out_8 : decode cX7_out 8 = .ok (.aload_n 0, 1) := by decide +kernel
theorem dX7_out_9 : decode cX7_out 9 = .ok (.ldc 64, 2) := by decide +kernel
theorem dX7_out_11 : decode cX7_out 11 = .ok (.invokevirtual 65, 3) := by decide +kernel
theorem dX7_out_14 : decode cX7_out 14 = .ok (.ireturn, 1) := by decide +kernel
theorem dX7_out_15 : decode cX7_out 15 = .ok (.aload_n 0, 1) := by decide +kernel
theorem dX7_out_16 : decode cX7_out 16 = .ok (.iload_n 1, 1) := by decide +kernel
theorem dX7_out_17 : decode cX7_out 17 = .ok (.aload_n 0, 1) := by decide +kernel
theorem dX7_out_18 : decode cX7_out 18 = .ok (.getfield 12, 3) := by decide +kernel
theorem dX7_out_21 : decode cX7_out 21 = .ok (.aload_n 0, 1) := by decide +kernel
theorem dX7_out_22 : decode cX7_out 22 = .ok (.getfield 12, 3) := by decide +kernel
theorem dX7_out_25 : decode cX7_out 25 = .ok (.getfield 138, 3) := by decide +kernel
theorem dX7_out_28 : decode cX7_out 28 = .ok (.iload_n 1, 1) := by decide +kernel
theorem dX7_out_29 : decode cX7_out 29 = .ok (.iaload, 1) := by decide +kernel
theorem dX7_out_30 : decode cX7_out 30 = .ok (.invokevirtual 147, 3) := by decide +kernel
theorem dX7_out_33 : decode cX7_out 33 = .ok (.invokevirtual 144, 3) := by decide +kernel
theorem dX7_out_36 : decode cX7_out 36 = .ok (.ireturn, 1) := by decide +kernel
theorem dX7_carry_0 : decode cX7_carry 0 = .ok (.aload_n 0, 1) := by decide +kernel
theorem dX7_carry_1 : decode cX7_carry 1 = .ok (.iload_n 1, 1) := by decide +kernel
theorem dX7_carry_2 : decode cX7_carry 2 = .ok (.invokevirtual 118, 3) := by decide +kernel
theorem dX7_carry_5 : decode cX7_carry 5 = .ok (.ifCond .eq 18, 3) := by decide +kernel
theorem dX7_carry_8 : decode cX7_carry 8 = .ok (.aload_n 0, 1) := by decide +kernel
theorem dX7_carry_9 : decode cX7_carry 9 = .ok (.iload_n 2, 1) := by decide +kernel
theorem dX7_carry_10 : decode cX7_carry 10 = .ok (.invokevirtual 93, 3) := by decide +kernel
theorem dX7_carry_13 : decode cX7_carry 13 = .ok (.ifCond .eq 10, 3) := by decide +kernel
theorem dX7_carry_16 : decode cX7_carry 16 = .ok (.iload_n 3, 1) := by decide +kernel
theorem dX7_carry_17 : decode cX7_carry 17 = .ok (.invokestatic 56, 3) := by decide +kernel
theorem dX7_carry_20 : decode cX7_carry 20 = .ok (.ifCond .ne 10, 3) := by decide +kernel
theorem dX7_carry_23 : decode cX7_carry 23 = .ok (.aload_n 0, 1) := by decide +kernel
theorem dX7_carry_24 : decode cX7_carry 24 = .ok (.ldc 64, 2) := by decide +kernel
theorem dX7_carry_26 : decode cX7_carry 26 = .ok (.invokevirtual 65, 3) := by decide +kernel
theorem dX7_carry_29 : decode cX7_carry 29 = .ok (.ireturn, 1) := by decide +kernel
theorem dX7_carry_30 : decode cX7_carry 30 = .ok (.aload_n 0, 1) := by decide +kernel
theorem dX7_carry_31 : decode cX7_carry 31 = .ok (.getfield 12, 3) := by decide +kernel
theorem dX7_carry_34 : decode cX7_carry 34 = .ok (.iload_n 1, 1) := by decide +kernel
theorem dX7_carry_35 : decode cX7_carry 35 = .ok (.iload_n 2, 1) := by decide +kernel
theorem dX7_carry_36 : decode cX7_carry 36 = .ok (.invokevirtual 150, 3) := by decide +kernel
theorem dX7_carry_39 : decode cX7_carry 39 = .ok (.ifCond .eq 22, 3) := by decide +kernel
theorem dX7_carry_42 : decode cX7_carry 42 = .ok (.aload_n 0, 1) := by decide +kernel
theorem dX7_carry_43 : decode cX7_carry 43 = .ok (.getfield 12, 3) := by decide +kernel
theorem dX7_carry_46 : decode cX7_carry 46 = .ok (.aload_n 0, 1) := by decide +kernel
theorem dX7_carry_47 : decode cX7_carry 47 = .ok (.getfield 12, 3) := by decide +kernel
theorem dX7_carry_50 : decode cX7_carry 50 = .ok (.iload_n 1, 1) := by decide +kernel
theorem dX7_carry_51 : decode cX7_carry 51 = .ok (.invokevirtual 130, 3) := by decide +kernel
theorem dX7_carry_54 : decode cX7_carry 54 = .ok (.iload_n 3, 1) := by decide +kernel
theorem dX7_carry_55 : decode cX7_carry 55 = .ok (.invokevirtual 69, 3) := by decide +kernel
theorem dX7_carry_58 : decode cX7_carry 58 = .ok (.ifCond .ne 10, 3) := by decide +kernel
theorem dX7_carry_61 : decode cX7_carry 61 = .ok (.aload_n 0, 1) := by decide +kernel
theorem dX7_carry_62 : decode cX7_carry 62 = .ok (.ldc 133, 2) := by decide +kernel
theorem dX7_carry_64 : decode cX7_carry 64 = .ok (.invokevirtual 65, 3) := by decide +kernel
theorem dX7_carry_67 : decode cX7_carry 67 = .ok (.ireturn, 1) := by decide +kernel
theorem dX7_carry_68 : decode cX7_carry 68 = .ok (.aload_n 0, 1) := by decide +kernel
theorem dX7_carry_69 : decode cX7_carry 69 = .ok (.getfield 12, 3) := by decide +kernel
theorem dX7_carry_72 : decode cX7_carry 72 = .ok (.iload_n 1, 1) := by decide +kernel
theorem dX7_carry_73 : decode cX7_carry 73 = .ok (.iload_n 2, 1) := by decide +kernel
theorem dX7_carry_74 : decode cX7_carry 74 = .ok (.iload_n 3, 1) := by decide +kernel
theorem dX7_carry_75 : decode cX7_carry 75 = .ok (.invokevirtual 153, 3) := by decide +kernel
theorem dX7_carry_78 : decode cX7_carry 78 = .ok (.ireturn, 1) := by decide +kernel
theorem dX7_reach_0 : decode cX7_reach 0 = .ok (.aload_n 0, 1) := by decide +kernel
theorem dX7_reach_1 : decode cX7_reach 1 = .ok (.iload_n 1, 1) := by decide +kernel
theorem dX7_reach_2 : decode cX7_reach 2 = .ok (.invokevirtual 118, 3) := by decide +kernel
theorem dX7_reach_5 : decode cX7_reach 5 = .ok (.ifCond .eq 18, 3) := by decide +kernel
theorem dX7_reach_8 : decode cX7_reach 8 = .ok (.aload_n 0, 1) := by decide +kernel
theorem dX7_reach_9 : decode cX7_reach 9 = .ok (.iload_n 2, 1) := by decide +kernel
theorem dX7_reach_10 : decode cX7_reach 10 = .ok (.invokevirtual 93, 3) := by decide +kernel
theorem dX7_reach_13 : decode cX7_reach 13 = .ok (.ifCond .eq 10, 3) := by decide +kernel
theorem dX7_reach_16 : decode cX7_reach 16 = .ok (.iload_n 3, 1) := by decide +kernel
theorem dX7_reach_17 : decode cX7_reach 17 = .ok (.invokestatic 56, 3) := by decide +kernel
theorem dX7_reach_20 : decode cX7_reach 20 = .ok (.ifCond .ne 10, 3) := by decide +kernel
theorem dX7_reach_23 : decode cX7_reach 23 = .ok (.aload_n 0, 1) := by decide +kernel
theorem dX7_reach_24 : decode cX7_reach 24 = .ok (.ldc 64, 2) := by decide +kernel
theorem dX7_reach_26 : decode cX7_reach 26 = .ok (.invokevirtual 65, 3) := by decide +kernel
theorem dX7_reach_29 : decode cX7_reach 29 = .ok (.ireturn, 1) := by decide +kernel
theorem dX7_reach_30 : decode cX7_reach 30 = .ok (.aload_n 0, 1) := by decide +kernel
theorem dX7_reach_31 : decode cX7_reach 31 = .ok (.getfield 12, 3) := by decide +kernel
theorem dX7_reach_34 : decode cX7_reach 34 = .ok (.iload_n 1, 1) := by decide +kernel
theorem dX7_reach_35 : decode cX7_reach 35 = .ok (.iload_n 2, 1) := by decide +kernel
theorem dX7_reach_36 : decode cX7_reach 36 = .ok (.invokevirtual 156, 3) := by decide +kernel
theorem dX7_reach_39 : decode cX7_reach 39 = .ok (.ifCond .eq 16, 3) := by decide +kernel
theorem dX7_reach_42 : decode cX7_reach 42 = .ok (.aload_n 0, 1) := by decide +kernel
theorem dX7_reach_43 : decode cX7_reach 43 = .ok (.getfield 12, 3) := by decide +kernel
theorem dX7_reach_46 : decode cX7_reach 46 = .ok (.getfield 159, 3) := by decide +kernel
theorem dX7_reach_49 : decode cX7_reach 49 = .ok (.iload_n 2, 1) := by decide +kernel
theorem dX7_reach_50 : decode cX7_reach 50 = .ok (.iaload, 1) := by decide +kernel
theorem dX7_reach_51 : decode cX7_reach 51 = .ok (.iload_n 3, 1) := by decide +kernel
theorem dX7_reach_52 : decode cX7_reach 52 = .ok (.if_icmp .ne 10, 3) := by decide +kernel
theorem dX7_reach_55 : decode cX7_reach 55 = .ok (.aload_n 0, 1) := by decide +kernel
theorem dX7_reach_56 : decode cX7_reach 56 = .ok (.ldc 133, 2) := by decide +kernel
theorem dX7_reach_58 : decode cX7_reach 58 = .ok (.invokevirtual 65, 3) := by decide +kernel
theorem dX7_reach_61 : decode cX7_reach 61 = .ok (.ireturn, 1) := by decide +kernel
theorem dX7_reach_62 : decode cX7_reach 62 = .ok (.aload_n 0, 1) := by decide +kernel
theorem dX7_reach_63 : decode cX7_reach 63 = .ok (.getfield 12, 3) := by decide +kernel
theorem dX7_reach_66 : decode cX7_reach 66 = .ok (.iload_n 1, 1) := by decide +kernel
theorem dX7_reach_67 : decode cX7_reach 67 = .ok (.iload_n 2, 1) := by decide +kernel
theorem dX7_reach_68 : decode cX7_reach 68 = .ok (.iload_n 3, 1) := by decide +kernel
theorem dX7_reach_69 : decode cX7_reach 69 = .ok (.invokevirtual 162, 3) := by decide +kernel
theorem dX7_reach_72 : decode cX7_reach 72 = .ok (.ireturn, 1) := by decide +kernel
theorem dX7_lift_0 : decode cX7_lift 0 = .ok (.aload_n 0, 1) := by decide +kernel
theorem dX7_lift_1 : decode cX7_lift 1 = .ok (.iload_n 1, 1) := by decide +kernel
theorem dX7_lift_2 : decode cX7_lift 2 = .ok (.invokevirtual 118, 3) := by decide +kernel
theorem dX7_lift_5 : decode cX7_lift 5 = .ok (.ifCond .eq 23, 3) := by decide +kernel
theorem dX7_lift_8 : decode cX7_lift 8 = .ok (.aload_n 0, 1) := by decide +kernel
theorem dX7_lift_9 : decode cX7_lift 9 = .ok (.iload_n 2, 1) := by decide +kernel
theorem dX7_lift_10 : decode cX7_lift 10 = .ok (.invokevirtual 118, 3) := by decide +kernel
theorem dX7_lift_13 : decode cX7_lift 13 = .ok (.ifCond .eq 15, 3) := by decide +kernel
theorem dX7_lift_16 : decode cX7_lift 16 = .ok (.iload_n 1, 1) := by decide +kernel
theorem dX7_lift_17 : decode cX7_lift 17 = .ok (.iload_n 2, 1) := by decide +kernel
theorem dX7_lift_18 : decode cX7_lift 18 = .ok (.if_icmp .eq 10, 3) := by decide +kernel
theorem dX7_lift_21 : decode cX7_lift 21 = .ok (.iload_n 3, 1) := by decide +kernel
theorem dX7_lift_22 : decode cX7_lift 22 = .ok (.invokestatic 56, 3) := by decide +kernel
theorem dX7_lift_25 : decode cX7_lift 25 = .ok (.ifCond .ne 10, 3) := by decide +kernel
theorem dX7_lift_28 : decode cX7_lift 28 = .ok (.aload_n 0, 1) := by decide +kernel
theorem dX7_lift_29 : decode cX7_lift 29 = .ok (.ldc 64, 2) := by decide +kernel
theorem dX7_lift_31 : decode cX7_lift 31 = .ok (.invokevirtual 65, 3) := by decide +kernel
theorem dX7_lift_34 : decode cX7_lift 34 = .ok (.ireturn, 1) := by decide +kernel
theorem dX7_lift_35 : decode cX7_lift 35 = .ok (.aload_n 0, 1) := by decide +kernel
theorem dX7_lift_36 : decode cX7_lift 36 = .ok (.getfield 12, 3) := by decide +kernel
theorem dX7_lift_39 : decode cX7_lift 39 = .ok (.iload_n 1, 1) := by decide +kernel
theorem dX7_lift_40 : decode cX7_lift 40 = .ok (.iload_n 2, 1) := by decide +kernel
theorem dX7_lift_41 : decode cX7_lift 41 = .ok (.invokevirtual 165, 3) := by decide +kernel
theorem dX7_lift_44 : decode cX7_lift 44 = .ok (.ifCond .eq 15, 3) := by decide +kernel
theorem dX7_lift_47 : decode cX7_lift 47 = .ok (.aload_n 0, 1) := by decide +kernel
theorem dX7_lift_48 : decode cX7_lift 48 = .ok (.getfield 12, 3) := by decide +kernel
theorem dX7_lift_51 : decode cX7_lift 51 = .ok (.iload_n 2, 1) := by decide +kernel
theorem dX7_lift_52 : decode cX7_lift 52 = .ok (.invokevirtual 130, 3) := by decide +kernel
theorem dX7_lift_55 : decode cX7_lift 55 = .ok (.iload_n 3, 1) := by decide +kernel
theorem dX7_lift_56 : decode cX7_lift 56 = .ok (.if_icmp .ne 10, 3) := by decide +kernel
theorem dX7_lift_59 : decode cX7_lift 59 = .ok (.aload_n 0, 1) := by decide +kernel
theorem dX7_lift_60 : decode cX7_lift 60 = .ok (.ldc 133, 2) := by decide +kernel
theorem dX7_lift_62 : decode cX7_lift 62 = .ok (.invokevirtual 65, 3) := by decide +kernel
theorem dX7_lift_65 : decode cX7_lift 65 = .ok (.ireturn, 1) := by decide +kernel
theorem dX7_lift_66 : decode cX7_lift 66 = .ok (.aload_n 0, 1) := by decide +kernel
theorem dX7_lift_67 : decode cX7_lift 67 = .ok (.getfield 12, 3) := by decide +kernel
theorem dX7_lift_70 : decode cX7_lift 70 = .ok (.iload_n 2, 1) := by decide +kernel
theorem dX7_lift_71 : decode cX7_lift 71 = .ok (.iload_n 3, 1) := by decide +kernel
theorem dX7_lift_72 : decode cX7_lift 72 = .ok (.invokevirtual 134, 3) := by decide +kernel
theorem dX7_lift_75 : decode cX7_lift 75 = .ok (.aload_n 0, 1) := by decide +kernel
theorem dX7_lift_76 : decode cX7_lift 76 = .ok (.getfield 12, 3) := by decide +kernel
theorem dX7_lift_79 : decode cX7_lift 79 = .ok (.dup, 1) := by decide +kernel
theorem dX7_lift_80 : decode cX7_lift 80 = .ok (.getfield 168, 3) := by decide +kernel
theorem dX7_lift_83 : decode cX7_lift 83 = .ok (.iconst 1, 1) := by decide +kernel
theorem dX7_lift_84 : decode cX7_lift 84 = .ok (.iadd, 1) := by decide +kernel
theorem dX7_lift_85 : decode cX7_lift 85 = .ok (.putfield 168, 3) := by decide +kernel
theorem dX7_lift_88 : decode cX7_lift 88 = .ok (.aload_n 0, 1) := by decide +kernel
theorem dX7_lift_89 : decode cX7_lift 89 = .ok (.getfield 12, 3) := by decide +kernel
theorem dX7_lift_92 : decode cX7_lift 92 = .ok (.getfield 168, 3) := by decide +kernel
theorem dX7_lift_95 : decode cX7_lift 95 = .ok (.ireturn, 1) := by decide +kernel
theorem dX7_now_0 : decode cX7_now 0 = .ok (.iload_n 1, 1) := by decide +kernel
theorem dX7_now_1 : decode cX7_now 1 = .ok (.tableswitch 99 0 6 #[43, 51, 59, 67, 75, 83, 91], 43) := by decide +kernel
theorem dX7_now_44 : decode cX7_now 44 = .ok (.aload_n 0, 1) := by decide +kernel
theorem dX7_now_45 : decode cX7_now 45 = .ok (.getfield 12, 3) := by decide +kernel
theorem dX7_now_48 : decode cX7_now 48 = .ok (.getfield 168, 3) := by decide +kernel
theorem dX7_now_51 : decode cX7_now 51 = .ok (.ireturn, 1) := by decide +kernel
theorem dX7_now_52 : decode cX7_now 52 = .ok (.aload_n 0, 1) := by decide +kernel
theorem dX7_now_53 : decode cX7_now 53 = .ok (.getfield 12, 3) := by decide +kernel
theorem dX7_now_56 : decode cX7_now 56 = .ok (.getfield 171, 3) := by decide +kernel
theorem dX7_now_59 : decode cX7_now 59 = .ok (.ireturn, 1) := by decide +kernel
theorem dX7_now_60 : decode cX7_now 60 = .ok (.aload_n 0, 1) := by decide +kernel
theorem dX7_now_61 : decode cX7_now 61 = .ok (.getfield 12, 3) := by decide +kernel
theorem dX7_now_64 : decode cX7_now 64 = .ok (.getfield 174, 3) := by decide +kernel
theorem dX7_now_67 : decode cX7_now 67 = .ok (.ireturn, 1) := by decide +kernel
theorem dX7_now_68 : decode cX7_now 68 = .ok (.aload_n 0, 1) := by decide +kernel
theorem dX7_now_69 : decode cX7_now 69 = .ok (.getfield 12, 3) := by decide +kernel
theorem dX7_now_72 : decode cX7_now 72 = .ok (.getfield 177, 3) := by decide +kernel
theorem dX7_now_75 : decode cX7_now 75 = .ok (.ireturn, 1) := by decide +kernel
theorem dX7_now_76 : decode cX7_now 76 = .ok (.aload_n 0, 1) := by decide +kernel
theorem dX7_now_77 : decode cX7_now 77 = .ok (.getfield 12, 3) := by decide +kernel
theorem dX7_now_80 : decode cX7_now 80 = .ok (.getfield 180, 3) := by decide +kernel
theorem dX7_now_83 : decode cX7_now 83 = .ok (.ireturn, 1) := by decide +kernel
theorem dX7_now_84 : decode cX7_now 84 = .ok (.aload_n 0, 1) := by decide +kernel
theorem dX7_now_85 : decode cX7_now 85 = .ok (.getfield 12, 3) := by decide +kernel
theorem dX7_now_88 : decode cX7_now 88 = .ok (.getfield 183, 3) := by decide +kernel
theorem dX7_now_91 : decode cX7_now 91 = .ok (.ireturn, 1) := by decide +kernel
theorem dX7_now_92 : decode cX7_now 92 = .ok (.aload_n 0, 1) := by decide +kernel
theorem dX7_now_93 : decode cX7_now 93 = .ok (.getfield 12, 3) := by decide +kernel
theorem dX7_now_96 : decode cX7_now 96 = .ok (.getfield 186, 3) := by decide +kernel
theorem dX7_now_99 : decode cX7_now 99 = .ok (.ireturn, 1) := by decide +kernel
theorem dX7_now_100 : decode cX7_now 100 = .ok (.aload_n 0, 1) := by decide +kernel
theorem dX7_now_101 : decode cX7_now 101 = .ok (.ldc 64, 2) := by decide +kernel
theorem dX7_now_103 : decode cX7_now 103 = .ok (.invokevirtual 65, 3) := by decide +kernel
theorem dX7_now_106 : decode cX7_now 106 = .ok (.ireturn, 1) := by decide +kernel
theorem dX7_book_0 : decode cX7_book 0 = .ok (.iload_n 1, 1) := by decide +kernel
theorem dX7_book_1 : decode cX7_book 1 = .ok (.ifCond .lt 12, 3) := by decide +kernel
theorem dX7_book_4 : decode cX7_book 4 = .ok (.iload_n 2, 1) := by decide +kernel
theorem dX7_book_5 : decode cX7_book 5 = .ok (.iconst 0, 1) := by decide +kernel
theorem dX7_book_6 : decode cX7_book 6 = .ok (.iconst 4, 1) := by decide +kernel
theorem dX7_book_7 : decode cX7_book 7 = .ok (.invokestatic 60, 3) := by decide +kernel
theorem dX7_book_10 : decode cX7_book 10 = .ok (.ifCond .ne 10, 3) := by decide +kernel
theorem dX7_book_13 : decode cX7_book 13 = .ok (.aload_n 0, 1) := by decide +kernel
theorem dX7_book_14 : decode cX7_book 14 = .ok (.ldc 64, 2) := by decide +kernel
theorem dX7_book_16 : decode cX7_book 16 = .ok (.invokevirtual 65, 3) := by decide +kernel
theorem dX7_book_19 : decode cX7_book 19 = .ok (.ireturn, 1) := by decide +kernel
theorem dX7_book_20 : decode cX7_book 20 = .ok (.iload_n 1, 1) := by decide +kernel
theorem dX7_book_21 : decode cX7_book 21 = .ok (.aload_n 0, 1) := by decide +kernel
theorem dX7_book_22 : decode cX7_book 22 = .ok (.getfield 12, 3) := by decide +kernel
theorem dX7_book_25 : decode cX7_book 25 = .ok (.getfield 186, 3) := by decide +kernel
theorem dX7_book_28 : decode cX7_book 28 = .ok (.if_icmp .lt 10, 3) := by decide +kernel
theorem dX7_book_31 : decode cX7_book 31 = .ok (.aload_n 0, 1) := by decide +kernel
theorem dX7_book_32 : decode cX7_book 32 = .ok (.ldc 189, 2) := by decide +kernel
theorem dX7_book_34 : decode cX7_book 34 = .ok (.invokevirtual 65, 3) := by decide +kernel
theorem dX7_book_37 : decode cX7_book 37 = .ok (.ireturn, 1) := by decide +kernel
theorem dX7_book_38 : decode cX7_book 38 = .ok (.aload_n 0, 1) := by decide +kernel
theorem dX7_book_39 : decode cX7_book 39 = .ok (.getfield 12, 3) := by decide +kernel
theorem dX7_book_42 : decode cX7_book 42 = .ok (.getfield 190, 3) := by decide +kernel
theorem dX7_book_45 : decode cX7_book 45 = .ok (.iload_n 1, 1) := by decide +kernel
theorem dX7_book_46 : decode cX7_book 46 = .ok (.iconst 5, 1) := by decide +kernel
theorem dX7_book_47 : decode cX7_book 47 = .ok (.imul, 1) := by decide +kernel
theorem dX7_book_48 : decode cX7_book 48 = .ok (.iload_n 2, 1) := by decide +kernel
theorem dX7_book_49 : decode cX7_book 49 = .ok (.iadd, 1) := by decide +kernel
theorem dX7_book_50 : decode cX7_book 50 = .ok (.iaload, 1) := by decide +kernel
theorem dX7_book_51 : decode cX7_book 51 = .ok (.ireturn, 1) := by decide +kernel
theorem dX7_ways_0 : decode cX7_ways 0 = .ok (.aload_n 0, 1) := by decide +kernel
theorem dX7_ways_1 : decode cX7_ways 1 = .ok (.iload_n 1, 1) := by decide +kernel
theorem dX7_ways_2 : decode cX7_ways 2 = .ok (.invokevirtual 118, 3) := by decide +kernel
theorem dX7_ways_5 : decode cX7_ways 5 = .ok (.ifCond .ne 11, 3) := by decide +kernel
theorem dX7_ways_8 : decode cX7_ways 8 = .ok (.aload_n 0, 1) := by decide +kernel
theorem dX7_ways_9 : decode cX7_ways 9 = .ok (.ldc 64, 2) := by decide +kernel
theorem dX7_ways_11 : decode cX7_ways 11 = .ok (.invokevirtual 65, 3) := by decide +kernel
theorem dX7_ways_14 : decode cX7_ways 14 = .ok (.i2l, 1) := by decide +kernel
theorem dX7_ways_15 : decode cX7_ways 15 = .ok (.lreturn, 1) := by decide +kernel
theorem dX7_ways_16 : decode cX7_ways 16 = .ok (.aload_n 0, 1) := by decide +kernel
theorem dX7_ways_17 : decode cX7_ways 17 = .ok (.getfield 25, 3) := by decide +kernel
theorem dX7_ways_20 : decode cX7_ways 20 = .ok (.aload_n 0, 1) := by decide +kernel
theorem dX7_ways_21 : decode cX7_ways 21 = .ok (.getfield 12, 3) := by decide +kernel
theorem dX7_ways_24 : decode cX7_ways 24 = .ok (.aload_n 0, 1) := by decide +kernel
theorem dX7_ways_25 : decode cX7_ways 25 = .ok (.getfield 12, 3) := by decide +kernel
theorem dX7_ways_28 : decode cX7_ways 28 = .ok (.getfield 138, 3) := by decide +kernel
theorem dX7_ways_31 : decode cX7_ways 31 = .ok (.iload_n 1, 1) := by decide +kernel
theorem dX7_ways_32 : decode cX7_ways 32 = .ok (.iaload, 1) := by decide +kernel
theorem dX7_ways_33 : decode cX7_ways 33 = .ok (.invokevirtual 193, 3) := by decide +kernel
theorem dX7_ways_36 : decode cX7_ways 36 = .ok (.lreturn, 1) := by decide +kernel
theorem dX7_far_0 : decode cX7_far 0 = .ok (.aload_n 0, 1) := by decide +kernel
theorem dX7_far_1 : decode cX7_far 1 = .ok (.iload_n 1, 1) := by decide +kernel
theorem dX7_far_2 : decode cX7_far 2 = .ok (.invokevirtual 118, 3) := by decide +kernel
theorem dX7_far_5 : decode cX7_far 5 = .ok (.ifCond .eq 10, 3) := by decide +kernel
theorem dX7_far_8 : decode cX7_far 8 = .ok (.iload_n 2, 1) := by decide +kernel
theorem dX7_far_9 : decode cX7_far 9 = .ok (.invokestatic 109, 3) := by decide +kernel
theorem dX7_far_12 : decode cX7_far 12 = .ok (.ifCond .ne 10, 3) := by decide +kernel
theorem dX7_far_15 : decode cX7_far 15 = .ok (.aload_n 0, 1) := by decide +kernel
theorem dX7_far_16 : decode cX7_far 16 = .ok (.ldc 64, 2) := by decide +kernel
theorem dX7_far_18 : decode cX7_far 18 = .ok (.invokevirtual 65, 3) := by decide +kernel
theorem dX7_far_21 : decode cX7_far 21 = .ok (.ireturn, 1) := by decide +kernel
theorem dX7_far_22 : decode cX7_far 22 = .ok (.aload_n 0, 1) := by decide +kernel
theorem dX7_far_23 : decode cX7_far 23 = .ok (.aload_n 0, 1) := by decide +kernel
theorem dX7_far_24 : decode cX7_far 24 = .ok (.getfield 25, 3) := by decide +kernel
theorem dX7_far_27 : decode cX7_far 27 = .ok (.aload_n 0, 1) := by decide +kernel
theorem dX7_far_28 : decode cX7_far 28 = .ok (.getfield 12, 3) := by decide +kernel
theorem dX7_far_31 : decode cX7_far 31 = .ok (.aload_n 0, 1) := by decide +kernel
theorem dX7_far_32 : decode cX7_far 32 = .ok (.getfield 12, 3) := by decide +kernel
theorem dX7_far_35 : decode cX7_far 35 = .ok (.getfield 138, 3) := by decide +kernel
theorem dX7_far_38 : decode cX7_far 38 = .ok (.iload_n 1, 1) := by decide +kernel
theorem dX7_far_39 : decode cX7_far 39 = .ok (.iaload, 1) := by decide +kernel
theorem dX7_far_40 : decode cX7_far 40 = .ok (.iload_n 2, 1) := by decide +kernel
theorem dX7_far_41 : decode cX7_far 41 = .ok (.invokevirtual 197, 3) := by decide +kernel
theorem dX7_far_44 : decode cX7_far 44 = .ok (.invokevirtual 201, 3) := by decide +kernel
theorem dX7_far_47 : decode cX7_far 47 = .ok (.ireturn, 1) := by decide +kernel
theorem dX7_task_0 : decode cX7_task 0 = .ok (.aload_n 0, 1) := by decide +kernel
theorem dX7_task_1 : decode cX7_task 1 = .ok (.iload_n 1, 1) := by decide +kernel
theorem dX7_task_2 : decode cX7_task 2 = .ok (.iload_n 2, 1) := by decide +kernel
theorem dX7_task_3 : decode cX7_task 3 = .ok (.iload_n 3, 1) := by decide +kernel
theorem dX7_task_4 : decode cX7_task 4 = .ok (.invokevirtual 204, 3) := by decide +kernel
theorem dX7_task_7 : decode cX7_task 7 = .ok (.ifCond .ne 10, 3) := by decide +kernel
theorem dX7_task_10 : decode cX7_task 10 = .ok (.aload_n 0, 1) := by decide +kernel
theorem dX7_task_11 : decode cX7_task 11 = .ok (.ldc 64, 2) := by decide +kernel
theorem dX7_task_13 : decode cX7_task 13 = .ok (.invokevirtual 65, 3) := by decide +kernel
theorem dX7_task_16 : decode cX7_task 16 = .ok (.ireturn, 1) := by decide +kernel
theorem dX7_task_17 : decode cX7_task 17 = .ok (.aload_n 0, 1) := by decide +kernel
theorem dX7_task_18 : decode cX7_task 18 = .ok (.aload_n 0, 1) := by decide +kernel
theorem dX7_task_19 : decode cX7_task 19 = .ok (.getfield 25, 3) := by decide +kernel
theorem dX7_task_22 : decode cX7_task 22 = .ok (.aload_n 0, 1) := by decide +kernel
theorem dX7_task_23 : decode cX7_task 23 = .ok (.getfield 12, 3) := by decide +kernel
theorem dX7_task_26 : decode cX7_task 26 = .ok (.iload_n 1, 1) := by decide +kernel
theorem dX7_task_27 : decode cX7_task 27 = .ok (.iload_n 2, 1) := by decide +kernel
theorem dX7_task_28 : decode cX7_task 28 = .ok (.iload_n 3, 1) := by decide +kernel
theorem dX7_task_29 : decode cX7_task 29 = .ok (.invokevirtual 207, 3) := by decide +kernel
theorem dX7_task_32 : decode cX7_task 32 = .ok (.invokevirtual 201, 3) := by decide +kernel
theorem dX7_task_35 : decode cX7_task 35 = .ok (.ireturn, 1) := by decide +kernel
theorem dX7_who_0 : decode cX7_who 0 = .ok (.aload_n 0, 1) := by decide +kernel
theorem dX7_who_1 : decode cX7_who 1 = .ok (.iload_n 1, 1) := by decide +kernel
theorem dX7_who_2 : decode cX7_who 2 = .ok (.invokevirtual 93, 3) := by decide +kernel
theorem dX7_who_5 : decode cX7_who 5 = .ok (.ifCond .eq 10, 3) := by decide +kernel
theorem dX7_who_8 : decode cX7_who 8 = .ok (.iload_n 2, 1) := by decide +kernel
theorem dX7_who_9 : decode cX7_who 9 = .ok (.invokestatic 56, 3) := by decide +kernel
theorem dX7_who_12 : decode cX7_who 12 = .ok (.ifCond .ne 10, 3) := by decide +kernel
theorem dX7_who_15 : decode cX7_who 15 = .ok (.aload_n 0, 1) := by decide +kernel
theorem dX7_who_16 : decode cX7_who 16 = .ok (.ldc 64, 2) := by decide +kernel
theorem dX7_who_18 : decode cX7_who 18 = .ok (.invokevirtual 65, 3) := by decide +kernel
theorem dX7_who_21 : decode cX7_who 21 = .ok (.ireturn, 1) := by decide +kernel
theorem dX7_who_22 : decode cX7_who 22 = .ok (.iconst (-1), 1) := by decide +kernel
theorem dX7_who_23 : decode cX7_who 23 = .ok (.istore_n 3, 1) := by decide +kernel
theorem dX7_who_24 : decode cX7_who 24 = .ok (.iconst (-1), 1) := by decide +kernel
theorem dX7_who_25 : decode cX7_who 25 = .ok (.istore 4, 2) := by decide +kernel
theorem dX7_who_27 : decode cX7_who 27 = .ok (.iconst 0, 1) := by decide +kernel
theorem dX7_who_28 : decode cX7_who 28 = .ok (.istore 5, 2) := by decide +kernel
theorem dX7_who_30 : decode cX7_who 30 = .ok (.iload 5, 2) := by decide +kernel
theorem dX7_who_32 : decode cX7_who 32 = .ok (.aload_n 0, 1) := by decide +kernel
theorem dX7_who_33 : decode cX7_who 33 = .ok (.getfield 12, 3) := by decide +kernel
theorem dX7_who_36 : decode cX7_who 36 = .ok (.getfield 112, 3) := by decide +kernel
theorem dX7_who_39 : decode cX7_who 39 = .ok (.if_icmp .ge 43, 3) := by decide +kernel
theorem dX7_who_42 : decode cX7_who 42 = .ok (.aload_n 0, 1) := by decide +kernel
theorem dX7_who_43 : decode cX7_who 43 = .ok (.getfield 25, 3) := by decide +kernel
theorem dX7_who_46 : decode cX7_who 46 = .ok (.aload_n 0, 1) := by decide +kernel
theorem dX7_who_47 : decode cX7_who 47 = .ok (.getfield 12, 3) := by decide +kernel
theorem dX7_who_50 : decode cX7_who 50 = .ok (.iload 5, 2) := by decide +kernel
theorem dX7_who_52 : decode cX7_who 52 = .ok (.iload_n 1, 1) := by decide +kernel
theorem dX7_who_53 : decode cX7_who 53 = .ok (.iload_n 2, 1) := by decide +kernel
theorem dX7_who_54 : decode cX7_who 54 = .ok (.invokevirtual 207, 3) := by decide +kernel
theorem dX7_who_57 : decode cX7_who 57 = .ok (.istore 6, 2) := by decide +kernel
theorem dX7_who_59 : decode cX7_who 59 = .ok (.iload 6, 2) := by decide +kernel
theorem dX7_who_61 : decode cX7_who 61 = .ok (.iload 4, 2) := by decide +kernel
theorem dX7_who_63 : decode cX7_who 63 = .ok (.invokestatic 211, 3) := by decide +kernel
theorem dX7_who_66 : decode cX7_who 66 = .ok (.ifCond .eq 10, 3) := by decide +kernel
theorem dX7_who_69 : decode cX7_who 69 = .ok (.iload 6, 2) := by decide +kernel
theorem dX7_who_71 : decode cX7_who 71 = .ok (.istore 4, 2) := by decide +kernel
theorem dX7_who_73 : decode cX7_who 73 = .ok (.iload 5, 2) := by decide +kernel
theorem dX7_who_75 : decode cX7_who 75 = .ok (.istore_n 3, 1) := by decide +kernel
theorem dX7_who_76 : decode cX7_who 76 = .ok (.iinc 5 1, 3) := by decide +kernel
theorem dX7_who_79 : decode cX7_who 79 = .ok (.goto (-49), 3) := by decide +kernel
theorem dX7_who_82 : decode cX7_who 82 = .ok (.aload_n 0, 1) := by decide +kernel
theorem dX7_who_83 : decode cX7_who 83 = .ok (.iload_n 3, 1) := by decide +kernel
theorem dX7_who_84 : decode cX7_who 84 = .ok (.invokevirtual 201, 3) := by decide +kernel
theorem dX7_who_87 : decode cX7_who 87 = .ok (.ireturn, 1) := by decide +kernel
theorem dX7_can_0 : decode cX7_can 0 = .ok (.aload_n 0, 1) := by decide +kernel
theorem dX7_can_1 : decode cX7_can 1 = .ok (.iload_n 1, 1) := by decide +kernel
theorem dX7_can_2 : decode cX7_can 2 = .ok (.invokevirtual 118, 3) := by decide +kernel
theorem dX7_can_5 : decode cX7_can 5 = .ok (.ifCond .eq 11, 3) := by decide +kernel
theorem dX7_can_8 : decode cX7_can 8 = .ok (.aload_n 0, 1) := by decide +kernel
theorem dX7_can_9 : decode cX7_can 9 = .ok (.iload_n 2, 1) := by decide +kernel
theorem dX7_can_10 : decode cX7_can 10 = .ok (.invokevirtual 93, 3) := by decide +kernel
theorem dX7_can_13 : decode cX7_can 13 = .ok (.ifCond .ne 10, 3) := by decide +kernel
theorem dX7_can_16 : decode cX7_can 16 = .ok (.aload_n 0, 1) := by decide +kernel
theorem dX7_can_17 : decode cX7_can 17 = .ok (.ldc 64, 2) := by decide +kernel
theorem dX7_can_19 : decode cX7_can 19 = .ok (.invokevirtual 65, 3) := by decide +kernel
theorem dX7_can_22 : decode cX7_can 22 = .ok (.ireturn, 1) := by decide +kernel
theorem dX7_can_23 : decode cX7_can 23 = .ok (.aload_n 0, 1) := by decide +kernel
theorem dX7_can_24 : decode cX7_can 24 = .ok (.getfield 25, 3) := by decide +kernel
theorem dX7_can_27 : decode cX7_can 27 = .ok (.aload_n 0, 1) := by decide +kernel
theorem dX7_can_28 : decode cX7_can 28 = .ok (.getfield 12, 3) := by decide +kernel
theorem dX7_can_31 : decode cX7_can 31 = .ok (.iload_n 1, 1) := by decide +kernel
theorem dX7_can_32 : decode cX7_can 32 = .ok (.iload_n 2, 1) := by decide +kernel
theorem dX7_can_33 : decode cX7_can 33 = .ok (.iconst 1, 1) := by decide +kernel
theorem dX7_can_34 : decode cX7_can 34 = .ok (.invokevirtual 214, 3) := by decide +kernel
theorem dX7_can_37 : decode cX7_can 37 = .ok (.ireturn, 1) := by decide +kernel
theorem dX7_above_0 : decode cX7_above 0 = .ok (.aload_n 0, 1) := by decide +kernel
theorem dX7_above_1 : decode cX7_above 1 = .ok (.iload_n 1, 1) := by decide +kernel
theorem dX7_above_2 : decode cX7_above 2 = .ok (.invokevirtual 118, 3) := by decide +kernel
theorem dX7_above_5 : decode cX7_above 5 = .ok (.ifCond .eq 11, 3) := by decide +kernel
theorem dX7_above_8 : decode cX7_above 8 = .ok (.aload_n 0, 1) := by decide +kernel
theorem dX7_above_9 : decode cX7_above 9 = .ok (.iload_n 2, 1) := by decide +kernel
theorem dX7_above_10 : decode cX7_above 10 = .ok (.invokevirtual 93, 3) := by decide +kernel
theorem dX7_above_13 : decode cX7_above 13 = .ok (.ifCond .ne 10, 3) := by decide +kernel
theorem dX7_above_16 : decode cX7_above 16 = .ok (.aload_n 0, 1) := by decide +kernel
theorem dX7_above_17 : decode cX7_above 17 = .ok (.ldc 64, 2) := by decide +kernel
theorem dX7_above_19 : decode cX7_above 19 = .ok (.invokevirtual 65, 3) := by decide +kernel
theorem dX7_above_22 : decode cX7_above 22 = .ok (.ireturn, 1) := by decide +kernel
theorem dX7_above_23 : decode cX7_above 23 = .ok (.aload_n 0, 1) := by decide +kernel
theorem dX7_above_24 : decode cX7_above 24 = .ok (.getfield 25, 3) := by decide +kernel
theorem dX7_above_27 : decode cX7_above 27 = .ok (.aload_n 0, 1) := by decide +kernel
theorem dX7_above_28 : decode cX7_above 28 = .ok (.getfield 12, 3) := by decide +kernel
theorem dX7_above_31 : decode cX7_above 31 = .ok (.iload_n 1, 1) := by decide +kernel
theorem dX7_above_32 : decode cX7_above 32 = .ok (.iload_n 2, 1) := by decide +kernel
theorem dX7_above_33 : decode cX7_above 33 = .ok (.iconst 1, 1) := by decide +kernel
theorem dX7_above_34 : decode cX7_above 34 = .ok (.invokevirtual 214, 3) := by decide +kernel
theorem dX7_above_37 : decode cX7_above 37 = .ok (.istore_n 3, 1) := by decide +kernel
theorem dX7_above_38 : decode cX7_above 38 = .ok (.iload_n 3, 1) := by decide +kernel
theorem dX7_above_39 : decode cX7_above 39 = .ok (.aload_n 0, 1) := by decide +kernel
theorem dX7_above_40 : decode cX7_above 40 = .ok (.getfield 25, 3) := by decide +kernel
theorem dX7_above_43 : decode cX7_above 43 = .ok (.aload_n 0, 1) := by decide +kernel
theorem dX7_above_44 : decode cX7_above 44 = .ok (.getfield 12, 3) := by decide +kernel
theorem dX7_above_47 : decode cX7_above 47 = .ok (.iload_n 1, 1) := by decide +kernel
theorem dX7_above_48 : decode cX7_above 48 = .ok (.iload_n 2, 1) := by decide +kernel
theorem dX7_above_49 : decode cX7_above 49 = .ok (.iconst 0, 1) := by decide +kernel
theorem dX7_above_50 : decode cX7_above 50 = .ok (.invokevirtual 214, 3) := by decide +kernel
theorem dX7_above_53 : decode cX7_above 53 = .ok (.iconst (-1), 1) := by decide +kernel
theorem dX7_above_54 : decode cX7_above 54 = .ok (.ixor, 1) := by decide +kernel
theorem dX7_above_55 : decode cX7_above 55 = .ok (.iand, 1) := by decide +kernel
theorem dX7_above_56 : decode cX7_above 56 = .ok (.ireturn, 1) := by decide +kernel
theorem dX7_strong_0 : decode cX7_strong 0 = .ok (.aload_n 0, 1) := by decide +kernel
theorem dX7_strong_1 : decode cX7_strong 1 = .ok (.iload_n 1, 1) := by decide +kernel
theorem dX7_strong_2 : decode cX7_strong 2 = .ok (.iload_n 2, 1) := by decide +kernel
theorem dX7_strong_3 : decode cX7_strong 3 = .ok (.iload_n 3, 1) := by decide +kernel
theorem dX7_strong_4 : decode cX7_strong 4 = .ok (.invokevirtual 204, 3) := by decide +kernel
theorem dX7_strong_7 : decode cX7_strong 7 = .ok (.ifCond .ne 10, 3) := by decide +kernel
theorem dX7_strong_10 : decode cX7_strong 10 = .ok (.aload_n 0, 1) := by decide +kernel
theorem dX7_strong_11 : decode cX7_strong 11 = .ok (.ldc 64, 2) := by decide +kernel
theorem dX7_strong_13 : decode cX7_strong 13 = .ok (.invokevirtual 65, 3) := by decide +kernel
theorem dX7_strong_16 : decode cX7_strong 16 = .ok (.ireturn, 1) := by decide +kernel
theorem dX7_strong_17 : decode cX7_strong 17 = .ok (.aload_n 0, 1) := by decide +kernel
theorem dX7_strong_18 : decode cX7_strong 18 = .ok (.getfield 19, 3) := by decide +kernel
theorem dX7_strong_21 : decode cX7_strong 21 = .ok (.aload_n 0, 1) := by decide +kernel
theorem dX7_strong_22 : decode cX7_strong 22 = .ok (.getfield 12, 3) := by decide +kernel
theorem dX7_strong_25 : decode cX7_strong 25 = .ok (.invokevirtual 218, 3) := by decide +kernel
theorem dX7_strong_28 : decode cX7_strong 28 = .ok (.iconst 0, 1) := by decide +kernel
theorem dX7_strong_29 : decode cX7_strong 29 = .ok (.istore 4, 2) := by decide +kernel
theorem dX7_strong_31 : decode cX7_strong 31 = .ok (.iload 4, 2) := by decide +kernel
theorem dX7_strong_33 : decode cX7_strong 33 = .ok (.bipush 60, 2) := by decide +kernel
theorem dX7_strong_35 : decode cX7_strong 35 = .ok (.if_icmp .gt 59, 3) := by decide +kernel
theorem dX7_strong_38 : decode cX7_strong 38 = .ok (.iload 4, 2) := by decide +kernel
theorem dX7_strong_40 : decode cX7_strong 40 = .ok (.ifCond .eq 16, 3) := by decide +kernel
theorem dX7_strong_43 : decode cX7_strong 43 = .ok (.aload_n 0, 1) := by decide +kernel
theorem dX7_strong_44 : decode cX7_strong 44 = .ok (.getfield 19, 3) := by decide +kernel
theorem dX7_strong_47 : decode cX7_strong 47 = .ok (.iload_n 2, 1) := by decide +kernel
theorem dX7_strong_48 : decode cX7_strong 48 = .ok (.iload 4, 2) := by decide +kernel
theorem dX7_strong_50 : decode cX7_strong 50 = .ok (.invokevirtual 222, 3) := by decide +kernel
theorem dX7_strong_53 : decode cX7_strong 53 = .ok (.ifCond .eq 35, 3) := by decide +kernel
theorem dX7_strong_56 : decode cX7_strong 56 = .ok (.aload_n 0, 1) := by decide +kernel
theorem dX7_strong_57 : decode cX7_strong 57 = .ok (.getfield 19, 3) := by decide +kernel
theorem dX7_strong_60 : decode cX7_strong 60 = .ok (.getfield 225, 3) := by decide +kernel
theorem dX7_strong_63 : decode cX7_strong 63 = .ok (.iload_n 1, 1) := by decide +kernel
theorem dX7_strong_64 : decode cX7_strong 64 = .ok (.iload 4, 2) := by decide +kernel
theorem dX7_strong_66 : decode cX7_strong 66 = .ok (.iastore, 1) := by decide +kernel
theorem dX7_strong_67 : decode cX7_strong 67 = .ok (.aload_n 0, 1) := by decide +kernel
theorem dX7_strong_68 : decode cX7_strong 68 = .ok (.getfield 25, 3) := by decide +kernel
theorem dX7_strong_71 : decode cX7_strong 71 = .ok (.aload_n 0, 1) := by decide +kernel
theorem dX7_strong_72 : decode cX7_strong 72 = .ok (.getfield 19, 3) := by decide +kernel
theorem dX7_strong_75 : decode cX7_strong 75 = .ok (.iload_n 1, 1) := by decide +kernel
theorem dX7_strong_76 : decode cX7_strong 76 = .ok (.iload_n 2, 1) := by decide +kernel
theorem dX7_strong_77 : decode cX7_strong 77 = .ok (.iload_n 3, 1) := by decide +kernel
theorem dX7_strong_78 : decode cX7_strong 78 = .ok (.invokevirtual 207, 3) := by decide +kernel
theorem dX7_strong_81 : decode cX7_strong 81 = .ok (.iconst (-1), 1) := by decide +kernel
theorem dX7_strong_82 : decode cX7_strong 82 = .ok (.if_icmp .eq 6, 3) := by decide +kernel
theorem dX7_strong_85 : decode cX7_strong 85 = .ok (.iload 4, 2) := by decide +kernel
theorem dX7_strong_87 : decode cX7_strong 87 = .ok (.ireturn, 1) := by decide +kernel
theorem dX7_strong_88 : decode cX7_strong 88 = .ok (.iinc 4 1, 3) := by decide +kernel
theorem dX7_strong_91 : decode cX7_strong 91 = .ok (.goto (-60), 3) := by decide +kernel
theorem dX7_strong_94 : decode cX7_strong 94 = .ok (.aload_n 0, 1) := by decide +kernel
theorem dX7_strong_95 : decode cX7_strong 95 = .ok (.ldc 189, 2) := by decide +kernel
theorem dX7_strong_97 : decode cX7_strong 97 = .ok (.invokevirtual 65, 3) := by decide +kernel
theorem dX7_strong_100 : decode cX7_strong 100 = .ok (.ireturn, 1) := by decide +kernel
theorem dX7_kindFor_0 : decode cX7_kindFor 0 = .ok (.aload_n 0, 1) := by decide +kernel
theorem dX7_kindFor_1 : decode cX7_kindFor 1 = .ok (.iload_n 1, 1) := by decide +kernel
theorem dX7_kindFor_2 : decode cX7_kindFor 2 = .ok (.iload_n 2, 1) := by decide +kernel
theorem dX7_kindFor_3 : decode cX7_kindFor 3 = .ok (.iload_n 3, 1) := by decide +kernel
theorem dX7_kindFor_4 : decode cX7_kindFor 4 = .ok (.invokevirtual 204, 3) := by decide +kernel
theorem dX7_kindFor_7 : decode cX7_kindFor 7 = .ok (.ifCond .ne 10, 3) := by decide +kernel
theorem dX7_kindFor_10 : decode cX7_kindFor 10 = .ok (.aload_n 0, 1) := by decide +kernel
theorem dX7_kindFor_11 : decode cX7_kindFor 11 = .ok (.ldc 64, 2) := by decide +kernel
theorem dX7_kindFor_13 : decode cX7_kindFor 13 = .ok (.invokevirtual 65, 3) := by decide +kernel
theorem dX7_kindFor_16 : decode cX7_kindFor 16 = .ok (.ireturn, 1) := by decide +kernel
theorem dX7_kindFor_17 : decode cX7_kindFor 17 = .ok (.aload_n 0, 1) := by decide +kernel
theorem dX7_kindFor_18 : decode cX7_kindFor 18 = .ok (.getfield 19, 3) := by decide +kernel
theorem dX7_kindFor_21 : decode cX7_kindFor 21 = .ok (.aload_n 0, 1) := by decide +kernel
theorem dX7_kindFor_22 : decode cX7_kindFor 22 = .ok (.getfield 12, 3) := by decide +kernel
theorem dX7_kindFor_25 : decode cX7_kindFor 25 = .ok (.invokevirtual 218, 3) := by decide +kernel
theorem dX7_kindFor_28 : decode cX7_kindFor 28 = .ok (.iconst (-1), 1) := by decide +kernel
theorem dX7_kindFor_29 : decode cX7_kindFor 29 = .ok (.istore 4, 2) := by decide +kernel
theorem dX7_kindFor_31 : decode cX7_kindFor 31 = .ok (.iconst (-1), 1) := by decide +kernel
theorem dX7_kindFor_32 : decode cX7_kindFor 32 = .ok (.istore 5, 2) := by decide +kernel
theorem dX7_kindFor_34 : decode cX7_kindFor 34 = .ok (.iconst 0, 1) := by decide +kernel
theorem dX7_kindFor_35 : decode cX7_kindFor 35 = .ok (.istore 6, 2) := by decide +kernel
theorem dX7_kindFor_37 : decode cX7_kindFor 37 = .ok (.iload 6, 2) := by decide +kernel
theorem dX7_kindFor_39 : decode cX7_kindFor 39 = .ok (.bipush 7, 2) := by decide +kernel
theorem dX7_kindFor_41 : decode cX7_kindFor 41 = .ok (.if_icmp .ge 54, 3) := by decide +kernel
theorem dX7_kindFor_44 : decode cX7_kindFor 44 = .ok (.aload_n 0, 1) := by decide +kernel
theorem dX7_kindFor_45 : decode cX7_kindFor 45 = .ok (.getfield 19, 3) := by decide +kernel
theorem dX7_kindFor_48 : decode cX7_kindFor 48 = .ok (.getfield 228, 3) := by decide +kernel
theorem dX7_kindFor_51 : decode cX7_kindFor 51 = .ok (.iload_n 2, 1) := by decide +kernel
theorem dX7_kindFor_52 : decode cX7_kindFor 52 = .ok (.iload 6, 2) := by decide +kernel
theorem dX7_kindFor_54 : decode cX7_kindFor 54 = .ok (.iastore, 1) := by decide +kernel
theorem dX7_kindFor_55 : decode cX7_kindFor 55 = .ok (.aload_n 0, 1) := by decide +kernel
theorem dX7_kindFor_56 : decode cX7_kindFor 56 = .ok (.getfield 25, 3) := by decide +kernel
theorem dX7_kindFor_59 : decode cX7_kindFor 59 = .ok (.aload_n 0, 1) := by decide +kernel
theorem dX7_kindFor_60 : decode cX7_kindFor 60 = .ok (.getfield 19, 3) := by decide +kernel
theorem dX7_kindFor_63 : decode cX7_kindFor 63 = .ok (.iload_n 1, 1) := by decide +kernel
theorem dX7_kindFor_64 : decode cX7_kindFor 64 = .ok (.iload_n 2, 1) := by decide +kernel
theorem dX7_kindFor_65 : decode cX7_kindFor 65 = .ok (.iload_n 3, 1) := by decide +kernel
theorem dX7_kindFor_66 : decode cX7_kindFor 66 = .ok (.invokevirtual 207, 3) := by decide +kernel
theorem dX7_kindFor_69 : decode cX7_kindFor 69 = .ok (.istore 7, 2) := by decide +kernel
theorem dX7_kindFor_71 : decode cX7_kindFor 71 = .ok (.iload 7, 2) := by decide +kernel
theorem dX7_kindFor_73 : decode cX7_kindFor 73 = .ok (.iload 5, 2) := by decide +kernel
theorem dX7_kindFor_75 : decode cX7_kindFor 75 = .ok (.invokestatic 211, 3) := by decide +kernel
theorem dX7_kindFor_78 : decode cX7_kindFor 78 = .ok (.ifCond .eq 11, 3) := by decide +kernel
theorem dX7_kindFor_81 : decode cX7_kindFor 81 = .ok (.iload 7, 2) := by decide +kernel
theorem dX7_kindFor_83 : decode cX7_kindFor 83 = .ok (.istore 5, 2) := by decide +kernel
theorem dX7_kindFor_85 : decode cX7_kindFor 85 = .ok (.iload 6, 2) := by decide +kernel
theorem dX7_kindFor_87 : decode cX7_kindFor 87 = .ok (.istore 4, 2) := by decide +kernel
theorem dX7_kindFor_89 : decode cX7_kindFor 89 = .ok (.iinc 6 1, 3) := by decide +kernel
theorem dX7_kindFor_92 : decode cX7_kindFor 92 = .ok (.goto (-55), 3) := by decide +kernel
theorem dX7_kindFor_95 : decode cX7_kindFor 95 = .ok (.aload_n 0, 1) := by decide +kernel
theorem dX7_kindFor_96 : decode cX7_kindFor 96 = .ok (.iload 4, 2) := by decide +kernel
theorem dX7_kindFor_98 : decode cX7_kindFor 98 = .ok (.invokevirtual 201, 3) := by decide +kernel
theorem dX7_kindFor_101 : decode cX7_kindFor 101 = .ok (.ireturn, 1) := by decide +kernel
theorem dX7_place_0 : decode cX7_place 0 = .ok (.aload_n 0, 1) := by decide +kernel
theorem dX7_place_1 : decode cX7_place 1 = .ok (.iload_n 1, 1) := by decide +kernel
theorem dX7_place_2 : decode cX7_place 2 = .ok (.iload_n 2, 1) := by decide +kernel
theorem dX7_place_3 : decode cX7_place 3 = .ok (.iload_n 3, 1) := by decide +kernel
theorem dX7_place_4 : decode cX7_place 4 = .ok (.invokevirtual 204, 3) := by decide +kernel
theorem dX7_place_7 : decode cX7_place 7 = .ok (.ifCond .ne 10, 3) := by decide +kernel
theorem dX7_place_10 : decode cX7_place 10 = .ok (.aload_n 0, 1) := by decide +kernel
theorem dX7_place_11 : decode cX7_place 11 = .ok (.ldc 64, 2) := by decide +kernel
theorem dX7_place_13 : decode cX7_place 13 = .ok (.invokevirtual 65, 3) := by decide +kernel
theorem dX7_place_16 : decode cX7_place 16 = .ok (.ireturn, 1) := by decide +kernel
theorem dX7_place_17 : decode cX7_place 17 = .ok (.aload_n 0, 1) := by decide +kernel
theorem dX7_place_18 : decode cX7_place 18 = .ok (.getfield 19, 3) := by decide +kernel
theorem dX7_place_21 : decode cX7_place 21 = .ok (.aload_n 0, 1) := by decide +kernel
theorem dX7_place_22 : decode cX7_place 22 = .ok (.getfield 12, 3) := by decide +kernel
theorem dX7_place_25 : decode cX7_place 25 = .ok (.invokevirtual 218, 3) := by decide +kernel
theorem dX7_place_28 : decode cX7_place 28 = .ok (.iconst (-1), 1) := by decide +kernel
theorem dX7_place_29 : decode cX7_place 29 = .ok (.istore 4, 2) := by decide +kernel
theorem dX7_place_31 : decode cX7_place 31 = .ok (.iconst (-1), 1) := by decide +kernel
theorem dX7_place_32 : decode cX7_place 32 = .ok (.istore 5, 2) := by decide +kernel
theorem dX7_place_34 : decode cX7_place 34 = .ok (.iconst 0, 1) := by decide +kernel
theorem dX7_place_35 : decode cX7_place 35 = .ok (.istore 6, 2) := by decide +kernel
theorem dX7_place_37 : decode cX7_place 37 = .ok (.iload 6, 2) := by decide +kernel
theorem dX7_place_39 : decode cX7_place 39 = .ok (.bipush 8, 2) := by decide +kernel
theorem dX7_place_41 : decode cX7_place 41 = .ok (.if_icmp .ge 52, 3) := by decide +kernel
theorem dX7_place_44 : decode cX7_place 44 = .ok (.aload_n 0, 1) := by decide +kernel
theorem dX7_place_45 : decode cX7_place 45 = .ok (.getfield 19, 3) := by decide +kernel
theorem dX7_place_48 : decode cX7_place 48 = .ok (.iload 6, 2) := by decide +kernel
theorem dX7_place_50 : decode cX7_place 50 = .ok (.putfield 174, 3) := by decide +kernel
theorem dX7_place_53 : decode cX7_place 53 = .ok (.aload_n 0, 1) := by decide +kernel
theorem dX7_place_54 : decode cX7_place 54 = .ok (.getfield 25, 3) := by decide +kernel
theorem dX7_place_57 : decode cX7_place 57 = .ok (.aload_n 0, 1) := by decide +kernel
theorem dX7_place_58 : decode cX7_place 58 = .ok (.getfield 19, 3) := by decide +kernel
theorem dX7_place_61 : decode cX7_place 61 = .ok (.iload_n 1, 1) := by decide +kernel
theorem dX7_place_62 : decode cX7_place 62 = .ok (.iload_n 2, 1) := by decide +kernel
theorem dX7_place_63 : decode cX7_place 63 = .ok (.iload_n 3, 1) := by decide +kernel
theorem dX7_place_64 : decode cX7_place 64 = .ok (.invokevirtual 207, 3) := by decide +kernel
theorem dX7_place_67 : decode cX7_place 67 = .ok (.istore 7, 2) := by decide +kernel
theorem dX7_place_69 : decode cX7_place 69 = .ok (.iload 7, 2) := by decide +kernel
theorem dX7_place_71 : decode cX7_place 71 = .ok (.iload 5, 2) := by decide +kernel
theorem dX7_place_73 : decode cX7_place 73 = .ok (.invokestatic 211, 3) := by decide +kernel
theorem dX7_place_76 : decode cX7_place 76 = .ok (.ifCond .eq 11, 3) := by decide +kernel
theorem dX7_place_79 : decode cX7_place 79 = .ok (.iload 7, 2) := by decide +kernel
theorem dX7_place_81 : decode cX7_place 81 = .ok (.istore 5, 2) := by decide +kernel
theorem dX7_place_83 : decode cX7_place 83 = .ok (.iload 6, 2) := by decide +kernel
theorem dX7_place_85 : decode cX7_place 85 = .ok (.istore 4, 2) := by decide +kernel
theorem dX7_place_87 : decode cX7_place 87 = .ok (.iinc 6 1, 3) := by decide +kernel
theorem dX7_place_90 : decode cX7_place 90 = .ok (.goto (-53), 3) := by decide +kernel
theorem dX7_place_93 : decode cX7_place 93 = .ok (.aload_n 0, 1) := by decide +kernel
theorem dX7_place_94 : decode cX7_place 94 = .ok (.iload 4, 2) := by decide +kernel
theorem dX7_place_96 : decode cX7_place 96 = .ok (.invokevirtual 201, 3) := by decide +kernel
theorem dX7_place_99 : decode cX7_place 99 = .ok (.ireturn, 1) := by decide +kernel
theorem dX7_safe_0 : decode cX7_safe 0 = .ok (.iconst 0, 1) := by decide +kernel
theorem dX7_safe_1 : decode cX7_safe 1 = .ok (.istore_n 1, 1) := by decide +kernel
theorem dX7_safe_2 : decode cX7_safe 2 = .ok (.iconst 0, 1) := by decide +kernel
theorem dX7_safe_3 : decode cX7_safe 3 = .ok (.istore_n 2, 1) := by decide +kernel
theorem dX7_safe_4 : decode cX7_safe 4 = .ok (.iload_n 2, 1) := by decide +kernel
theorem dX7_safe_5 : decode cX7_safe 5 = .ok (.aload_n 0, 1) := by decide +kernel
theorem dX7_safe_6 : decode cX7_safe 6 = .ok (.getfield 12, 3) := by decide +kernel
theorem dX7_safe_9 : decode cX7_safe 9 = .ok (.getfield 112, 3) := by decide +kernel
theorem dX7_safe_12 : decode cX7_safe 12 = .ok (.if_icmp .ge 40, 3) := by decide +kernel
theorem dX7_safe_15 : decode cX7_safe 15 = .ok (.iconst 0, 1) := by decide +kernel
theorem dX7_safe_16 : decode cX7_safe 16 = .ok (.istore_n 3, 1) := by decide +kernel
theorem dX7_safe_17 : decode cX7_safe 17 = .ok (.iload_n 3, 1) := by decide +kernel
theorem dX7_safe_18 : decode cX7_safe 18 = .ok (.aload_n 0, 1) := by decide +kernel
theorem dX7_safe_19 : decode cX7_safe 19 = .ok (.getfield 12, 3) := by decide +kernel
theorem dX7_safe_22 : decode cX7_safe 22 = .ok (.getfield 84, 3) := by decide +kernel
theorem dX7_safe_25 : decode cX7_safe 25 = .ok (.if_icmp .ge 21, 3) := by decide +kernel
theorem dX7_safe_28 : decode cX7_safe 28 = .ok (.iload_n 1, 1) := by decide +kernel
theorem dX7_safe_29 : decode cX7_safe 29 = .ok (.aload_n 0, 1) := by decide +kernel
theorem dX7_safe_30 : decode cX7_safe 30 = .ok (.getfield 12, 3) := by decide +kernel
theorem dX7_safe_33 : decode cX7_safe 33 = .ok (.iload_n 2, 1) := by decide +kernel
theorem dX7_safe_34 : decode cX7_safe 34 = .ok (.iload_n 3, 1) := by decide +kernel
theorem dX7_safe_35 : decode cX7_safe 35 = .ok (.invokevirtual 231, 3) := by decide +kernel
theorem dX7_safe_38 : decode cX7_safe 38 = .ok (.ior, 1) := by decide +kernel
theorem dX7_safe_39 : decode cX7_safe 39 = .ok (.istore_n 1, 1) := by decide +kernel
theorem dX7_safe_40 : decode cX7_safe 40 = .ok (.iinc 3 1, 3) := by decide +kernel
theorem dX7_safe_43 : decode cX7_safe 43 = .ok (.goto (-26), 3) := by decide +kernel
theorem dX7_safe_46 : decode cX7_safe 46 = .ok (.iinc 2 1, 3) := by decide +kernel
theorem dX7_safe_49 : decode cX7_safe 49 = .ok (.goto (-45), 3) := by decide +kernel
theorem dX7_safe_52 : decode cX7_safe 52 = .ok (.iload_n 1, 1) := by decide +kernel
theorem dX7_safe_53 : decode cX7_safe 53 = .ok (.iconst (-1), 1) := by decide +kernel
theorem dX7_safe_54 : decode cX7_safe 54 = .ok (.ixor, 1) := by decide +kernel
theorem dX7_safe_55 : decode cX7_safe 55 = .ok (.sipush 255, 3) := by decide +kernel
theorem dX7_safe_58 : decode cX7_safe 58 = .ok (.iand, 1) := by decide +kernel
theorem dX7_safe_59 : decode cX7_safe 59 = .ok (.ireturn, 1) := by decide +kernel
theorem dX7_selves_0 : decode cX7_selves 0 = .ok (.iconst 0, 1) := by decide +kernel
theorem dX7_selves_1 : decode cX7_selves 1 = .ok (.istore_n 1, 1) := by decide +kernel
theorem dX7_selves_2 : decode cX7_selves 2 = .ok (.iconst 0, 1) := by decide +kernel
theorem dX7_selves_3 : decode cX7_selves 3 = .ok (.istore_n 2, 1) := by decide +kernel
theorem dX7_selves_4 : decode cX7_selves 4 = .ok (.iload_n 2, 1) := by decide +kernel
theorem dX7_selves_5 : decode cX7_selves 5 = .ok (.aload_n 0, 1) := by decide +kernel
theorem dX7_selves_6 : decode cX7_selves 6 = .ok (.getfield 12, 3) := by decide +kernel
theorem dX7_selves_9 : decode cX7_selves 9 = .ok (.getfield 112, 3) := by decide +kernel
theorem dX7_selves_12 : decode cX7_selves 12 = .ok (.if_icmp .ge 65, 3) := by decide +kernel
theorem dX7_selves_15 : decode cX7_selves 15 = .ok (.iconst 0, 1) := by decide +kernel
theorem dX7_selves_16 : decode cX7_selves 16 = .ok (.istore_n 3, 1) := by decide +kernel
theorem dX7_selves_17 : decode cX7_selves 17 = .ok (.iload_n 3, 1) := by decide +kernel
theorem dX7_selves_18 : decode cX7_selves 18 = .ok (.aload_n 0, 1) := by decide +kernel
theorem dX7_selves_19 : decode cX7_selves 19 = .ok (.getfield 12, 3) := by decide +kernel
theorem dX7_selves_22 : decode cX7_selves 22 = .ok (.getfield 84, 3) := by decide +kernel
theorem dX7_selves_25 : decode cX7_selves 25 = .ok (.if_icmp .ge 46, 3) := by decide +kernel
theorem dX7_selves_28 : decode cX7_selves 28 = .ok (.aload_n 0, 1) := by decide +kernel
theorem dX7_selves_29 : decode cX7_selves 29 = .ok (.getfield 12, 3) := by decide +kernel
theorem dX7_selves_32 : decode cX7_selves 32 = .ok (.iload_n 2, 1) := by decide +kernel
theorem dX7_selves_33 : decode cX7_selves 33 = .ok (.iload_n 3, 1) := by decide +kernel
theorem dX7_selves_34 : decode cX7_selves 34 = .ok (.invokevirtual 156, 3) := by decide +kernel
theorem dX7_selves_37 : decode cX7_selves 37 = .ok (.ifCond .eq 28, 3) := by decide +kernel
theorem dX7_selves_40 : decode cX7_selves 40 = .ok (.aload_n 0, 1) := by decide +kernel
theorem dX7_selves_41 : decode cX7_selves 41 = .ok (.getfield 12, 3) := by decide +kernel
theorem dX7_selves_44 : decode cX7_selves 44 = .ok (.getfield 159, 3) := by decide +kernel
theorem dX7_selves_47 : decode cX7_selves 47 = .ok (.iload_n 3, 1) := by decide +kernel
theorem dX7_selves_48 : decode cX7_selves 48 = .ok (.iaload, 1) := by decide +kernel
theorem dX7_selves_49 : decode cX7_selves 49 = .ok (.aload_n 0, 1) := by decide +kernel
theorem dX7_selves_50 : decode cX7_selves 50 = .ok (.getfield 12, 3) := by decide +kernel
theorem dX7_selves_53 : decode cX7_selves 53 = .ok (.getfield 174, 3) := by decide +kernel
theorem dX7_selves_56 : decode cX7_selves 56 = .ok (.if_icmp .eq 9, 3) := by decide +kernel
theorem dX7_selves_59 : decode cX7_selves 59 = .ok (.iload_n 1, 1) := by decide +kernel
theorem dX7_selves_60 : decode cX7_selves 60 = .ok (.iconst 1, 1) := by decide +kernel
theorem dX7_selves_61 : decode cX7_selves 61 = .ok (.iload_n 2, 1) := by decide +kernel
theorem dX7_selves_62 : decode cX7_selves 62 = .ok (.ishl, 1) := by decide +kernel
theorem dX7_selves_63 : decode cX7_selves 63 = .ok (.ior, 1) := by decide +kernel
theorem dX7_selves_64 : decode cX7_selves 64 = .ok (.istore_n 1, 1) := by decide +kernel
theorem dX7_selves_65 : decode cX7_selves 65 = .ok (.iinc 3 1, 3) := by decide +kernel
theorem dX7_selves_68 : decode cX7_selves 68 = .ok (.goto (-51), 3) := by decide +kernel
theorem dX7_selves_71 : decode cX7_selves 71 = .ok (.iinc 2 1, 3) := by decide +kernel
theorem dX7_selves_74 : decode cX7_selves 74 = .ok (.goto (-70), 3) := by decide +kernel
theorem dX7_selves_77 : decode cX7_selves 77 = .ok (.iload_n 1, 1) := by decide +kernel
theorem dX7_selves_78 : decode cX7_selves 78 = .ok (.ireturn, 1) := by decide +kernel
theorem dX7_agree_0 : decode cX7_agree 0 = .ok (.aload_n 0, 1) := by decide +kernel
theorem dX7_agree_1 : decode cX7_agree 1 = .ok (.iload_n 1, 1) := by decide +kernel
theorem dX7_agree_2 : decode cX7_agree 2 = .ok (.invokevirtual 118, 3) := by decide +kernel
theorem dX7_agree_5 : decode cX7_agree 5 = .ok (.ifCond .eq 33, 3) := by decide +kernel
theorem dX7_agree_8 : decode cX7_agree 8 = .ok (.aload_n 0, 1) := by decide +kernel
theorem dX7_agree_9 : decode cX7_agree 9 = .ok (.iload_n 3, 1) := by decide +kernel
theorem dX7_agree_10 : decode cX7_agree 10 = .ok (.invokevirtual 118, 3) := by decide +kernel
theorem dX7_agree_13 : decode cX7_agree 13 = .ok (.ifCond .eq 25, 3) := by decide +kernel
theorem dX7_agree_16 : decode cX7_agree 16 = .ok (.iload_n 1, 1) := by decide +kernel
theorem dX7_agree_17 : decode cX7_agree 17 = .ok (.iload_n 3, 1) := by decide +kernel
theorem dX7_agree_18 : decode cX7_agree 18 = .ok (.if_icmp .eq 20, 3) := by decide +kernel
theorem dX7_agree_21 : decode cX7_agree 21 = .ok (.aload_n 0, 1) := by decide +kernel
theorem dX7_agree_22 : decode cX7_agree 22 = .ok (.iload_n 2, 1) := by decide +kernel
theorem dX7_agree_23 : decode cX7_agree 23 = .ok (.invokevirtual 234, 3) := by decide +kernel
theorem dX7_agree_26 : decode cX7_agree 26 = .ok (.ifCond .eq 12, 3) := by decide +kernel
theorem dX7_agree_29 : decode cX7_agree 29 = .ok (.aload_n 0, 1) := by decide +kernel
theorem dX7_agree_30 : decode cX7_agree 30 = .ok (.iload 4, 2) := by decide +kernel
theorem dX7_agree_32 : decode cX7_agree 32 = .ok (.invokevirtual 234, 3) := by decide +kernel
theorem dX7_agree_35 : decode cX7_agree 35 = .ok (.ifCond .ne 10, 3) := by decide +kernel
theorem dX7_agree_38 : decode cX7_agree 38 = .ok (.aload_n 0, 1) := by decide +kernel
theorem dX7_agree_39 : decode cX7_agree 39 = .ok (.ldc 64, 2) := by decide +kernel
theorem dX7_agree_41 : decode cX7_agree 41 = .ok (.invokevirtual 65, 3) := by decide +kernel
theorem dX7_agree_44 : decode cX7_agree 44 = .ok (.ireturn, 1) := by decide +kernel
theorem dX7_agree_45 : decode cX7_agree 45 = .ok (.iload_n 2, 1) := by decide +kernel
theorem dX7_agree_46 : decode cX7_agree 46 = .ok (.bipush 10, 2) := by decide +kernel
theorem dX7_agree_48 : decode cX7_agree 48 = .ok (.irem, 1) := by decide +kernel
theorem dX7_agree_49 : decode cX7_agree 49 = .ok (.istore 5, 2) := by decide +kernel
theorem dX7_agree_51 : decode cX7_agree 51 = .ok (.iload 5, 2) := by decide +kernel
theorem dX7_agree_53 : decode cX7_agree 53 = .ok (.iload 4, 2) := by decide +kernel
theorem dX7_agree_55 : decode cX7_agree 55 = .ok (.bipush 10, 2) := by decide +kernel
theorem dX7_agree_57 : decode cX7_agree 57 = .ok (.irem, 1) := by decide +kernel
theorem dX7_agree_58 : decode cX7_agree 58 = .ok (.if_icmp .eq 5, 3) := by decide +kernel
theorem dX7_agree_61 : decode cX7_agree 61 = .ok (.iconst 1, 1) := by decide +kernel
theorem dX7_agree_62 : decode cX7_agree 62 = .ok (.ireturn, 1) := by decide +kernel
theorem dX7_agree_63 : decode cX7_agree 63 = .ok (.aload_n 0, 1) := by decide +kernel
theorem dX7_agree_64 : decode cX7_agree 64 = .ok (.getfield 12, 3) := by decide +kernel
theorem dX7_agree_67 : decode cX7_agree 67 = .ok (.iload_n 1, 1) := by decide +kernel
theorem dX7_agree_68 : decode cX7_agree 68 = .ok (.iload 5, 2) := by decide +kernel
theorem dX7_agree_70 : decode cX7_agree 70 = .ok (.invokevirtual 156, 3) := by decide +kernel
theorem dX7_agree_73 : decode cX7_agree 73 = .ok (.istore 6, 2) := by decide +kernel
theorem dX7_agree_75 : decode cX7_agree 75 = .ok (.aload_n 0, 1) := by decide +kernel
theorem dX7_agree_76 : decode cX7_agree 76 = .ok (.getfield 12, 3) := by decide +kernel
theorem dX7_agree_79 : decode cX7_agree 79 = .ok (.iload_n 3, 1) := by decide +kernel
theorem dX7_agree_80 : decode cX7_agree 80 = .ok (.iload 5, 2) := by decide +kernel
theorem dX7_agree_82 : decode cX7_agree 82 = .ok (.invokevirtual 156, 3) := by decide +kernel
theorem dX7_agree_85 : decode cX7_agree 85 = .ok (.istore 7, 2) := by decide +kernel
theorem dX7_agree_87 : decode cX7_agree 87 = .ok (.iload 6, 2) := by decide +kernel
theorem dX7_agree_89 : decode cX7_agree 89 = .ok (.ifCond .eq 24, 3) := by decide +kernel
theorem dX7_agree_92 : decode cX7_agree 92 = .ok (.iload 7, 2) := by decide +kernel
theorem dX7_agree_94 : decode cX7_agree 94 = .ok (.ifCond .eq 19, 3) := by decide +kernel
theorem dX7_agree_97 : decode cX7_agree 97 = .ok (.iload_n 2, 1) := by decide +kernel
theorem dX7_agree_98 : decode cX7_agree 98 = .ok (.bipush 10, 2) := by decide +kernel
theorem dX7_agree_100 : decode cX7_agree 100 = .ok (.idiv, 1) := by decide +kernel
theorem dX7_agree_101 : decode cX7_agree 101 = .ok (.iload 4, 2) := by decide +kernel
theorem dX7_agree_103 : decode cX7_agree 103 = .ok (.bipush 10, 2) := by decide +kernel
theorem dX7_agree_105 : decode cX7_agree 105 = .ok (.idiv, 1) := by decide +kernel
theorem dX7_agree_106 : decode cX7_agree 106 = .ok (.if_icmp .eq 7, 3) := by decide +kernel
theorem dX7_agree_109 : decode cX7_agree 109 = .ok (.iconst 0, 1) := by decide +kernel
theorem dX7_agree_110 : decode cX7_agree 110 = .ok (.goto 4, 3) := by decide +kernel
theorem dX7_agree_113 : decode cX7_agree 113 = .ok (.iconst 1, 1) := by decide +kernel
theorem dX7_agree_114 : decode cX7_agree 114 = .ok (.ireturn, 1) := by decide +kernel
theorem dX7_opens_0 : decode cX7_opens 0 = .ok (.aload_n 0, 1) := by decide +kernel
theorem dX7_opens_1 : decode cX7_opens 1 = .ok (.iload_n 1, 1) := by decide +kernel
theorem dX7_opens_2 : decode cX7_opens 2 = .ok (.iload_n 2, 1) := by decide +kernel
theorem dX7_opens_3 : decode cX7_opens 3 = .ok (.iload_n 3, 1) := by decide +kernel
theorem dX7_opens_4 : decode cX7_opens 4 = .ok (.invokevirtual 204, 3) := by decide +kernel
theorem dX7_opens_7 : decode cX7_opens 7 = .ok (.ifCond .ne 10, 3) := by decide +kernel
theorem dX7_opens_10 : decode cX7_opens 10 = .ok (.aload_n 0, 1) := by decide +kernel
theorem dX7_opens_11 : decode cX7_opens 11 = .ok (.ldc 64, 2) := by decide +kernel
theorem dX7_opens_13 : decode cX7_opens 13 = .ok (.invokevirtual 65, 3) := by decide +kernel
theorem dX7_opens_16 : decode cX7_opens 16 = .ok (.ireturn, 1) := by decide +kernel
theorem dX7_opens_17 : decode cX7_opens 17 = .ok (.aload_n 0, 1) := by decide +kernel
theorem dX7_opens_18 : decode cX7_opens 18 = .ok (.getfield 19, 3) := by decide +kernel
theorem dX7_opens_21 : decode cX7_opens 21 = .ok (.aload_n 0, 1) := by decide +kernel
theorem dX7_opens_22 : decode cX7_opens 22 = .ok (.getfield 12, 3) := by decide +kernel
theorem dX7_opens_25 : decode cX7_opens 25 = .ok (.invokevirtual 218, 3) := by decide +kernel
theorem dX7_opens_28 : decode cX7_opens 28 = .ok (.iconst (-1), 1) := by decide +kernel
theorem dX7_opens_29 : decode cX7_opens 29 = .ok (.istore 4, 2) := by decide +kernel
theorem dX7_opens_31 : decode cX7_opens 31 = .ok (.iconst (-1), 1) := by decide +kernel
theorem dX7_opens_32 : decode cX7_opens 32 = .ok (.istore 5, 2) := by decide +kernel
theorem dX7_opens_34 : decode cX7_opens 34 = .ok (.iconst 0, 1) := by decide +kernel
theorem dX7_opens_35 : decode cX7_opens 35 = .ok (.istore 6, 2) := by decide +kernel
theorem dX7_opens_37 : decode cX7_opens 37 = .ok (.iload 6, 2) := by decide +kernel
theorem dX7_opens_39 : decode cX7_opens 39 = .ok (.bipush 8, 2) := by decide +kernel
theorem dX7_opens_41 : decode cX7_opens 41 = .ok (.if_icmp .ge 83, 3) := by decide +kernel
theorem dX7_opens_44 : decode cX7_opens 44 = .ok (.iload 6, 2) := by decide +kernel
theorem dX7_opens_46 : decode cX7_opens 46 = .ok (.iconst 1, 1) := by decide +kernel
theorem dX7_opens_47 : decode cX7_opens 47 = .ok (.iadd, 1) := by decide +kernel
theorem dX7_opens_48 : decode cX7_opens 48 = .ok (.istore 7, 2) := by decide +kernel
theorem dX7_opens_50 : decode cX7_opens 50 = .ok (.iload 7, 2) := by decide +kernel
theorem dX7_opens_52 : decode cX7_opens 52 = .ok (.bipush 8, 2) := by decide +kernel
theorem dX7_opens_54 : decode cX7_opens 54 = .ok (.if_icmp .ge 64, 3) := by decide +kernel
theorem dX7_opens_57 : decode cX7_opens 57 = .ok (.aload_n 0, 1) := by decide +kernel
theorem dX7_opens_58 : decode cX7_opens 58 = .ok (.getfield 12, 3) := by decide +kernel
theorem dX7_opens_61 : decode cX7_opens 61 = .ok (.iload 6, 2) := by decide +kernel
theorem dX7_opens_63 : decode cX7_opens 63 = .ok (.iload 7, 2) := by decide +kernel
theorem dX7_opens_65 : decode cX7_opens 65 = .ok (.invokevirtual 69, 3) := by decide +kernel
theorem dX7_opens_68 : decode cX7_opens 68 = .ok (.ifCond .eq 7, 3) := by decide +kernel
theorem dX7_opens_71 : decode cX7_opens 71 = .ok (.iconst (-1), 1) := by decide +kernel
theorem dX7_opens_72 : decode cX7_opens 72 = .ok (.goto 14, 3) := by decide +kernel
theorem dX7_opens_75 : decode cX7_opens 75 = .ok (.aload_n 0, 1) := by decide +kernel
theorem dX7_opens_76 : decode cX7_opens 76 = .ok (.iload 6, 2) := by decide +kernel
theorem dX7_opens_78 : decode cX7_opens 78 = .ok (.iload 7, 2) := by decide +kernel
theorem dX7_opens_80 : decode cX7_opens 80 = .ok (.iload_n 1, 1) := by decide +kernel
theorem dX7_opens_81 : decode cX7_opens 81 = .ok (.iload_n 2, 1) := by decide +kernel
theorem dX7_opens_82 : decode cX7_opens 82 = .ok (.iload_n 3, 1) := by decide +kernel
theorem dX7_opens_83 : decode cX7_opens 83 = .ok (.invokevirtual 237, 3) := by decide +kernel
theorem dX7_opens_86 : decode cX7_opens 86 = .ok (.istore 8, 2) := by decide +kernel
theorem dX7_opens_88 : decode cX7_opens 88 = .ok (.iload 8, 2) := by decide +kernel
theorem dX7_opens_90 : decode cX7_opens 90 = .ok (.iload 5, 2) := by decide +kernel
theorem dX7_opens_92 : decode cX7_opens 92 = .ok (.invokestatic 211, 3) := by decide +kernel
theorem dX7_opens_95 : decode cX7_opens 95 = .ok (.ifCond .eq 17, 3) := by decide +kernel
theorem dX7_opens_98 : decode cX7_opens 98 = .ok (.iload 8, 2) := by decide +kernel
theorem dX7_opens_100 : decode cX7_opens 100 = .ok (.istore 5, 2) := by decide +kernel
theorem dX7_opens_102 : decode cX7_opens 102 = .ok (.bipush 10, 2) := by decide +kernel
theorem dX7_opens_104 : decode cX7_opens 104 = .ok (.iload 6, 2) := by decide +kernel
theorem dX7_opens_106 : decode cX7_opens 106 = .ok (.imul, 1) := by decide +kernel
theorem dX7_opens_107 : decode cX7_opens 107 = .ok (.iload 7, 2) := by decide +kernel
theorem dX7_opens_109 : decode cX7_opens 109 = .ok (.iadd, 1) := by decide +kernel
theorem dX7_opens_110 : decode cX7_opens 110 = .ok (.istore 4, 2) := by decide +kernel
theorem dX7_opens_112 : decode cX7_opens 112 = .ok (.iinc 7 1, 3) := by decide +kernel
theorem dX7_opens_115 : decode cX7_opens 115 = .ok (.goto (-65), 3) := by decide +kernel
theorem dX7_opens_118 : decode cX7_opens 118 = .ok (.iinc 6 1, 3) := by decide +kernel
theorem dX7_opens_121 : decode cX7_opens 121 = .ok (.goto (-84), 3) := by decide +kernel
theorem dX7_opens_124 : decode cX7_opens 124 = .ok (.aload_n 0, 1) := by decide +kernel
theorem dX7_opens_125 : decode cX7_opens 125 = .ok (.iload 4, 2) := by decide +kernel
theorem dX7_opens_127 : decode cX7_opens 127 = .ok (.invokevirtual 201, 3) := by decide +kernel
theorem dX7_opens_130 : decode cX7_opens 130 = .ok (.ireturn, 1) := by decide +kernel
theorem dX7_copies_0 : decode cX7_copies 0 = .ok (.iload_n 1, 1) := by decide +kernel
theorem dX7_copies_1 : decode cX7_copies 1 = .ok (.iconst 1, 1) := by decide +kernel
theorem dX7_copies_2 : decode cX7_copies 2 = .ok (.bipush 9, 2) := by decide +kernel
theorem dX7_copies_4 : decode cX7_copies 4 = .ok (.invokestatic 60, 3) := by decide +kernel
theorem dX7_copies_7 : decode cX7_copies 7 = .ok (.ifCond .eq 13, 3) := by decide +kernel
theorem dX7_copies_10 : decode cX7_copies 10 = .ok (.iload_n 2, 1) := by decide +kernel
theorem dX7_copies_11 : decode cX7_copies 11 = .ok (.iconst 0, 1) := by decide +kernel
theorem dX7_copies_12 : decode cX7_copies 12 = .ok (.bipush 62, 2) := by decide +kernel
theorem dX7_copies_14 : decode cX7_copies 14 = .ok (.invokestatic 60, 3) := by decide +kernel
theorem dX7_copies_17 : decode cX7_copies 17 = .ok (.ifCond .ne 11, 3) := by decide +kernel
theorem dX7_copies_20 : decode cX7_copies 20 = .ok (.aload_n 0, 1) := by decide +kernel
theorem dX7_copies_21 : decode cX7_copies 21 = .ok (.ldc 64, 2) := by decide +kernel
theorem dX7_copies_23 : decode cX7_copies 23 = .ok (.invokevirtual 65, 3) := by decide +kernel
theorem dX7_copies_26 : decode cX7_copies 26 = .ok (.i2l, 1) := by decide +kernel
theorem dX7_copies_27 : decode cX7_copies 27 = .ok (.lreturn, 1) := by decide +kernel
theorem dX7_copies_28 : decode cX7_copies 28 = .ok (.lconst 1, 1) := by decide +kernel
theorem dX7_copies_29 : decode cX7_copies 29 = .ok (.lstore_n 3, 1) := by decide +kernel
theorem dX7_copies_30 : decode cX7_copies 30 = .ok (.iconst 0, 1) := by decide +kernel
theorem dX7_copies_31 : decode cX7_copies 31 = .ok (.istore 5, 2) := by decide +kernel
theorem dX7_copies_33 : decode cX7_copies 33 = .ok (.iload 5, 2) := by decide +kernel
theorem dX7_copies_35 : decode cX7_copies 35 = .ok (.iload_n 2, 1) := by decide +kernel
theorem dX7_copies_36 : decode cX7_copies 36 = .ok (.if_icmp .ge 33, 3) := by decide +kernel
theorem dX7_copies_39 : decode cX7_copies 39 = .ok (.lload_n 3, 1) := by decide +kernel
theorem dX7_copies_40 : decode cX7_copies 40 = .ok (.ldc2_w 241, 3) := by decide +kernel
theorem dX7_copies_43 : decode cX7_copies 43 = .ok (.iload_n 1, 1) := by decide +kernel
theorem dX7_copies_44 : decode cX7_copies 44 = .ok (.i2l, 1) := by decide +kernel
theorem dX7_copies_45 : decode cX7_copies 45 = .ok (.ldiv, 1) := by decide +kernel
theorem dX7_copies_46 : decode cX7_copies 46 = .ok (.lcmp, 1) := by decide +kernel
theorem dX7_copies_47 : decode cX7_copies 47 = .ok (.ifCond .le 11, 3) := by decide +kernel
theorem dX7_copies_50 : decode cX7_copies 50 = .ok (.aload_n 0, 1) := by decide +kernel
theorem dX7_copies_51 : decode cX7_copies 51 = .ok (.ldc 243, 2) := by decide +kernel
theorem dX7_copies_53 : decode cX7_copies 53 = .ok (.invokevirtual 65, 3) := by decide +kernel
theorem dX7_copies_56 : decode cX7_copies 56 = .ok (.i2l, 1) := by decide +kernel
theorem dX7_copies_57 : decode cX7_copies 57 = .ok (.lreturn, 1) := by decide +kernel
theorem dX7_copies_58 : decode cX7_copies 58 = .ok (.lload_n 3, 1) := by decide +kernel
theorem dX7_copies_59 : decode cX7_copies 59 = .ok (.iload_n 1, 1) := by decide +kernel
theorem dX7_copies_60 : decode cX7_copies 60 = .ok (.i2l, 1) := by decide +kernel
theorem dX7_copies_61 : decode cX7_copies 61 = .ok (.lmul, 1) := by decide +kernel
theorem dX7_copies_62 : decode cX7_copies 62 = .ok (.lstore_n 3, 1) := by decide +kernel
theorem dX7_copies_63 : decode cX7_copies 63 = .ok (.iinc 5 1, 3) := by decide +kernel
theorem dX7_copies_66 : decode cX7_copies 66 = .ok (.goto (-33), 3) := by decide +kernel
theorem dX7_copies_69 : decode cX7_copies 69 = .ok (.lload_n 3, 1) := by decide +kernel
theorem dX7_copies_70 : decode cX7_copies 70 = .ok (.lreturn, 1) := by decide +kernel
theorem dX7_all_0 : decode cX7_all 0 = .ok (.iload_n 1, 1) := by decide +kernel
theorem dX7_all_1 : decode cX7_all 1 = .ok (.iconst 1, 1) := by decide +kernel
theorem dX7_all_2 : decode cX7_all 2 = .ok (.bipush 9, 2) := by decide +kernel
theorem dX7_all_4 : decode cX7_all 4 = .ok (.invokestatic 60, 3) := by decide +kernel
theorem dX7_all_7 : decode cX7_all 7 = .ok (.ifCond .eq 13, 3) := by decide +kernel
theorem dX7_all_10 : decode cX7_all 10 = .ok (.iload_n 2, 1) := by decide +kernel
theorem dX7_all_11 : decode cX7_all 11 = .ok (.iconst 0, 1) := by decide +kernel
theorem dX7_all_12 : decode cX7_all 12 = .ok (.bipush 62, 2) := by decide +kernel
theorem dX7_all_14 : decode cX7_all 14 = .ok (.invokestatic 60, 3) := by decide +kernel
theorem dX7_all_17 : decode cX7_all 17 = .ok (.ifCond .ne 11, 3) := by decide +kernel
theorem dX7_all_20 : decode cX7_all 20 = .ok (.aload_n 0, 1) := by decide +kernel
theorem dX7_all_21 : decode cX7_all 21 = .ok (.ldc 64, 2) := by decide +kernel
theorem dX7_all_23 : decode cX7_all 23 = .ok (.invokevirtual 65, 3) := by decide +kernel
theorem dX7_all_26 : decode cX7_all 26 = .ok (.i2l, 1) := by decide +kernel
theorem dX7_all_27 : decode cX7_all 27 = .ok (.lreturn, 1) := by decide +kernel
theorem dX7_all_28 : decode cX7_all 28 = .ok (.lconst 1, 1) := by decide +kernel
theorem dX7_all_29 : decode cX7_all 29 = .ok (.lstore_n 3, 1) := by decide +kernel
theorem dX7_all_30 : decode cX7_all 30 = .ok (.lconst 1, 1) := by decide +kernel
theorem dX7_all_31 : decode cX7_all 31 = .ok (.lstore 5, 2) := by decide +kernel
theorem dX7_all_33 : decode cX7_all 33 = .ok (.iconst 0, 1) := by decide +kernel
theorem dX7_all_34 : decode cX7_all 34 = .ok (.istore 7, 2) := by decide +kernel
theorem dX7_all_36 : decode cX7_all 36 = .ok (.iload 7, 2) := by decide +kernel
theorem dX7_all_38 : decode cX7_all 38 = .ok (.iload_n 2, 1) := by decide +kernel
theorem dX7_all_39 : decode cX7_all 39 = .ok (.if_icmp .ge 53, 3) := by decide +kernel
theorem dX7_all_42 : decode cX7_all 42 = .ok (.lload_n 3, 1) := by decide +kernel
theorem dX7_all_43 : decode cX7_all 43 = .ok (.ldc2_w 241, 3) := by decide +kernel
theorem dX7_all_46 : decode cX7_all 46 = .ok (.iload_n 1, 1) := by decide +kernel
theorem dX7_all_47 : decode cX7_all 47 = .ok (.i2l, 1) := by decide +kernel
theorem dX7_all_48 : decode cX7_all 48 = .ok (.ldiv, 1) := by decide +kernel
theorem dX7_all_49 : decode cX7_all 49 = .ok (.lcmp, 1) := by decide +kernel
theorem dX7_all_50 : decode cX7_all 50 = .ok (.ifCond .gt 17, 3) := by decide +kernel
theorem dX7_all_53 : decode cX7_all 53 = .ok (.lload 5, 2) := by decide +kernel
theorem dX7_all_55 : decode cX7_all 55 = .ok (.ldc2_w 241, 3) := by decide +kernel
theorem dX7_all_58 : decode cX7_all 58 = .ok (.lload_n 3, 1) := by decide +kernel
theorem dX7_all_59 : decode cX7_all 59 = .ok (.iload_n 1, 1) := by decide +kernel
theorem dX7_all_60 : decode cX7_all 60 = .ok (.i2l, 1) := by decide +kernel
theorem dX7_all_61 : decode cX7_all 61 = .ok (.lmul, 1) := by decide +kernel
theorem dX7_all_62 : decode cX7_all 62 = .ok (.lsub, 1) := by decide +kernel
theorem dX7_all_63 : decode cX7_all 63 = .ok (.lcmp, 1) := by decide +kernel
theorem dX7_all_64 : decode cX7_all 64 = .ok (.ifCond .le 11, 3) := by decide +kernel
theorem dX7_all_67 : decode cX7_all 67 = .ok (.aload_n 0, 1) := by decide +kernel
theorem dX7_all_68 : decode cX7_all 68 = .ok (.ldc 243, 2) := by decide +kernel
theorem dX7_all_70 : decode cX7_all 70 = .ok (.invokevirtual 65, 3) := by decide +kernel
theorem dX7_all_73 : decode cX7_all 73 = .ok (.i2l, 1) := by decide +kernel
theorem dX7_all_74 : decode cX7_all 74 = .ok (.lreturn, 1) := by decide +kernel
theorem dX7_all_75 : decode cX7_all 75 = .ok (.lload_n 3, 1) := by decide +kernel
theorem dX7_all_76 : decode cX7_all 76 = .ok (.iload_n 1, 1) := by decide +kernel
theorem dX7_all_77 : decode cX7_all 77 = .ok (.i2l, 1) := by decide +kernel
theorem dX7_all_78 : decode cX7_all 78 = .ok (.lmul, 1) := by decide +kernel
theorem dX7_all_79 : decode cX7_all 79 = .ok (.lstore_n 3, 1) := by decide +kernel
theorem dX7_all_80 : decode cX7_all 80 = .ok (.lload 5, 2) := by decide +kernel
theorem dX7_all_82 : decode cX7_all 82 = .ok (.lload_n 3, 1) := by decide +kernel
theorem dX7_all_83 : decode cX7_all 83 = .ok (.ladd, 1) := by decide +kernel
theorem dX7_all_84 : decode cX7_all 84 = .ok (.lstore 5, 2) := by decide +kernel
theorem dX7_all_86 : decode cX7_all 86 = .ok (.iinc 7 1, 3) := by decide +kernel
theorem dX7_all_89 : decode cX7_all 89 = .ok (.goto (-53), 3) := by decide +kernel
theorem dX7_all_92 : decode cX7_all 92 = .ok (.lload 5, 2) := by decide +kernel
theorem dX7_all_94 : decode cX7_all 94 = .ok (.lreturn, 1) := by decide +kernel
theorem dX7_weight_0 : decode cX7_weight 0 = .ok (.iload_n 1, 1) := by decide +kernel
theorem dX7_weight_1 : decode cX7_weight 1 = .ok (.iconst 1, 1) := by decide +kernel
theorem dX7_weight_2 : decode cX7_weight 2 = .ok (.bipush 9, 2) := by decide +kernel
theorem dX7_weight_4 : decode cX7_weight 4 = .ok (.invokestatic 60, 3) := by decide +kernel
theorem dX7_weight_7 : decode cX7_weight 7 = .ok (.ifCond .eq 22, 3) := by decide +kernel
theorem dX7_weight_10 : decode cX7_weight 10 = .ok (.iload_n 2, 1) := by decide +kernel
theorem dX7_weight_11 : decode cX7_weight 11 = .ok (.iconst 0, 1) := by decide +kernel
theorem dX7_weight_12 : decode cX7_weight 12 = .ok (.bipush 30, 2) := by decide +kernel
theorem dX7_weight_14 : decode cX7_weight 14 = .ok (.invokestatic 60, 3) := by decide +kernel
theorem dX7_weight_17 : decode cX7_weight 17 = .ok (.ifCond .eq 12, 3) := by decide +kernel
theorem dX7_weight_20 : decode cX7_weight 20 = .ok (.iload_n 3, 1) := by decide +kernel
theorem dX7_weight_21 : decode cX7_weight 21 = .ok (.iconst 0, 1) := by decide +kernel
theorem dX7_weight_22 : decode cX7_weight 22 = .ok (.iconst 1, 1) := by decide +kernel
theorem dX7_weight_23 : decode cX7_weight 23 = .ok (.invokestatic 60, 3) := by decide +kernel
theorem dX7_weight_26 : decode cX7_weight 26 = .ok (.ifCond .ne 11, 3) := by decide +kernel
theorem dX7_weight_29 : decode cX7_weight 29 = .ok (.aload_n 0, 1) := by decide +kernel
theorem dX7_weight_30 : decode cX7_weight 30 = .ok (.ldc 64, 2) := by decide +kernel
theorem dX7_weight_32 : decode cX7_weight 32 = .ok (.invokevirtual 65, 3) := by decide +kernel
theorem dX7_weight_35 : decode cX7_weight 35 = .ok (.i2l, 1) := by decide +kernel
theorem dX7_weight_36 : decode cX7_weight 36 = .ok (.lreturn, 1) := by decide +kernel
theorem dX7_weight_37 : decode cX7_weight 37 = .ok (.iload_n 1, 1) := by decide +kernel
theorem dX7_weight_38 : decode cX7_weight 38 = .ok (.iconst 2, 1) := by decide +kernel
theorem dX7_weight_39 : decode cX7_weight 39 = .ok (.irem, 1) := by decide +kernel
theorem dX7_weight_40 : decode cX7_weight 40 = .ok (.ifCond .ne 10, 3) := by decide +kernel
theorem dX7_weight_43 : decode cX7_weight 43 = .ok (.iload_n 1, 1) := by decide +kernel
theorem dX7_weight_44 : decode cX7_weight 44 = .ok (.iconst 2, 1) := by decide +kernel
theorem dX7_weight_45 : decode cX7_weight 45 = .ok (.idiv, 1) := by decide +kernel
theorem dX7_weight_46 : decode cX7_weight 46 = .ok (.i2l, 1) := by decide +kernel
theorem dX7_weight_47 : decode cX7_weight 47 = .ok (.goto 5, 3) := by decide +kernel
theorem dX7_weight_50 : decode cX7_weight 50 = .ok (.iload_n 1, 1) := by decide +kernel
theorem dX7_weight_51 : decode cX7_weight 51 = .ok (.i2l, 1) := by decide +kernel
theorem dX7_weight_52 : decode cX7_weight 52 = .ok (.lstore 4, 2) := by decide +kernel
theorem dX7_weight_54 : decode cX7_weight 54 = .ok (.iload_n 1, 1) := by decide +kernel
theorem dX7_weight_55 : decode cX7_weight 55 = .ok (.iconst 2, 1) := by decide +kernel
theorem dX7_weight_56 : decode cX7_weight 56 = .ok (.irem, 1) := by decide +kernel
theorem dX7_weight_57 : decode cX7_weight 57 = .ok (.ifCond .ne 7, 3) := by decide +kernel
theorem dX7_weight_60 : decode cX7_weight 60 = .ok (.lconst 1, 1) := by decide +kernel
theorem dX7_weight_61 : decode cX7_weight 61 = .ok (.goto 6, 3) := by decide +kernel
theorem dX7_weight_64 : decode cX7_weight 64 = .ok (.ldc2_w 244, 3) := by decide +kernel
theorem dX7_weight_67 : decode cX7_weight 67 = .ok (.lstore 6, 2) := by decide +kernel
theorem dX7_weight_69 : decode cX7_weight 69 = .ok (.lconst 1, 1) := by decide +kernel
theorem dX7_weight_70 : decode cX7_weight 70 = .ok (.lstore 8, 2) := by decide +kernel
theorem dX7_weight_72 : decode cX7_weight 72 = .ok (.lconst 1, 1) := by decide +kernel
theorem dX7_weight_73 : decode cX7_weight 73 = .ok (.lstore 10, 2) := by decide +kernel
theorem dX7_weight_75 : decode cX7_weight 75 = .ok (.lconst 1, 1) := by decide +kernel
theorem dX7_weight_76 : decode cX7_weight 76 = .ok (.lstore 12, 2) := by decide +kernel
theorem dX7_weight_78 : decode cX7_weight 78 = .ok (.iconst 0, 1) := by decide +kernel
theorem dX7_weight_79 : decode cX7_weight 79 = .ok (.istore 14, 2) := by decide +kernel
theorem dX7_weight_81 : decode cX7_weight 81 = .ok (.iload 14, 2) := by decide +kernel
theorem dX7_weight_83 : decode cX7_weight 83 = .ok (.iload_n 2, 1) := by decide +kernel
theorem dX7_weight_84 : decode cX7_weight 84 = .ok (.if_icmp .ge 59, 3) := by decide +kernel
theorem dX7_weight_87 : decode cX7_weight 87 = .ok (.lload 8, 2) := by decide +kernel
theorem dX7_weight_89 : decode cX7_weight 89 = .ok (.lload 4, 2) := by decide +kernel
theorem dX7_weight_91 : decode cX7_weight 91 = .ok (.lmul, 1) := by decide +kernel
theorem dX7_weight_92 : decode cX7_weight 92 = .ok (.lstore 8, 2) := by decide +kernel
theorem dX7_weight_94 : decode cX7_weight 94 = .ok (.lload 10, 2) := by decide +kernel
theorem dX7_weight_96 : decode cX7_weight 96 = .ok (.lload 6, 2) := by decide +kernel
theorem dX7_weight_98 : decode cX7_weight 98 = .ok (.lmul, 1) := by decide +kernel
theorem dX7_weight_99 : decode cX7_weight 99 = .ok (.lload 8, 2) := by decide +kernel
theorem dX7_weight_101 : decode cX7_weight 101 = .ok (.ladd, 1) := by decide +kernel
theorem dX7_weight_102 : decode cX7_weight 102 = .ok (.lstore 10, 2) := by decide +kernel
theorem dX7_weight_104 : decode cX7_weight 104 = .ok (.lload 12, 2) := by decide +kernel
theorem dX7_weight_106 : decode cX7_weight 106 = .ok (.lload 6, 2) := by decide +kernel
theorem dX7_weight_108 : decode cX7_weight 108 = .ok (.lmul, 1) := by decide +kernel
theorem dX7_weight_109 : decode cX7_weight 109 = .ok (.lstore 12, 2) := by decide +kernel
theorem dX7_weight_111 : decode cX7_weight 111 = .ok (.lload 10, 2) := by decide +kernel
theorem dX7_weight_113 : decode cX7_weight 113 = .ok (.ldc2_w 246, 3) := by decide +kernel
theorem dX7_weight_116 : decode cX7_weight 116 = .ok (.lcmp, 1) := by decide +kernel
theorem dX7_weight_117 : decode cX7_weight 117 = .ok (.ifCond .gt 12, 3) := by decide +kernel
theorem dX7_weight_120 : decode cX7_weight 120 = .ok (.lload 12, 2) := by decide +kernel
theorem dX7_weight_122 : decode cX7_weight 122 = .ok (.ldc2_w 246, 3) := by decide +kernel
theorem dX7_weight_125 : decode cX7_weight 125 = .ok (.lcmp, 1) := by decide +kernel
theorem dX7_weight_126 : decode cX7_weight 126 = .ok (.ifCond .le 11, 3) := by decide +kernel
theorem dX7_weight_129 : decode cX7_weight 129 = .ok (.aload_n 0, 1) := by decide +kernel
theorem dX7_weight_130 : decode cX7_weight 130 = .ok (.ldc 243, 2) := by decide +kernel
theorem dX7_weight_132 : decode cX7_weight 132 = .ok (.invokevirtual 65, 3) := by decide +kernel
theorem dX7_weight_135 : decode cX7_weight 135 = .ok (.i2l, 1) := by decide +kernel
theorem dX7_weight_136 : decode cX7_weight 136 = .ok (.lreturn, 1) := by decide +kernel
theorem dX7_weight_137 : decode cX7_weight 137 = .ok (.iinc 14 1, 3) := by decide +kernel
theorem dX7_weight_140 : decode cX7_weight 140 = .ok (.goto (-59), 3) := by decide +kernel
theorem dX7_weight_143 : decode cX7_weight 143 = .ok (.iload_n 3, 1) := by decide +kernel
theorem dX7_weight_144 : decode cX7_weight 144 = .ok (.ifCond .ne 8, 3) := by decide +kernel
theorem dX7_weight_147 : decode cX7_weight 147 = .ok (.lload 10, 2) := by decide +kernel
theorem dX7_weight_149 : decode cX7_weight 149 = .ok (.goto 5, 3) := by decide +kernel
theorem dX7_weight_152 : decode cX7_weight 152 = .ok (.lload 12, 2) := by decide +kernel
theorem dX7_weight_154 : decode cX7_weight 154 = .ok (.lreturn, 1) := by decide +kernel
end
section
theorem dX7_deep_0 : decode cX7_deep 0 = .ok (.iload_n 1, 1) := by decide +kernel
theorem dX7_deep_1 : decode cX7_deep 1 = .ok (.iconst 1, 1) := by decide +kernel
theorem dX7_deep_2 : decode cX7_deep 2 = .ok (.bipush 9, 2) := by decide +kernel
theorem dX7_deep_4 : decode cX7_deep 4 = .ok (.invokestatic 60, 3) := by decide +kernel
theorem dX7_deep_7 : decode cX7_deep 7 = .ok (.ifCond .eq 13, 3) := by decide +kernel
theorem dX7_deep_10 : decode cX7_deep 10 = .ok (.iload_n 2, 1) := by decide +kernel
theorem dX7_deep_11 : decode cX7_deep 11 = .ok (.iconst 1, 1) := by decide +kernel
theorem dX7_deep_12 : decode cX7_deep 12 = .ok (.ldc 248, 2) := by decide +kernel
theorem dX7_deep_14 : decode cX7_deep 14 = .ok (.invokestatic 60, 3) := by decide +kernel
theorem dX7_deep_17 : decode cX7_deep 17 = .ok (.ifCond .ne 10, 3) := by decide +kernel
theorem dX7_deep_20 : decode cX7_deep 20 = .ok (.aload_n 0, 1) := by decide +kernel
theorem dX7_deep_21 : decode cX7_deep 21 = .ok (.ldc 64, 2) := by decide +kernel
theorem dX7_deep_23 : decode cX7_deep 23 = .ok (.invokevirtual 65, 3) := by decide +kernel
theorem dX7_deep_26 : decode cX7_deep 26 = .ok (.ireturn, 1) := by decide +kernel
theorem dX7_deep_27 : decode cX7_deep 27 = .ok (.lconst 1, 1) := by decide +kernel
theorem dX7_deep_28 : decode cX7_deep 28 = .ok (.lstore_n 3, 1) := by decide +kernel
theorem dX7_deep_29 : decode cX7_deep 29 = .ok (.iconst 0, 1) := by decide +kernel
theorem dX7_deep_30 : decode cX7_deep 30 = .ok (.istore 5, 2) := by decide +kernel
theorem dX7_deep_32 : decode cX7_deep 32 = .ok (.iload 5, 2) := by decide +kernel
theorem dX7_deep_34 : decode cX7_deep 34 = .ok (.bipush 62, 2) := by decide +kernel
theorem dX7_deep_36 : decode cX7_deep 36 = .ok (.if_icmp .gt 24, 3) := by decide +kernel
theorem dX7_deep_39 : decode cX7_deep 39 = .ok (.lload_n 3, 1) := by decide +kernel
theorem dX7_deep_40 : decode cX7_deep 40 = .ok (.iload_n 2, 1) := by decide +kernel
theorem dX7_deep_41 : decode cX7_deep 41 = .ok (.i2l, 1) := by decide +kernel
theorem dX7_deep_42 : decode cX7_deep 42 = .ok (.lcmp, 1) := by decide +kernel
theorem dX7_deep_43 : decode cX7_deep 43 = .ok (.ifCond .lt 6, 3) := by decide +kernel
theorem dX7_deep_46 : decode cX7_deep 46 = .ok (.iload 5, 2) := by decide +kernel
theorem dX7_deep_48 : decode cX7_deep 48 = .ok (.ireturn, 1) := by decide +kernel
theorem dX7_deep_49 : decode cX7_deep 49 = .ok (.lload_n 3, 1) := by decide +kernel
theorem dX7_deep_50 : decode cX7_deep 50 = .ok (.iload_n 1, 1) := by decide +kernel
theorem dX7_deep_51 : decode cX7_deep 51 = .ok (.i2l, 1) := by decide +kernel
theorem dX7_deep_52 : decode cX7_deep 52 = .ok (.lmul, 1) := by decide +kernel
theorem dX7_deep_53 : decode cX7_deep 53 = .ok (.lstore_n 3, 1) := by decide +kernel
theorem dX7_deep_54 : decode cX7_deep 54 = .ok (.iinc 5 1, 3) := by decide +kernel
theorem dX7_deep_57 : decode cX7_deep 57 = .ok (.goto (-25), 3) := by decide +kernel
theorem dX7_deep_60 : decode cX7_deep 60 = .ok (.aload_n 0, 1) := by decide +kernel
theorem dX7_deep_61 : decode cX7_deep 61 = .ok (.ldc 189, 2) := by decide +kernel
theorem dX7_deep_63 : decode cX7_deep 63 = .ok (.invokevirtual 65, 3) := by decide +kernel
theorem dX7_deep_66 : decode cX7_deep 66 = .ok (.ireturn, 1) := by decide +kernel
theorem dX7_days_0 : decode cX7_days 0 = .ok (.iload_n 1, 1) := by decide +kernel
theorem dX7_days_1 : decode cX7_days 1 = .ok (.iconst 1, 1) := by decide +kernel
theorem dX7_days_2 : decode cX7_days 2 = .ok (.bipush 60, 2) := by decide +kernel
theorem dX7_days_4 : decode cX7_days 4 = .ok (.invokestatic 60, 3) := by decide +kernel
theorem dX7_days_7 : decode cX7_days 7 = .ok (.ifCond .ne 10, 3) := by decide +kernel
theorem dX7_days_10 : decode cX7_days 10 = .ok (.aload_n 0, 1) := by decide +kernel
theorem dX7_days_11 : decode cX7_days 11 = .ok (.ldc 64, 2) := by decide +kernel
theorem dX7_days_13 : decode cX7_days 13 = .ok (.invokevirtual 65, 3) := by decide +kernel
theorem dX7_days_16 : decode cX7_days 16 = .ok (.ireturn, 1) := by decide +kernel
theorem dX7_days_17 : decode cX7_days 17 = .ok (.aload_n 0, 1) := by decide +kernel
theorem dX7_days_18 : decode cX7_days 18 = .ok (.getfield 12, 3) := by decide +kernel
theorem dX7_days_21 : decode cX7_days 21 = .ok (.getfield 171, 3) := by decide +kernel
theorem dX7_days_24 : decode cX7_days 24 = .ok (.iload_n 1, 1) := by decide +kernel
theorem dX7_days_25 : decode cX7_days 25 = .ok (.iadd, 1) := by decide +kernel
theorem dX7_days_26 : decode cX7_days 26 = .ok (.sipush 9999, 3) := by decide +kernel
theorem dX7_days_29 : decode cX7_days 29 = .ok (.if_icmp .le 10, 3) := by decide +kernel
theorem dX7_days_32 : decode cX7_days 32 = .ok (.aload_n 0, 1) := by decide +kernel
theorem dX7_days_33 : decode cX7_days 33 = .ok (.ldc 133, 2) := by decide +kernel
theorem dX7_days_35 : decode cX7_days 35 = .ok (.invokevirtual 65, 3) := by decide +kernel
theorem dX7_days_38 : decode cX7_days 38 = .ok (.ireturn, 1) := by decide +kernel
theorem dX7_days_39 : decode cX7_days 39 = .ok (.aload_n 0, 1) := by decide +kernel
theorem dX7_days_40 : decode cX7_days 40 = .ok (.getfield 12, 3) := by decide +kernel
theorem dX7_days_43 : decode cX7_days 43 = .ok (.iload_n 1, 1) := by decide +kernel
theorem dX7_days_44 : decode cX7_days 44 = .ok (.invokevirtual 249, 3) := by decide +kernel
theorem dX7_days_47 : decode cX7_days 47 = .ok (.ireturn, 1) := by decide +kernel
theorem dX7_ahead_0 : decode cX7_ahead 0 = .ok (.iload_n 1, 1) := by decide +kernel
theorem dX7_ahead_1 : decode cX7_ahead 1 = .ok (.iconst 0, 1) := by decide +kernel
theorem dX7_ahead_2 : decode cX7_ahead 2 = .ok (.bipush 60, 2) := by decide +kernel
theorem dX7_ahead_4 : decode cX7_ahead 4 = .ok (.invokestatic 60, 3) := by decide +kernel
theorem dX7_ahead_7 : decode cX7_ahead 7 = .ok (.ifCond .eq 17, 3) := by decide +kernel
theorem dX7_ahead_10 : decode cX7_ahead 10 = .ok (.iload_n 2, 1) := by decide +kernel
theorem dX7_ahead_11 : decode cX7_ahead 11 = .ok (.ifCond .eq 20, 3) := by decide +kernel
theorem dX7_ahead_14 : decode cX7_ahead 14 = .ok (.aload_n 0, 1) := by decide +kernel
theorem dX7_ahead_15 : decode cX7_ahead 15 = .ok (.iload_n 2, 1) := by decide +kernel
theorem dX7_ahead_16 : decode cX7_ahead 16 = .ok (.iconst 1, 1) := by decide +kernel
theorem dX7_ahead_17 : decode cX7_ahead 17 = .ok (.isub, 1) := by decide +kernel
theorem dX7_ahead_18 : decode cX7_ahead 18 = .ok (.invokevirtual 93, 3) := by decide +kernel
theorem dX7_ahead_21 : decode cX7_ahead 21 = .ok (.ifCond .ne 10, 3) := by decide +kernel
theorem dX7_ahead_24 : decode cX7_ahead 24 = .ok (.aload_n 0, 1) := by decide +kernel
theorem dX7_ahead_25 : decode cX7_ahead 25 = .ok (.ldc 64, 2) := by decide +kernel
theorem dX7_ahead_27 : decode cX7_ahead 27 = .ok (.invokevirtual 65, 3) := by decide +kernel
theorem dX7_ahead_30 : decode cX7_ahead 30 = .ok (.ireturn, 1) := by decide +kernel
theorem dX7_ahead_31 : decode cX7_ahead 31 = .ok (.aload_n 0, 1) := by decide +kernel
theorem dX7_ahead_32 : decode cX7_ahead 32 = .ok (.getfield 12, 3) := by decide +kernel
theorem dX7_ahead_35 : decode cX7_ahead 35 = .ok (.getfield 171, 3) := by decide +kernel
theorem dX7_ahead_38 : decode cX7_ahead 38 = .ok (.iload_n 1, 1) := by decide +kernel
theorem dX7_ahead_39 : decode cX7_ahead 39 = .ok (.iadd, 1) := by decide +kernel
theorem dX7_ahead_40 : decode cX7_ahead 40 = .ok (.sipush 9999, 3) := by decide +kernel
theorem dX7_ahead_43 : decode cX7_ahead 43 = .ok (.if_icmp .le 10, 3) := by decide +kernel
theorem dX7_ahead_46 : decode cX7_ahead 46 = .ok (.aload_n 0, 1) := by decide +kernel
theorem dX7_ahead_47 : decode cX7_ahead 47 = .ok (.ldc 133, 2) := by decide +kernel
theorem dX7_ahead_49 : decode cX7_ahead 49 = .ok (.invokevirtual 65, 3) := by decide +kernel
theorem dX7_ahead_52 : decode cX7_ahead 52 = .ok (.ireturn, 1) := by decide +kernel
theorem dX7_ahead_53 : decode cX7_ahead 53 = .ok (.aload_n 0, 1) := by decide +kernel
theorem dX7_ahead_54 : decode cX7_ahead 54 = .ok (.getfield 19, 3) := by decide +kernel
theorem dX7_ahead_57 : decode cX7_ahead 57 = .ok (.aload_n 0, 1) := by decide +kernel
theorem dX7_ahead_58 : decode cX7_ahead 58 = .ok (.getfield 12, 3) := by decide +kernel
theorem dX7_ahead_61 : decode cX7_ahead 61 = .ok (.invokevirtual 218, 3) := by decide +kernel
theorem dX7_ahead_64 : decode cX7_ahead 64 = .ok (.aload_n 0, 1) := by decide +kernel
theorem dX7_ahead_65 : decode cX7_ahead 65 = .ok (.getfield 19, 3) := by decide +kernel
theorem dX7_ahead_68 : decode cX7_ahead 68 = .ok (.iload_n 1, 1) := by decide +kernel
theorem dX7_ahead_69 : decode cX7_ahead 69 = .ok (.invokevirtual 249, 3) := by decide +kernel
theorem dX7_ahead_72 : decode cX7_ahead 72 = .ok (.istore_n 3, 1) := by decide +kernel
theorem dX7_ahead_73 : decode cX7_ahead 73 = .ok (.iload_n 2, 1) := by decide +kernel
theorem dX7_ahead_74 : decode cX7_ahead 74 = .ok (.ifCond .ne 7, 3) := by decide +kernel
theorem dX7_ahead_77 : decode cX7_ahead 77 = .ok (.iload_n 3, 1) := by decide +kernel
theorem dX7_ahead_78 : decode cX7_ahead 78 = .ok (.goto 14, 3) := by decide +kernel
theorem dX7_ahead_81 : decode cX7_ahead 81 = .ok (.aload_n 0, 1) := by decide +kernel
theorem dX7_ahead_82 : decode cX7_ahead 82 = .ok (.getfield 19, 3) := by decide +kernel
theorem dX7_ahead_85 : decode cX7_ahead 85 = .ok (.getfield 159, 3) := by decide +kernel
theorem dX7_ahead_88 : decode cX7_ahead 88 = .ok (.iload_n 2, 1) := by decide +kernel
theorem dX7_ahead_89 : decode cX7_ahead 89 = .ok (.iconst 1, 1) := by decide +kernel
theorem dX7_ahead_90 : decode cX7_ahead 90 = .ok (.isub, 1) := by decide +kernel
theorem dX7_ahead_91 : decode cX7_ahead 91 = .ok (.iaload, 1) := by decide +kernel
theorem dX7_ahead_92 : decode cX7_ahead 92 = .ok (.ireturn, 1) := by decide +kernel
theorem dX7_when_0 : decode cX7_when 0 = .ok (.aload_n 0, 1) := by decide +kernel
theorem dX7_when_1 : decode cX7_when 1 = .ok (.iload_n 1, 1) := by decide +kernel
theorem dX7_when_2 : decode cX7_when 2 = .ok (.invokevirtual 93, 3) := by decide +kernel
theorem dX7_when_5 : decode cX7_when 5 = .ok (.ifCond .eq 10, 3) := by decide +kernel
theorem dX7_when_8 : decode cX7_when 8 = .ok (.iload_n 2, 1) := by decide +kernel
theorem dX7_when_9 : decode cX7_when 9 = .ok (.invokestatic 56, 3) := by decide +kernel
theorem dX7_when_12 : decode cX7_when 12 = .ok (.ifCond .ne 10, 3) := by decide +kernel
theorem dX7_when_15 : decode cX7_when 15 = .ok (.aload_n 0, 1) := by decide +kernel
theorem dX7_when_16 : decode cX7_when 16 = .ok (.ldc 64, 2) := by decide +kernel
theorem dX7_when_18 : decode cX7_when 18 = .ok (.invokevirtual 65, 3) := by decide +kernel
theorem dX7_when_21 : decode cX7_when 21 = .ok (.ireturn, 1) := by decide +kernel
theorem dX7_when_22 : decode cX7_when 22 = .ok (.aload_n 0, 1) := by decide +kernel
theorem dX7_when_23 : decode cX7_when 23 = .ok (.getfield 12, 3) := by decide +kernel
theorem dX7_when_26 : decode cX7_when 26 = .ok (.getfield 171, 3) := by decide +kernel
theorem dX7_when_29 : decode cX7_when 29 = .ok (.sipush 9939, 3) := by decide +kernel
theorem dX7_when_32 : decode cX7_when 32 = .ok (.if_icmp .le 10, 3) := by decide +kernel
theorem dX7_when_35 : decode cX7_when 35 = .ok (.aload_n 0, 1) := by decide +kernel
theorem dX7_when_36 : decode cX7_when 36 = .ok (.ldc 133, 2) := by decide +kernel
theorem dX7_when_38 : decode cX7_when 38 = .ok (.invokevirtual 65, 3) := by decide +kernel
theorem dX7_when_41 : decode cX7_when 41 = .ok (.ireturn, 1) := by decide +kernel
theorem dX7_when_42 : decode cX7_when 42 = .ok (.aload_n 0, 1) := by decide +kernel
theorem dX7_when_43 : decode cX7_when 43 = .ok (.getfield 19, 3) := by decide +kernel
theorem dX7_when_46 : decode cX7_when 46 = .ok (.aload_n 0, 1) := by decide +kernel
theorem dX7_when_47 : decode cX7_when 47 = .ok (.getfield 12, 3) := by decide +kernel
theorem dX7_when_50 : decode cX7_when 50 = .ok (.invokevirtual 218, 3) := by decide +kernel
theorem dX7_when_53 : decode cX7_when 53 = .ok (.iconst 0, 1) := by decide +kernel
theorem dX7_when_54 : decode cX7_when 54 = .ok (.istore_n 3, 1) := by decide +kernel
theorem dX7_when_55 : decode cX7_when 55 = .ok (.iload_n 3, 1) := by decide +kernel
theorem dX7_when_56 : decode cX7_when 56 = .ok (.bipush 60, 2) := by decide +kernel
theorem dX7_when_58 : decode cX7_when 58 = .ok (.if_icmp .gt 37, 3) := by decide +kernel
theorem dX7_when_61 : decode cX7_when 61 = .ok (.iload_n 3, 1) := by decide +kernel
theorem dX7_when_62 : decode cX7_when 62 = .ok (.ifCond .le 12, 3) := by decide +kernel
theorem dX7_when_65 : decode cX7_when 65 = .ok (.aload_n 0, 1) := by decide +kernel
theorem dX7_when_66 : decode cX7_when 66 = .ok (.getfield 19, 3) := by decide +kernel
theorem dX7_when_69 : decode cX7_when 69 = .ok (.iconst 1, 1) := by decide +kernel
theorem dX7_when_70 : decode cX7_when 70 = .ok (.invokevirtual 249, 3) := by decide +kernel
theorem dX7_when_73 : decode cX7_when 73 = .ok (.pop, 1) := by decide +kernel
theorem dX7_when_74 : decode cX7_when 74 = .ok (.aload_n 0, 1) := by decide +kernel
theorem dX7_when_75 : decode cX7_when 75 = .ok (.getfield 19, 3) := by decide +kernel
theorem dX7_when_78 : decode cX7_when 78 = .ok (.getfield 159, 3) := by decide +kernel
theorem dX7_when_81 : decode cX7_when 81 = .ok (.iload_n 1, 1) := by decide +kernel
theorem dX7_when_82 : decode cX7_when 82 = .ok (.iaload, 1) := by decide +kernel
theorem dX7_when_83 : decode cX7_when 83 = .ok (.iload_n 2, 1) := by decide +kernel
theorem dX7_when_84 : decode cX7_when 84 = .ok (.if_icmp .ne 5, 3) := by decide +kernel
theorem dX7_when_87 : decode cX7_when 87 = .ok (.iload_n 3, 1) := by decide +kernel
theorem dX7_when_88 : decode cX7_when 88 = .ok (.ireturn, 1) := by decide +kernel
theorem dX7_when_89 : decode cX7_when 89 = .ok (.iinc 3 1, 3) := by decide +kernel
theorem dX7_when_92 : decode cX7_when 92 = .ok (.goto (-37), 3) := by decide +kernel
theorem dX7_when_95 : decode cX7_when 95 = .ok (.aload_n 0, 1) := by decide +kernel
theorem dX7_when_96 : decode cX7_when 96 = .ok (.ldc 189, 2) := by decide +kernel
theorem dX7_when_98 : decode cX7_when 98 = .ok (.invokevirtual 65, 3) := by decide +kernel
theorem dX7_when_101 : decode cX7_when 101 = .ok (.ireturn, 1) := by decide +kernel
theorem dX7_seed_0 : decode cX7_seed 0 = .ok (.aload_n 0, 1) := by decide +kernel
theorem dX7_seed_1 : decode cX7_seed 1 = .ok (.getfield 12, 3) := by decide +kernel
theorem dX7_seed_4 : decode cX7_seed 4 = .ok (.getfield 252, 3) := by decide +kernel
theorem dX7_seed_7 : decode cX7_seed 7 = .ok (.istore_n 2, 1) := by decide +kernel
theorem dX7_seed_8 : decode cX7_seed 8 = .ok (.aload_n 0, 1) := by decide +kernel
theorem dX7_seed_9 : decode cX7_seed 9 = .ok (.getfield 12, 3) := by decide +kernel
theorem dX7_seed_12 : decode cX7_seed 12 = .ok (.iload_n 1, 1) := by decide +kernel
theorem dX7_seed_13 : decode cX7_seed 13 = .ok (.putfield 252, 3) := by decide +kernel
theorem dX7_seed_16 : decode cX7_seed 16 = .ok (.iload_n 2, 1) := by decide +kernel
theorem dX7_seed_17 : decode cX7_seed 17 = .ok (.ireturn, 1) := by decide +kernel
theorem dX7_feed_0 : decode cX7_feed 0 = .ok (.iload_n 2, 1) := by decide +kernel
theorem dX7_feed_1 : decode cX7_feed 1 = .ok (.iconst 1, 1) := by decide +kernel
theorem dX7_feed_2 : decode cX7_feed 2 = .ok (.iconst 4, 1) := by decide +kernel
theorem dX7_feed_3 : decode cX7_feed 3 = .ok (.invokestatic 60, 3) := by decide +kernel
theorem dX7_feed_6 : decode cX7_feed 6 = .ok (.ifCond .ne 10, 3) := by decide +kernel
theorem dX7_feed_9 : decode cX7_feed 9 = .ok (.aload_n 0, 1) := by decide +kernel
theorem dX7_feed_10 : decode cX7_feed 10 = .ok (.ldc 64, 2) := by decide +kernel
theorem dX7_feed_12 : decode cX7_feed 12 = .ok (.invokevirtual 65, 3) := by decide +kernel
theorem dX7_feed_15 : decode cX7_feed 15 = .ok (.ireturn, 1) := by decide +kernel
theorem dX7_feed_16 : decode cX7_feed 16 = .ok (.aload_n 0, 1) := by decide +kernel
theorem dX7_feed_17 : decode cX7_feed 17 = .ok (.getfield 32, 3) := by decide +kernel
theorem dX7_feed_20 : decode cX7_feed 20 = .ok (.getfield 255, 3) := by decide +kernel
theorem dX7_feed_23 : decode cX7_feed 23 = .ok (.iload_n 2, 1) := by decide +kernel
theorem dX7_feed_24 : decode cX7_feed 24 = .ok (.iadd, 1) := by decide +kernel
theorem dX7_feed_25 : decode cX7_feed 25 = .ok (.bipush 120, 2) := by decide +kernel
theorem dX7_feed_27 : decode cX7_feed 27 = .ok (.if_icmp .le 10, 3) := by decide +kernel
theorem dX7_feed_30 : decode cX7_feed 30 = .ok (.aload_n 0, 1) := by decide +kernel
theorem dX7_feed_31 : decode cX7_feed 31 = .ok (.ldc 88, 2) := by decide +kernel
theorem dX7_feed_33 : decode cX7_feed 33 = .ok (.invokevirtual 65, 3) := by decide +kernel
theorem dX7_feed_36 : decode cX7_feed 36 = .ok (.ireturn, 1) := by decide +kernel
theorem dX7_feed_37 : decode cX7_feed 37 = .ok (.aload_n 0, 1) := by decide +kernel
theorem dX7_feed_38 : decode cX7_feed 38 = .ok (.getfield 32, 3) := by decide +kernel
theorem dX7_feed_41 : decode cX7_feed 41 = .ok (.iload_n 1, 1) := by decide +kernel
theorem dX7_feed_42 : decode cX7_feed 42 = .ok (.iload_n 2, 1) := by decide +kernel
theorem dX7_feed_43 : decode cX7_feed 43 = .ok (.invokevirtual 258, 3) := by decide +kernel
theorem dX7_feed_46 : decode cX7_feed 46 = .ok (.aload_n 0, 1) := by decide +kernel
theorem dX7_feed_47 : decode cX7_feed 47 = .ok (.getfield 32, 3) := by decide +kernel
theorem dX7_feed_50 : decode cX7_feed 50 = .ok (.getfield 255, 3) := by decide +kernel
theorem dX7_feed_53 : decode cX7_feed 53 = .ok (.ireturn, 1) := by decide +kernel
theorem dX7_wipe_0 : decode cX7_wipe 0 = .ok (.aload_n 0, 1) := by decide +kernel
theorem dX7_wipe_1 : decode cX7_wipe 1 = .ok (.getfield 32, 3) := by decide +kernel
theorem dX7_wipe_4 : decode cX7_wipe 4 = .ok (.getfield 255, 3) := by decide +kernel
theorem dX7_wipe_7 : decode cX7_wipe 7 = .ok (.istore_n 1, 1) := by decide +kernel
theorem dX7_wipe_8 : decode cX7_wipe 8 = .ok (.aload_n 0, 1) := by decide +kernel
theorem dX7_wipe_9 : decode cX7_wipe 9 = .ok (.getfield 32, 3) := by decide +kernel
theorem dX7_wipe_12 : decode cX7_wipe 12 = .ok (.iconst 0, 1) := by decide +kernel
theorem dX7_wipe_13 : decode cX7_wipe 13 = .ok (.putfield 255, 3) := by decide +kernel
theorem dX7_wipe_16 : decode cX7_wipe 16 = .ok (.iload_n 1, 1) := by decide +kernel
theorem dX7_wipe_17 : decode cX7_wipe 17 = .ok (.ireturn, 1) := by decide +kernel
theorem dX7_text_0 : decode cX7_text 0 = .ok (.aload_n 0, 1) := by decide +kernel
theorem dX7_text_1 : decode cX7_text 1 = .ok (.getfield 41, 3) := by decide +kernel
theorem dX7_text_4 : decode cX7_text 4 = .ok (.aload_n 0, 1) := by decide +kernel
theorem dX7_text_5 : decode cX7_text 5 = .ok (.getfield 12, 3) := by decide +kernel
theorem dX7_text_8 : decode cX7_text 8 = .ok (.getfield 84, 3) := by decide +kernel
theorem dX7_text_11 : decode cX7_text 11 = .ok (.aload_n 0, 1) := by decide +kernel
theorem dX7_text_12 : decode cX7_text 12 = .ok (.getfield 12, 3) := by decide +kernel
theorem dX7_text_15 : decode cX7_text 15 = .ok (.getfield 112, 3) := by decide +kernel
theorem dX7_text_18 : decode cX7_text 18 = .ok (.invokevirtual 261, 3) := by decide +kernel
theorem dX7_text_21 : decode cX7_text 21 = .ok (.istore_n 1, 1) := by decide +kernel
theorem dX7_text_22 : decode cX7_text 22 = .ok (.aload_n 0, 1) := by decide +kernel
theorem dX7_text_23 : decode cX7_text 23 = .ok (.getfield 32, 3) := by decide +kernel
theorem dX7_text_26 : decode cX7_text 26 = .ok (.iconst 0, 1) := by decide +kernel
theorem dX7_text_27 : decode cX7_text 27 = .ok (.putfield 255, 3) := by decide +kernel
theorem dX7_text_30 : decode cX7_text 30 = .ok (.iload_n 1, 1) := by decide +kernel
theorem dX7_text_31 : decode cX7_text 31 = .ok (.iconst (-1), 1) := by decide +kernel
theorem dX7_text_32 : decode cX7_text 32 = .ok (.if_icmp .eq 7, 3) := by decide +kernel
theorem dX7_text_35 : decode cX7_text 35 = .ok (.iconst (-1), 1) := by decide +kernel
theorem dX7_text_36 : decode cX7_text 36 = .ok (.iload_n 1, 1) := by decide +kernel
theorem dX7_text_37 : decode cX7_text 37 = .ok (.isub, 1) := by decide +kernel
theorem dX7_text_38 : decode cX7_text 38 = .ok (.ireturn, 1) := by decide +kernel
theorem dX7_text_39 : decode cX7_text 39 = .ok (.iconst 0, 1) := by decide +kernel
theorem dX7_text_40 : decode cX7_text 40 = .ok (.istore_n 2, 1) := by decide +kernel
theorem dX7_text_41 : decode cX7_text 41 = .ok (.iload_n 2, 1) := by decide +kernel
theorem dX7_text_42 : decode cX7_text 42 = .ok (.aload_n 0, 1) := by decide +kernel
theorem dX7_text_43 : decode cX7_text 43 = .ok (.getfield 41, 3) := by decide +kernel
theorem dX7_text_46 : decode cX7_text 46 = .ok (.getfield 264, 3) := by decide +kernel
theorem dX7_text_49 : decode cX7_text 49 = .ok (.if_icmp .ge 16, 3) := by decide +kernel
theorem dX7_text_52 : decode cX7_text 52 = .ok (.aload_n 0, 1) := by decide +kernel
theorem dX7_text_53 : decode cX7_text 53 = .ok (.iload_n 2, 1) := by decide +kernel
theorem dX7_text_54 : decode cX7_text 54 = .ok (.iconst 4, 1) := by decide +kernel
theorem dX7_text_55 : decode cX7_text 55 = .ok (.imul, 1) := by decide +kernel
theorem dX7_text_56 : decode cX7_text 56 = .ok (.invokevirtual 267, 3) := by decide +kernel
theorem dX7_text_59 : decode cX7_text 59 = .ok (.iinc 2 1, 3) := by decide +kernel
theorem dX7_text_62 : decode cX7_text 62 = .ok (.goto (-21), 3) := by decide +kernel
theorem dX7_text_65 : decode cX7_text 65 = .ok (.aload_n 0, 1) := by decide +kernel
theorem dX7_text_66 : decode cX7_text 66 = .ok (.getfield 41, 3) := by decide +kernel
theorem dX7_text_69 : decode cX7_text 69 = .ok (.getfield 264, 3) := by decide +kernel
theorem dX7_text_72 : decode cX7_text 72 = .ok (.ireturn, 1) := by decide +kernel
theorem dX7_hold_0 : decode cX7_hold 0 = .ok (.iload_n 1, 1) := by decide +kernel
theorem dX7_hold_1 : decode cX7_hold 1 = .ok (.iconst 0, 1) := by decide +kernel
theorem dX7_hold_2 : decode cX7_hold 2 = .ok (.bipush 9, 2) := by decide +kernel
theorem dX7_hold_4 : decode cX7_hold 4 = .ok (.invokestatic 60, 3) := by decide +kernel
theorem dX7_hold_7 : decode cX7_hold 7 = .ok (.ifCond .eq 16, 3) := by decide +kernel
theorem dX7_hold_10 : decode cX7_hold 10 = .ok (.iload_n 2, 1) := by decide +kernel
theorem dX7_hold_11 : decode cX7_hold 11 = .ok (.iconst (-1), 1) := by decide +kernel
theorem dX7_hold_12 : decode cX7_hold 12 = .ok (.if_icmp .eq 18, 3) := by decide +kernel
theorem dX7_hold_15 : decode cX7_hold 15 = .ok (.aload_n 0, 1) := by decide +kernel
theorem dX7_hold_16 : decode cX7_hold 16 = .ok (.iload_n 2, 1) := by decide +kernel
theorem dX7_hold_17 : decode cX7_hold 17 = .ok (.invokevirtual 93, 3) := by decide +kernel
theorem dX7_hold_20 : decode cX7_hold 20 = .ok (.ifCond .ne 10, 3) := by decide +kernel
theorem dX7_hold_23 : decode cX7_hold 23 = .ok (.aload_n 0, 1) := by decide +kernel
theorem dX7_hold_24 : decode cX7_hold 24 = .ok (.ldc 64, 2) := by decide +kernel
theorem dX7_hold_26 : decode cX7_hold 26 = .ok (.invokevirtual 65, 3) := by decide +kernel
theorem dX7_hold_29 : decode cX7_hold 29 = .ok (.ireturn, 1) := by decide +kernel
theorem dX7_hold_30 : decode cX7_hold 30 = .ok (.aload_n 0, 1) := by decide +kernel
theorem dX7_hold_31 : decode cX7_hold 31 = .ok (.getfield 12, 3) := by decide +kernel
theorem dX7_hold_34 : decode cX7_hold 34 = .ok (.getfield 271, 3) := by decide +kernel
theorem dX7_hold_37 : decode cX7_hold 37 = .ok (.iload_n 1, 1) := by decide +kernel
theorem dX7_hold_38 : decode cX7_hold 38 = .ok (.iload_n 2, 1) := by decide +kernel
theorem dX7_hold_39 : decode cX7_hold 39 = .ok (.iastore, 1) := by decide +kernel
theorem dX7_hold_40 : decode cX7_hold 40 = .ok (.iconst 1, 1) := by decide +kernel
theorem dX7_hold_41 : decode cX7_hold 41 = .ok (.ireturn, 1) := by decide +kernel
theorem dX7_as_0 : decode cX7_as 0 = .ok (.iload_n 1, 1) := by decide +kernel
theorem dX7_as_1 : decode cX7_as 1 = .ok (.iconst 0, 1) := by decide +kernel
theorem dX7_as_2 : decode cX7_as 2 = .ok (.bipush 9, 2) := by decide +kernel
theorem dX7_as_4 : decode cX7_as 4 = .ok (.invokestatic 60, 3) := by decide +kernel
theorem dX7_as_7 : decode cX7_as 7 = .ok (.ifCond .eq 10, 3) := by decide +kernel
theorem dX7_as_10 : decode cX7_as 10 = .ok (.iload_n 2, 1) := by decide +kernel
theorem dX7_as_11 : decode cX7_as 11 = .ok (.invokestatic 81, 3) := by decide +kernel
theorem dX7_as_14 : decode cX7_as 14 = .ok (.ifCond .ne 10, 3) := by decide +kernel
theorem dX7_as_17 : decode cX7_as 17 = .ok (.aload_n 0, 1) := by decide +kernel
theorem dX7_as_18 : decode cX7_as 18 = .ok (.ldc 64, 2) := by decide +kernel
theorem dX7_as_20 : decode cX7_as 20 = .ok (.invokevirtual 65, 3) := by decide +kernel
theorem dX7_as_23 : decode cX7_as 23 = .ok (.ireturn, 1) := by decide +kernel
theorem dX7_as_24 : decode cX7_as 24 = .ok (.aload_n 0, 1) := by decide +kernel
theorem dX7_as_25 : decode cX7_as 25 = .ok (.getfield 12, 3) := by decide +kernel
theorem dX7_as_28 : decode cX7_as 28 = .ok (.getfield 271, 3) := by decide +kernel
theorem dX7_as_31 : decode cX7_as 31 = .ok (.iload_n 1, 1) := by decide +kernel
theorem dX7_as_32 : decode cX7_as 32 = .ok (.iaload, 1) := by decide +kernel
theorem dX7_as_33 : decode cX7_as 33 = .ok (.istore_n 3, 1) := by decide +kernel
theorem dX7_as_34 : decode cX7_as 34 = .ok (.aload_n 0, 1) := by decide +kernel
theorem dX7_as_35 : decode cX7_as 35 = .ok (.iload_n 3, 1) := by decide +kernel
theorem dX7_as_36 : decode cX7_as 36 = .ok (.invokevirtual 93, 3) := by decide +kernel
theorem dX7_as_39 : decode cX7_as 39 = .ok (.ifCond .ne 11, 3) := by decide +kernel
theorem dX7_as_42 : decode cX7_as 42 = .ok (.aload_n 0, 1) := by decide +kernel
theorem dX7_as_43 : decode cX7_as 43 = .ok (.ldc_w 274, 3) := by decide +kernel
theorem dX7_as_46 : decode cX7_as 46 = .ok (.invokevirtual 65, 3) := by decide +kernel
theorem dX7_as_49 : decode cX7_as 49 = .ok (.ireturn, 1) := by decide +kernel
theorem dX7_as_50 : decode cX7_as 50 = .ok (.aload_n 0, 1) := by decide +kernel
theorem dX7_as_51 : decode cX7_as 51 = .ok (.getfield 12, 3) := by decide +kernel
theorem dX7_as_54 : decode cX7_as 54 = .ok (.getfield 228, 3) := by decide +kernel
theorem dX7_as_57 : decode cX7_as 57 = .ok (.iload_n 3, 1) := by decide +kernel
theorem dX7_as_58 : decode cX7_as 58 = .ok (.iaload, 1) := by decide +kernel
theorem dX7_as_59 : decode cX7_as 59 = .ok (.iload_n 2, 1) := by decide +kernel
theorem dX7_as_60 : decode cX7_as 60 = .ok (.invokestatic 275, 3) := by decide +kernel
theorem dX7_as_63 : decode cX7_as 63 = .ok (.ifCond .eq 7, 3) := by decide +kernel
theorem dX7_as_66 : decode cX7_as 66 = .ok (.iload_n 3, 1) := by decide +kernel
theorem dX7_as_67 : decode cX7_as 67 = .ok (.goto 10, 3) := by decide +kernel
theorem dX7_as_70 : decode cX7_as 70 = .ok (.aload_n 0, 1) := by decide +kernel
theorem dX7_as_71 : decode cX7_as 71 = .ok (.ldc_w 280, 3) := by decide +kernel
theorem dX7_as_74 : decode cX7_as 74 = .ok (.invokevirtual 65, 3) := by decide +kernel
theorem dX7_as_77 : decode cX7_as 77 = .ok (.ireturn, 1) := by decide +kernel
theorem dX7_sheet_0 : decode cX7_sheet 0 = .ok (.iload_n 1, 1) := by decide +kernel
theorem dX7_sheet_1 : decode cX7_sheet 1 = .ok (.invokestatic 281, 3) := by decide +kernel
theorem dX7_sheet_4 : decode cX7_sheet 4 = .ok (.ifCond .eq 25, 3) := by decide +kernel
theorem dX7_sheet_7 : decode cX7_sheet 7 = .ok (.iload_n 2, 1) := by decide +kernel
theorem dX7_sheet_8 : decode cX7_sheet 8 = .ok (.ifCond .eq 28, 3) := by decide +kernel
theorem dX7_sheet_11 : decode cX7_sheet 11 = .ok (.iload_n 2, 1) := by decide +kernel
theorem dX7_sheet_12 : decode cX7_sheet 12 = .ok (.bipush 8, 2) := by decide +kernel
theorem dX7_sheet_14 : decode cX7_sheet 14 = .ok (.if_icmp .eq 22, 3) := by decide +kernel
theorem dX7_sheet_17 : decode cX7_sheet 17 = .ok (.iload_n 2, 1) := by decide +kernel
theorem dX7_sheet_18 : decode cX7_sheet 18 = .ok (.bipush 16, 2) := by decide +kernel
theorem dX7_sheet_20 : decode cX7_sheet 20 = .ok (.if_icmp .eq 16, 3) := by decide +kernel
theorem dX7_sheet_23 : decode cX7_sheet 23 = .ok (.iload_n 2, 1) := by decide +kernel
theorem dX7_sheet_24 : decode cX7_sheet 24 = .ok (.bipush 32, 2) := by decide +kernel
theorem dX7_sheet_26 : decode cX7_sheet 26 = .ok (.if_icmp .eq 10, 3) := by decide +kernel
theorem dX7_sheet_29 : decode cX7_sheet 29 = .ok (.aload_n 0, 1) := by decide +kernel
theorem dX7_sheet_30 : decode cX7_sheet 30 = .ok (.ldc 64, 2) := by decide +kernel
theorem dX7_sheet_32 : decode cX7_sheet 32 = .ok (.invokevirtual 65, 3) := by decide +kernel
theorem dX7_sheet_35 : decode cX7_sheet 35 = .ok (.ireturn, 1) := by decide +kernel
theorem dX7_sheet_36 : decode cX7_sheet 36 = .ok (.iload_n 3, 1) := by decide +kernel
theorem dX7_sheet_37 : decode cX7_sheet 37 = .ok (.ifCond .ge 10, 3) := by decide +kernel
theorem dX7_sheet_40 : decode cX7_sheet 40 = .ok (.aload_n 0, 1) := by decide +kernel
theorem dX7_sheet_41 : decode cX7_sheet 41 = .ok (.ldc 243, 2) := by decide +kernel
theorem dX7_sheet_43 : decode cX7_sheet 43 = .ok (.invokevirtual 65, 3) := by decide +kernel
theorem dX7_sheet_46 : decode cX7_sheet 46 = .ok (.ireturn, 1) := by decide +kernel
theorem dX7_sheet_47 : decode cX7_sheet 47 = .ok (.iload_n 3, 1) := by decide +kernel
theorem dX7_sheet_48 : decode cX7_sheet 48 = .ok (.bipush 40, 2) := by decide +kernel
theorem dX7_sheet_50 : decode cX7_sheet 50 = .ok (.if_icmp .le 10, 3) := by decide +kernel
theorem dX7_sheet_53 : decode cX7_sheet 53 = .ok (.aload_n 0, 1) := by decide +kernel
theorem dX7_sheet_54 : decode cX7_sheet 54 = .ok (.ldc 64, 2) := by decide +kernel
theorem dX7_sheet_56 : decode cX7_sheet 56 = .ok (.invokevirtual 65, 3) := by decide +kernel
theorem dX7_sheet_59 : decode cX7_sheet 59 = .ok (.ireturn, 1) := by decide +kernel
theorem dX7_sheet_60 : decode cX7_sheet 60 = .ok (.aload_n 0, 1) := by decide +kernel
theorem dX7_sheet_61 : decode cX7_sheet 61 = .ok (.getfield 47, 3) := by decide +kernel
theorem dX7_sheet_64 : decode cX7_sheet 64 = .ok (.iload_n 1, 1) := by decide +kernel
theorem dX7_sheet_65 : decode cX7_sheet 65 = .ok (.aaload, 1) := by decide +kernel
theorem dX7_sheet_66 : decode cX7_sheet 66 = .ok (.iload_n 2, 1) := by decide +kernel
theorem dX7_sheet_67 : decode cX7_sheet 67 = .ok (.iload_n 3, 1) := by decide +kernel
theorem dX7_sheet_68 : decode cX7_sheet 68 = .ok (.invokevirtual 284, 3) := by decide +kernel
theorem dX7_sheet_71 : decode cX7_sheet 71 = .ok (.aload_n 0, 1) := by decide +kernel
theorem dX7_sheet_72 : decode cX7_sheet 72 = .ok (.getfield 47, 3) := by decide +kernel
theorem dX7_sheet_75 : decode cX7_sheet 75 = .ok (.iload_n 1, 1) := by decide +kernel
theorem dX7_sheet_76 : decode cX7_sheet 76 = .ok (.aaload, 1) := by decide +kernel
theorem dX7_sheet_77 : decode cX7_sheet 77 = .ok (.getfield 287, 3) := by decide +kernel
theorem dX7_sheet_80 : decode cX7_sheet 80 = .ok (.ireturn, 1) := by decide +kernel
theorem dX7_write_0 : decode cX7_write 0 = .ok (.iload_n 1, 1) := by decide +kernel
theorem dX7_write_1 : decode cX7_write 1 = .ok (.invokestatic 281, 3) := by decide +kernel
theorem dX7_write_4 : decode cX7_write 4 = .ok (.ifCond .ne 10, 3) := by decide +kernel
theorem dX7_write_7 : decode cX7_write 7 = .ok (.aload_n 0, 1) := by decide +kernel
theorem dX7_write_8 : decode cX7_write 8 = .ok (.ldc 64, 2) := by decide +kernel
theorem dX7_write_10 : decode cX7_write 10 = .ok (.invokevirtual 65, 3) := by decide +kernel
theorem dX7_write_13 : decode cX7_write 13 = .ok (.ireturn, 1) := by decide +kernel
theorem dX7_write_14 : decode cX7_write 14 = .ok (.aload_n 0, 1) := by decide +kernel
theorem dX7_write_15 : decode cX7_write 15 = .ok (.getfield 47, 3) := by decide +kernel
theorem dX7_write_18 : decode cX7_write 18 = .ok (.iload_n 1, 1) := by decide +kernel
theorem dX7_write_19 : decode cX7_write 19 = .ok (.aaload, 1) := by decide +kernel
theorem dX7_write_20 : decode cX7_write 20 = .ok (.invokevirtual 288, 3) := by decide +kernel
theorem dX7_write_23 : decode cX7_write 23 = .ok (.ifCond .eq 11, 3) := by decide +kernel
theorem dX7_write_26 : decode cX7_write 26 = .ok (.aload_n 0, 1) := by decide +kernel
theorem dX7_write_27 : decode cX7_write 27 = .ok (.ldc_w 274, 3) := by decide +kernel
theorem dX7_write_30 : decode cX7_write 30 = .ok (.invokevirtual 65, 3) := by decide +kernel
theorem dX7_write_33 : decode cX7_write 33 = .ok (.ireturn, 1) := by decide +kernel
theorem dX7_write_34 : decode cX7_write 34 = .ok (.iload_n 2, 1) := by decide +kernel
theorem dX7_write_35 : decode cX7_write 35 = .ok (.iconst 0, 1) := by decide +kernel
theorem dX7_write_36 : decode cX7_write 36 = .ok (.aload_n 0, 1) := by decide +kernel
theorem dX7_write_37 : decode cX7_write 37 = .ok (.getfield 47, 3) := by decide +kernel
theorem dX7_write_40 : decode cX7_write 40 = .ok (.iload_n 1, 1) := by decide +kernel
theorem dX7_write_41 : decode cX7_write 41 = .ok (.aaload, 1) := by decide +kernel
theorem dX7_write_42 : decode cX7_write 42 = .ok (.getfield 287, 3) := by decide +kernel
theorem dX7_write_45 : decode cX7_write 45 = .ok (.iconst 1, 1) := by decide +kernel
theorem dX7_write_46 : decode cX7_write 46 = .ok (.isub, 1) := by decide +kernel
theorem dX7_write_47 : decode cX7_write 47 = .ok (.invokestatic 60, 3) := by decide +kernel
theorem dX7_write_50 : decode cX7_write 50 = .ok (.ifCond .ne 10, 3) := by decide +kernel
theorem dX7_write_53 : decode cX7_write 53 = .ok (.aload_n 0, 1) := by decide +kernel
theorem dX7_write_54 : decode cX7_write 54 = .ok (.ldc 64, 2) := by decide +kernel
theorem dX7_write_56 : decode cX7_write 56 = .ok (.invokevirtual 65, 3) := by decide +kernel
theorem dX7_write_59 : decode cX7_write 59 = .ok (.ireturn, 1) := by decide +kernel
theorem dX7_write_60 : decode cX7_write 60 = .ok (.aload_n 0, 1) := by decide +kernel
theorem dX7_write_61 : decode cX7_write 61 = .ok (.getfield 47, 3) := by decide +kernel
theorem dX7_write_64 : decode cX7_write 64 = .ok (.iload_n 1, 1) := by decide +kernel
theorem dX7_write_65 : decode cX7_write 65 = .ok (.aaload, 1) := by decide +kernel
theorem dX7_write_66 : decode cX7_write 66 = .ok (.iload_n 2, 1) := by decide +kernel
theorem dX7_write_67 : decode cX7_write 67 = .ok (.iload_n 3, 1) := by decide +kernel
theorem dX7_write_68 : decode cX7_write 68 = .ok (.invokevirtual 292, 3) := by decide +kernel
theorem dX7_write_71 : decode cX7_write 71 = .ok (.iconst 1, 1) := by decide +kernel
theorem dX7_write_72 : decode cX7_write 72 = .ok (.ireturn, 1) := by decide +kernel
theorem dX7_copy_0 : decode cX7_copy 0 = .ok (.iload_n 1, 1) := by decide +kernel
theorem dX7_copy_1 : decode cX7_copy 1 = .ok (.invokestatic 281, 3) := by decide +kernel
theorem dX7_copy_4 : decode cX7_copy 4 = .ok (.ifCond .eq 10, 3) := by decide +kernel
theorem dX7_copy_7 : decode cX7_copy 7 = .ok (.iload_n 3, 1) := by decide +kernel
theorem dX7_copy_8 : decode cX7_copy 8 = .ok (.invokestatic 281, 3) := by decide +kernel
theorem dX7_copy_11 : decode cX7_copy 11 = .ok (.ifCond .ne 10, 3) := by decide +kernel
theorem dX7_copy_14 : decode cX7_copy 14 = .ok (.aload_n 0, 1) := by decide +kernel
theorem dX7_copy_15 : decode cX7_copy 15 = .ok (.ldc 64, 2) := by decide +kernel
theorem dX7_copy_17 : decode cX7_copy 17 = .ok (.invokevirtual 65, 3) := by decide +kernel
theorem dX7_copy_20 : decode cX7_copy 20 = .ok (.ireturn, 1) := by decide +kernel
theorem dX7_copy_21 : decode cX7_copy 21 = .ok (.aload_n 0, 1) := by decide +kernel
theorem dX7_copy_22 : decode cX7_copy 22 = .ok (.getfield 47, 3) := by decide +kernel
theorem dX7_copy_25 : decode cX7_copy 25 = .ok (.iload_n 1, 1) := by decide +kernel
theorem dX7_copy_26 : decode cX7_copy 26 = .ok (.aaload, 1) := by decide +kernel
theorem dX7_copy_27 : decode cX7_copy 27 = .ok (.invokevirtual 288, 3) := by decide +kernel
theorem dX7_copy_30 : decode cX7_copy 30 = .ok (.ifCond .ne 15, 3) := by decide +kernel
theorem dX7_copy_33 : decode cX7_copy 33 = .ok (.aload_n 0, 1) := by decide +kernel
theorem dX7_copy_34 : decode cX7_copy 34 = .ok (.getfield 47, 3) := by decide +kernel
theorem dX7_copy_37 : decode cX7_copy 37 = .ok (.iload_n 3, 1) := by decide +kernel
theorem dX7_copy_38 : decode cX7_copy 38 = .ok (.aaload, 1) := by decide +kernel
theorem dX7_copy_39 : decode cX7_copy 39 = .ok (.invokevirtual 288, 3) := by decide +kernel
theorem dX7_copy_42 : decode cX7_copy 42 = .ok (.ifCond .eq 11, 3) := by decide +kernel
theorem dX7_copy_45 : decode cX7_copy 45 = .ok (.aload_n 0, 1) := by decide +kernel
theorem dX7_copy_46 : decode cX7_copy 46 = .ok (.ldc_w 274, 3) := by decide +kernel
theorem dX7_copy_49 : decode cX7_copy 49 = .ok (.invokevirtual 65, 3) := by decide +kernel
theorem dX7_copy_52 : decode cX7_copy 52 = .ok (.ireturn, 1) := by decide +kernel
theorem dX7_copy_53 : decode cX7_copy 53 = .ok (.aload_n 0, 1) := by decide +kernel
theorem dX7_copy_54 : decode cX7_copy 54 = .ok (.getfield 47, 3) := by decide +kernel
theorem dX7_copy_57 : decode cX7_copy 57 = .ok (.iload_n 1, 1) := by decide +kernel
theorem dX7_copy_58 : decode cX7_copy 58 = .ok (.aaload, 1) := by decide +kernel
theorem dX7_copy_59 : decode cX7_copy 59 = .ok (.getfield 295, 3) := by decide +kernel
theorem dX7_copy_62 : decode cX7_copy 62 = .ok (.aload_n 0, 1) := by decide +kernel
theorem dX7_copy_63 : decode cX7_copy 63 = .ok (.getfield 47, 3) := by decide +kernel
theorem dX7_copy_66 : decode cX7_copy 66 = .ok (.iload_n 3, 1) := by decide +kernel
theorem dX7_copy_67 : decode cX7_copy 67 = .ok (.aaload, 1) := by decide +kernel
theorem dX7_copy_68 : decode cX7_copy 68 = .ok (.getfield 295, 3) := by decide +kernel
theorem dX7_copy_71 : decode cX7_copy 71 = .ok (.if_icmp .eq 11, 3) := by decide +kernel
theorem dX7_copy_74 : decode cX7_copy 74 = .ok (.aload_n 0, 1) := by decide +kernel
theorem dX7_copy_75 : decode cX7_copy 75 = .ok (.ldc_w 280, 3) := by decide +kernel
theorem dX7_copy_78 : decode cX7_copy 78 = .ok (.invokevirtual 65, 3) := by decide +kernel
theorem dX7_copy_81 : decode cX7_copy 81 = .ok (.ireturn, 1) := by decide +kernel
theorem dX7_copy_82 : decode cX7_copy 82 = .ok (.aload_n 0, 1) := by decide +kernel
theorem dX7_copy_83 : decode cX7_copy 83 = .ok (.getfield 47, 3) := by decide +kernel
theorem dX7_copy_86 : decode cX7_copy 86 = .ok (.iload_n 1, 1) := by decide +kernel
theorem dX7_copy_87 : decode cX7_copy 87 = .ok (.aaload, 1) := by decide +kernel
theorem dX7_copy_88 : decode cX7_copy 88 = .ok (.iload_n 2, 1) := by decide +kernel
theorem dX7_copy_89 : decode cX7_copy 89 = .ok (.iload 5, 2) := by decide +kernel
theorem dX7_copy_91 : decode cX7_copy 91 = .ok (.invokevirtual 298, 3) := by decide +kernel
theorem dX7_copy_94 : decode cX7_copy 94 = .ok (.ifCond .eq 19, 3) := by decide +kernel
theorem dX7_copy_97 : decode cX7_copy 97 = .ok (.aload_n 0, 1) := by decide +kernel
theorem dX7_copy_98 : decode cX7_copy 98 = .ok (.getfield 47, 3) := by decide +kernel
theorem dX7_copy_101 : decode cX7_copy 101 = .ok (.iload_n 3, 1) := by decide +kernel
theorem dX7_copy_102 : decode cX7_copy 102 = .ok (.aaload, 1) := by decide +kernel
theorem dX7_copy_103 : decode cX7_copy 103 = .ok (.iload 4, 2) := by decide +kernel
theorem dX7_copy_105 : decode cX7_copy 105 = .ok (.iload 5, 2) := by decide +kernel
theorem dX7_copy_107 : decode cX7_copy 107 = .ok (.invokevirtual 298, 3) := by decide +kernel
theorem dX7_copy_110 : decode cX7_copy 110 = .ok (.ifCond .ne 10, 3) := by decide +kernel
theorem dX7_copy_113 : decode cX7_copy 113 = .ok (.aload_n 0, 1) := by decide +kernel
theorem dX7_copy_114 : decode cX7_copy 114 = .ok (.ldc 64, 2) := by decide +kernel
theorem dX7_copy_116 : decode cX7_copy 116 = .ok (.invokevirtual 65, 3) := by decide +kernel
theorem dX7_copy_119 : decode cX7_copy 119 = .ok (.ireturn, 1) := by decide +kernel
theorem dX7_copy_120 : decode cX7_copy 120 = .ok (.aload_n 0, 1) := by decide +kernel
theorem dX7_copy_121 : decode cX7_copy 121 = .ok (.getfield 47, 3) := by decide +kernel
theorem dX7_copy_124 : decode cX7_copy 124 = .ok (.iload_n 1, 1) := by decide +kernel
theorem dX7_copy_125 : decode cX7_copy 125 = .ok (.aaload, 1) := by decide +kernel
theorem dX7_copy_126 : decode cX7_copy 126 = .ok (.getfield 301, 3) := by decide +kernel
theorem dX7_copy_129 : decode cX7_copy 129 = .ok (.iload_n 2, 1) := by decide +kernel
theorem dX7_copy_130 : decode cX7_copy 130 = .ok (.aload_n 0, 1) := by decide +kernel
theorem dX7_copy_131 : decode cX7_copy 131 = .ok (.getfield 47, 3) := by decide +kernel
theorem dX7_copy_134 : decode cX7_copy 134 = .ok (.iload_n 3, 1) := by decide +kernel
theorem dX7_copy_135 : decode cX7_copy 135 = .ok (.aaload, 1) := by decide +kernel
theorem dX7_copy_136 : decode cX7_copy 136 = .ok (.getfield 301, 3) := by decide +kernel
theorem dX7_copy_139 : decode cX7_copy 139 = .ok (.iload 4, 2) := by decide +kernel
theorem dX7_copy_141 : decode cX7_copy 141 = .ok (.iload 5, 2) := by decide +kernel
theorem dX7_copy_143 : decode cX7_copy 143 = .ok (.invokestatic 304, 3) := by decide +kernel
theorem dX7_copy_146 : decode cX7_copy 146 = .ok (.iload 5, 2) := by decide +kernel
theorem dX7_copy_148 : decode cX7_copy 148 = .ok (.ireturn, 1) := by decide +kernel
theorem dX7_load_0 : decode cX7_load 0 = .ok (.iload_n 1, 1) := by decide +kernel
theorem dX7_load_1 : decode cX7_load 1 = .ok (.invokestatic 281, 3) := by decide +kernel
theorem dX7_load_4 : decode cX7_load 4 = .ok (.ifCond .ne 10, 3) := by decide +kernel
theorem dX7_load_7 : decode cX7_load 7 = .ok (.aload_n 0, 1) := by decide +kernel
theorem dX7_load_8 : decode cX7_load 8 = .ok (.ldc 64, 2) := by decide +kernel
theorem dX7_load_10 : decode cX7_load 10 = .ok (.invokevirtual 65, 3) := by decide +kernel
theorem dX7_load_13 : decode cX7_load 13 = .ok (.ireturn, 1) := by decide +kernel
theorem dX7_load_14 : decode cX7_load 14 = .ok (.aload_n 0, 1) := by decide +kernel
theorem dX7_load_15 : decode cX7_load 15 = .ok (.getfield 47, 3) := by decide +kernel
theorem dX7_load_18 : decode cX7_load 18 = .ok (.iload_n 1, 1) := by decide +kernel
theorem dX7_load_19 : decode cX7_load 19 = .ok (.aaload, 1) := by decide +kernel
theorem dX7_load_20 : decode cX7_load 20 = .ok (.invokevirtual 288, 3) := by decide +kernel
theorem dX7_load_23 : decode cX7_load 23 = .ok (.ifCond .eq 11, 3) := by decide +kernel
theorem dX7_load_26 : decode cX7_load 26 = .ok (.aload_n 0, 1) := by decide +kernel
theorem dX7_load_27 : decode cX7_load 27 = .ok (.ldc_w 274, 3) := by decide +kernel
theorem dX7_load_30 : decode cX7_load 30 = .ok (.invokevirtual 65, 3) := by decide +kernel
theorem dX7_load_33 : decode cX7_load 33 = .ok (.ireturn, 1) := by decide +kernel
theorem dX7_load_34 : decode cX7_load 34 = .ok (.iconst 0, 1) := by decide +kernel
theorem dX7_load_35 : decode cX7_load 35 = .ok (.istore_n 2, 1) := by decide +kernel
theorem dX7_load_36 : decode cX7_load 36 = .ok (.iconst 0, 1) := by decide +kernel
theorem dX7_load_37 : decode cX7_load 37 = .ok (.istore_n 3, 1) := by decide +kernel
theorem dX7_load_38 : decode cX7_load 38 = .ok (.iload_n 3, 1) := by decide +kernel
theorem dX7_load_39 : decode cX7_load 39 = .ok (.aload_n 0, 1) := by decide +kernel
theorem dX7_load_40 : decode cX7_load 40 = .ok (.getfield 47, 3) := by decide +kernel
theorem dX7_load_43 : decode cX7_load 43 = .ok (.iload_n 1, 1) := by decide +kernel
theorem dX7_load_44 : decode cX7_load 44 = .ok (.aaload, 1) := by decide +kernel
theorem dX7_load_45 : decode cX7_load 45 = .ok (.getfield 287, 3) := by decide +kernel
theorem dX7_load_48 : decode cX7_load 48 = .ok (.if_icmp .ge 55, 3) := by decide +kernel
theorem dX7_load_51 : decode cX7_load 51 = .ok (.aload_n 0, 1) := by decide +kernel
theorem dX7_load_52 : decode cX7_load 52 = .ok (.iload_n 3, 1) := by decide +kernel
theorem dX7_load_53 : decode cX7_load 53 = .ok (.invokevirtual 93, 3) := by decide +kernel
theorem dX7_load_56 : decode cX7_load 56 = .ok (.ifCond .eq 47, 3) := by decide +kernel
theorem dX7_load_59 : decode cX7_load 59 = .ok (.aload_n 0, 1) := by decide +kernel
theorem dX7_load_60 : decode cX7_load 60 = .ok (.getfield 47, 3) := by decide +kernel
theorem dX7_load_63 : decode cX7_load 63 = .ok (.iload_n 1, 1) := by decide +kernel
theorem dX7_load_64 : decode cX7_load 64 = .ok (.aaload, 1) := by decide +kernel
theorem dX7_load_65 : decode cX7_load 65 = .ok (.getfield 301, 3) := by decide +kernel
theorem dX7_load_68 : decode cX7_load 68 = .ok (.iload_n 3, 1) := by decide +kernel
theorem dX7_load_69 : decode cX7_load 69 = .ok (.iaload, 1) := by decide +kernel
theorem dX7_load_70 : decode cX7_load 70 = .ok (.istore 4, 2) := by decide +kernel
theorem dX7_load_72 : decode cX7_load 72 = .ok (.iload 4, 2) := by decide +kernel
theorem dX7_load_74 : decode cX7_load 74 = .ok (.invokestatic 56, 3) := by decide +kernel
theorem dX7_load_77 : decode cX7_load 77 = .ok (.ifCond .ne 6, 3) := by decide +kernel
theorem dX7_load_80 : decode cX7_load 80 = .ok (.goto 23, 3) := by decide +kernel
theorem dX7_load_83 : decode cX7_load 83 = .ok (.aload_n 0, 1) := by decide +kernel
theorem dX7_load_84 : decode cX7_load 84 = .ok (.getfield 12, 3) := by decide +kernel
theorem dX7_load_87 : decode cX7_load 87 = .ok (.getfield 159, 3) := by decide +kernel
theorem dX7_load_90 : decode cX7_load 90 = .ok (.iload_n 3, 1) := by decide +kernel
theorem dX7_load_91 : decode cX7_load 91 = .ok (.iload 4, 2) := by decide +kernel
theorem dX7_load_93 : decode cX7_load 93 = .ok (.iastore, 1) := by decide +kernel
theorem dX7_load_94 : decode cX7_load 94 = .ok (.iinc 2 1, 3) := by decide +kernel
theorem dX7_load_97 : decode cX7_load 97 = .ok (.iinc 3 1, 3) := by decide +kernel
theorem dX7_load_100 : decode cX7_load 100 = .ok (.goto (-62), 3) := by decide +kernel
theorem dX7_load_103 : decode cX7_load 103 = .ok (.iload_n 2, 1) := by decide +kernel
theorem dX7_load_104 : decode cX7_load 104 = .ok (.ireturn, 1) := by decide +kernel
theorem dX7_judge_0 : decode cX7_judge 0 = .ok (.iload_n 1, 1) := by decide +kernel
theorem dX7_judge_1 : decode cX7_judge 1 = .ok (.invokestatic 281, 3) := by decide +kernel
theorem dX7_judge_4 : decode cX7_judge 4 = .ok (.ifCond .ne 10, 3) := by decide +kernel
theorem dX7_judge_7 : decode cX7_judge 7 = .ok (.aload_n 0, 1) := by decide +kernel
theorem dX7_judge_8 : decode cX7_judge 8 = .ok (.ldc 64, 2) := by decide +kernel
theorem dX7_judge_10 : decode cX7_judge 10 = .ok (.invokevirtual 65, 3) := by decide +kernel
theorem dX7_judge_13 : decode cX7_judge 13 = .ok (.ireturn, 1) := by decide +kernel
theorem dX7_judge_14 : decode cX7_judge 14 = .ok (.aload_n 0, 1) := by decide +kernel
theorem dX7_judge_15 : decode cX7_judge 15 = .ok (.getfield 47, 3) := by decide +kernel
theorem dX7_judge_18 : decode cX7_judge 18 = .ok (.iload_n 1, 1) := by decide +kernel
theorem dX7_judge_19 : decode cX7_judge 19 = .ok (.aaload, 1) := by decide +kernel
theorem dX7_judge_20 : decode cX7_judge 20 = .ok (.invokevirtual 288, 3) := by decide +kernel
theorem dX7_judge_23 : decode cX7_judge 23 = .ok (.ifCond .eq 11, 3) := by decide +kernel
theorem dX7_judge_26 : decode cX7_judge 26 = .ok (.aload_n 0, 1) := by decide +kernel
theorem dX7_judge_27 : decode cX7_judge 27 = .ok (.ldc_w 274, 3) := by decide +kernel
theorem dX7_judge_30 : decode cX7_judge 30 = .ok (.invokevirtual 65, 3) := by decide +kernel
theorem dX7_judge_33 : decode cX7_judge 33 = .ok (.ireturn, 1) := by decide +kernel
theorem dX7_judge_34 : decode cX7_judge 34 = .ok (.aload_n 0, 1) := by decide +kernel
theorem dX7_judge_35 : decode cX7_judge 35 = .ok (.iload_n 2, 1) := by decide +kernel
theorem dX7_judge_36 : decode cX7_judge 36 = .ok (.invokevirtual 118, 3) := by decide +kernel
theorem dX7_judge_39 : decode cX7_judge 39 = .ok (.ifCond .ne 10, 3) := by decide +kernel
theorem dX7_judge_42 : decode cX7_judge 42 = .ok (.aload_n 0, 1) := by decide +kernel
theorem dX7_judge_43 : decode cX7_judge 43 = .ok (.ldc 64, 2) := by decide +kernel
theorem dX7_judge_45 : decode cX7_judge 45 = .ok (.invokevirtual 65, 3) := by decide +kernel
theorem dX7_judge_48 : decode cX7_judge 48 = .ok (.ireturn, 1) := by decide +kernel
theorem dX7_judge_49 : decode cX7_judge 49 = .ok (.lconst 1, 1) := by decide +kernel
theorem dX7_judge_50 : decode cX7_judge 50 = .ok (.aload_n 0, 1) := by decide +kernel
theorem dX7_judge_51 : decode cX7_judge 51 = .ok (.getfield 12, 3) := by decide +kernel
theorem dX7_judge_54 : decode cX7_judge 54 = .ok (.getfield 138, 3) := by decide +kernel
theorem dX7_judge_57 : decode cX7_judge 57 = .ok (.iload_n 2, 1) := by decide +kernel
theorem dX7_judge_58 : decode cX7_judge 58 = .ok (.iaload, 1) := by decide +kernel
theorem dX7_judge_59 : decode cX7_judge 59 = .ok (.lshl, 1) := by decide +kernel
theorem dX7_judge_60 : decode cX7_judge 60 = .ok (.lstore_n 3, 1) := by decide +kernel
theorem dX7_judge_61 : decode cX7_judge 61 = .ok (.iconst 0, 1) := by decide +kernel
theorem dX7_judge_62 : decode cX7_judge 62 = .ok (.istore 5, 2) := by decide +kernel
theorem dX7_judge_64 : decode cX7_judge 64 = .ok (.iload 5, 2) := by decide +kernel
theorem dX7_judge_66 : decode cX7_judge 66 = .ok (.aload_n 0, 1) := by decide +kernel
theorem dX7_judge_67 : decode cX7_judge 67 = .ok (.getfield 47, 3) := by decide +kernel
theorem dX7_judge_70 : decode cX7_judge 70 = .ok (.iload_n 1, 1) := by decide +kernel
theorem dX7_judge_71 : decode cX7_judge 71 = .ok (.aaload, 1) := by decide +kernel
theorem dX7_judge_72 : decode cX7_judge 72 = .ok (.getfield 287, 3) := by decide +kernel
theorem dX7_judge_75 : decode cX7_judge 75 = .ok (.if_icmp .ge 59, 3) := by decide +kernel
theorem dX7_judge_78 : decode cX7_judge 78 = .ok (.aload_n 0, 1) := by decide +kernel
theorem dX7_judge_79 : decode cX7_judge 79 = .ok (.getfield 47, 3) := by decide +kernel
theorem dX7_judge_82 : decode cX7_judge 82 = .ok (.iload_n 1, 1) := by decide +kernel
theorem dX7_judge_83 : decode cX7_judge 83 = .ok (.aaload, 1) := by decide +kernel
theorem dX7_judge_84 : decode cX7_judge 84 = .ok (.getfield 301, 3) := by decide +kernel
theorem dX7_judge_87 : decode cX7_judge 87 = .ok (.iload 5, 2) := by decide +kernel
theorem dX7_judge_89 : decode cX7_judge 89 = .ok (.iaload, 1) := by decide +kernel
theorem dX7_judge_90 : decode cX7_judge 90 = .ok (.istore 6, 2) := by decide +kernel
theorem dX7_judge_92 : decode cX7_judge 92 = .ok (.iload 6, 2) := by decide +kernel
theorem dX7_judge_94 : decode cX7_judge 94 = .ok (.invokestatic 109, 3) := by decide +kernel
theorem dX7_judge_97 : decode cX7_judge 97 = .ok (.ifCond .eq 14, 3) := by decide +kernel
theorem dX7_judge_100 : decode cX7_judge 100 = .ok (.lload_n 3, 1) := by decide +kernel
theorem dX7_judge_101 : decode cX7_judge 101 = .ok (.iload 6, 2) := by decide +kernel
theorem dX7_judge_103 : decode cX7_judge 103 = .ok (.lushr, 1) := by decide +kernel
theorem dX7_judge_104 : decode cX7_judge 104 = .ok (.lconst 1, 1) := by decide +kernel
theorem dX7_judge_105 : decode cX7_judge 105 = .ok (.land, 1) := by decide +kernel
theorem dX7_judge_106 : decode cX7_judge 106 = .ok (.lconst 0, 1) := by decide +kernel
theorem dX7_judge_107 : decode cX7_judge 107 = .ok (.lcmp, 1) := by decide +kernel
theorem dX7_judge_108 : decode cX7_judge 108 = .ok (.ifCond .ne 8, 3) := by decide +kernel
theorem dX7_judge_111 : decode cX7_judge 111 = .ok (.iconst 1, 1) := by decide +kernel
theorem dX7_judge_112 : decode cX7_judge 112 = .ok (.iload 5, 2) := by decide +kernel
theorem dX7_judge_114 : decode cX7_judge 114 = .ok (.iadd, 1) := by decide +kernel
theorem dX7_judge_115 : decode cX7_judge 115 = .ok (.ireturn, 1) := by decide +kernel
theorem dX7_judge_116 : decode cX7_judge 116 = .ok (.aload_n 0, 1) := by decide +kernel
theorem dX7_judge_117 : decode cX7_judge 117 = .ok (.getfield 12, 3) := by decide +kernel
theorem dX7_judge_120 : decode cX7_judge 120 = .ok (.lconst 1, 1) := by decide +kernel
theorem dX7_judge_121 : decode cX7_judge 121 = .ok (.iload 6, 2) := by decide +kernel
theorem dX7_judge_123 : decode cX7_judge 123 = .ok (.lshl, 1) := by decide +kernel
theorem dX7_judge_124 : decode cX7_judge 124 = .ok (.invokevirtual 310, 3) := by decide +kernel
theorem dX7_judge_127 : decode cX7_judge 127 = .ok (.lstore_n 3, 1) := by decide +kernel
theorem dX7_judge_128 : decode cX7_judge 128 = .ok (.iinc 5 1, 3) := by decide +kernel
theorem dX7_judge_131 : decode cX7_judge 131 = .ok (.goto (-67), 3) := by decide +kernel
theorem dX7_judge_134 : decode cX7_judge 134 = .ok (.iconst 0, 1) := by decide +kernel
theorem dX7_judge_135 : decode cX7_judge 135 = .ok (.ireturn, 1) := by decide +kernel
theorem dX7_image_0 : decode cX7_image 0 = .ok (.aload_n 0, 1) := by decide +kernel
theorem dX7_image_1 : decode cX7_image 1 = .ok (.getfield 16, 3) := by decide +kernel
theorem dX7_image_4 : decode cX7_image 4 = .ok (.aload_n 0, 1) := by decide +kernel
theorem dX7_image_5 : decode cX7_image 5 = .ok (.getfield 12, 3) := by decide +kernel
theorem dX7_image_8 : decode cX7_image 8 = .ok (.invokevirtual 218, 3) := by decide +kernel
theorem dX7_image_11 : decode cX7_image 11 = .ok (.aload_n 0, 1) := by decide +kernel
theorem dX7_image_12 : decode cX7_image 12 = .ok (.iconst 1, 1) := by decide +kernel
theorem dX7_image_13 : decode cX7_image 13 = .ok (.putfield 314, 3) := by decide +kernel
theorem dX7_image_16 : decode cX7_image 16 = .ok (.iconst 1, 1) := by decide +kernel
theorem dX7_image_17 : decode cX7_image 17 = .ok (.ireturn, 1) := by decide +kernel
theorem dX7_undo_0 : decode cX7_undo 0 = .ok (.aload_n 0, 1) := by decide +kernel
theorem dX7_undo_1 : decode cX7_undo 1 = .ok (.getfield 314, 3) := by decide +kernel
theorem dX7_undo_4 : decode cX7_undo 4 = .ok (.ifCond .ne 10, 3) := by decide +kernel
theorem dX7_undo_7 : decode cX7_undo 7 = .ok (.aload_n 0, 1) := by decide +kernel
theorem dX7_undo_8 : decode cX7_undo 8 = .ok (.ldc 189, 2) := by decide +kernel
theorem dX7_undo_10 : decode cX7_undo 10 = .ok (.invokevirtual 65, 3) := by decide +kernel
theorem dX7_undo_13 : decode cX7_undo 13 = .ok (.ireturn, 1) := by decide +kernel
theorem dX7_undo_14 : decode cX7_undo 14 = .ok (.aload_n 0, 1) := by decide +kernel
theorem dX7_undo_15 : decode cX7_undo 15 = .ok (.getfield 12, 3) := by decide +kernel
theorem dX7_undo_18 : decode cX7_undo 18 = .ok (.aload_n 0, 1) := by decide +kernel
theorem dX7_undo_19 : decode cX7_undo 19 = .ok (.getfield 16, 3) := by decide +kernel
theorem dX7_undo_22 : decode cX7_undo 22 = .ok (.invokevirtual 218, 3) := by decide +kernel
theorem dX7_undo_25 : decode cX7_undo 25 = .ok (.aload_n 0, 1) := by decide +kernel
theorem dX7_undo_26 : decode cX7_undo 26 = .ok (.getfield 12, 3) := by decide +kernel
theorem dX7_undo_29 : decode cX7_undo 29 = .ok (.getfield 171, 3) := by decide +kernel
theorem dX7_undo_32 : decode cX7_undo 32 = .ok (.ireturn, 1) := by decide +kernel
theorem dX7_tear_0 : decode cX7_tear 0 = .ok (.aload_n 0, 1) := by decide +kernel
theorem dX7_tear_1 : decode cX7_tear 1 = .ok (.getfield 314, 3) := by decide +kernel
theorem dX7_tear_4 : decode cX7_tear 4 = .ok (.ifCond .eq 7, 3) := by decide +kernel
theorem dX7_tear_7 : decode cX7_tear 7 = .ok (.iconst 1, 1) := by decide +kernel
theorem dX7_tear_8 : decode cX7_tear 8 = .ok (.goto 4, 3) := by decide +kernel
theorem dX7_tear_11 : decode cX7_tear 11 = .ok (.iconst 0, 1) := by decide +kernel
theorem dX7_tear_12 : decode cX7_tear 12 = .ok (.istore_n 1, 1) := by decide +kernel
theorem dX7_tear_13 : decode cX7_tear 13 = .ok (.aload_n 0, 1) := by decide +kernel
theorem dX7_tear_14 : decode cX7_tear 14 = .ok (.iconst 0, 1) := by decide +kernel
theorem dX7_tear_15 : decode cX7_tear 15 = .ok (.putfield 314, 3) := by decide +kernel
theorem dX7_tear_18 : decode cX7_tear 18 = .ok (.iload_n 1, 1) := by decide +kernel
theorem dX7_tear_19 : decode cX7_tear 19 = .ok (.ireturn, 1) := by decide +kernel
theorem dX7_count_0 : decode cX7_count 0 = .ok (.iload_n 1, 1) := by decide +kernel
theorem dX7_count_1 : decode cX7_count 1 = .ok (.tableswitch 111 0 7 #[47, 55, 63, 71, 79, 87, 95, 103], 47) := by decide +kernel
theorem dX7_count_48 : decode cX7_count 48 = .ok (.aload_n 0, 1) := by decide +kernel
theorem dX7_count_49 : decode cX7_count 49 = .ok (.getfield 12, 3) := by decide +kernel
theorem dX7_count_52 : decode cX7_count 52 = .ok (.getfield 171, 3) := by decide +kernel
theorem dX7_count_55 : decode cX7_count 55 = .ok (.ireturn, 1) := by decide +kernel
theorem dX7_count_56 : decode cX7_count 56 = .ok (.aload_n 0, 1) := by decide +kernel
theorem dX7_count_57 : decode cX7_count 57 = .ok (.getfield 12, 3) := by decide +kernel
theorem dX7_count_60 : decode cX7_count 60 = .ok (.getfield 84, 3) := by decide +kernel
theorem dX7_count_63 : decode cX7_count 63 = .ok (.ireturn, 1) := by decide +kernel
theorem dX7_count_64 : decode cX7_count 64 = .ok (.aload_n 0, 1) := by decide +kernel
theorem dX7_count_65 : decode cX7_count 65 = .ok (.getfield 12, 3) := by decide +kernel
theorem dX7_count_68 : decode cX7_count 68 = .ok (.getfield 112, 3) := by decide +kernel
theorem dX7_count_71 : decode cX7_count 71 = .ok (.ireturn, 1) := by decide +kernel
theorem dX7_count_72 : decode cX7_count 72 = .ok (.aload_n 0, 1) := by decide +kernel
theorem dX7_count_73 : decode cX7_count 73 = .ok (.getfield 12, 3) := by decide +kernel
theorem dX7_count_76 : decode cX7_count 76 = .ok (.getfield 168, 3) := by decide +kernel
theorem dX7_count_79 : decode cX7_count 79 = .ok (.ireturn, 1) := by decide +kernel
theorem dX7_count_80 : decode cX7_count 80 = .ok (.aload_n 0, 1) := by decide +kernel
theorem dX7_count_81 : decode cX7_count 81 = .ok (.getfield 12, 3) := by decide +kernel
theorem dX7_count_84 : decode cX7_count 84 = .ok (.getfield 183, 3) := by decide +kernel
theorem dX7_count_87 : decode cX7_count 87 = .ok (.ireturn, 1) := by decide +kernel
theorem dX7_count_88 : decode cX7_count 88 = .ok (.aload_n 0, 1) := by decide +kernel
theorem dX7_count_89 : decode cX7_count 89 = .ok (.getfield 32, 3) := by decide +kernel
theorem dX7_count_92 : decode cX7_count 92 = .ok (.getfield 255, 3) := by decide +kernel
theorem dX7_count_95 : decode cX7_count 95 = .ok (.ireturn, 1) := by decide +kernel
theorem dX7_count_96 : decode cX7_count 96 = .ok (.aload_n 0, 1) := by decide +kernel
theorem dX7_count_97 : decode cX7_count 97 = .ok (.getfield 12, 3) := by decide +kernel
theorem dX7_count_100 : decode cX7_count 100 = .ok (.getfield 252, 3) := by decide +kernel
theorem dX7_count_103 : decode cX7_count 103 = .ok (.ireturn, 1) := by decide +kernel
theorem dX7_count_104 : decode cX7_count 104 = .ok (.aload_n 0, 1) := by decide +kernel
theorem dX7_count_105 : decode cX7_count 105 = .ok (.getfield 12, 3) := by decide +kernel
theorem dX7_count_108 : decode cX7_count 108 = .ok (.invokevirtual 318, 3) := by decide +kernel
theorem dX7_count_111 : decode cX7_count 111 = .ok (.ireturn, 1) := by decide +kernel
theorem dX7_count_112 : decode cX7_count 112 = .ok (.aload_n 0, 1) := by decide +kernel
theorem dX7_count_113 : decode cX7_count 113 = .ok (.ldc 64, 2) := by decide +kernel
theorem dX7_count_115 : decode cX7_count 115 = .ok (.invokevirtual 65, 3) := by decide +kernel
theorem dX7_count_118 : decode cX7_count 118 = .ok (.ireturn, 1) := by decide +kernel
theorem dX7_status_0 : decode cX7_status 0 = .ok (.iload_n 1, 1) := by decide +kernel
theorem dX7_status_1 : decode cX7_status 1 = .ok (.iconst (-1), 1) := by decide +kernel
theorem dX7_status_2 : decode cX7_status 2 = .ok (.bipush 6, 2) := by decide +kernel
theorem dX7_status_4 : decode cX7_status 4 = .ok (.invokestatic 60, 3) := by decide +kernel
theorem dX7_status_7 : decode cX7_status 7 = .ok (.ifCond .ne 10, 3) := by decide +kernel
theorem dX7_status_10 : decode cX7_status 10 = .ok (.aload_n 0, 1) := by decide +kernel
theorem dX7_status_11 : decode cX7_status 11 = .ok (.ldc 64, 2) := by decide +kernel
theorem dX7_status_13 : decode cX7_status 13 = .ok (.invokevirtual 65, 3) := by decide +kernel
theorem dX7_status_16 : decode cX7_status 16 = .ok (.ireturn, 1) := by decide +kernel
theorem dX7_status_17 : decode cX7_status 17 = .ok (.iload_n 1, 1) := by decide +kernel
theorem dX7_status_18 : decode cX7_status 18 = .ok (.ifCond .lt 10, 3) := by decide +kernel
theorem dX7_status_21 : decode cX7_status 21 = .ok (.aload_n 0, 1) := by decide +kernel
theorem dX7_status_22 : decode cX7_status 22 = .ok (.getfield 51, 3) := by decide +kernel
theorem dX7_status_25 : decode cX7_status 25 = .ok (.iload_n 1, 1) := by decide +kernel
theorem dX7_status_26 : decode cX7_status 26 = .ok (.iaload, 1) := by decide +kernel
theorem dX7_status_27 : decode cX7_status 27 = .ok (.ireturn, 1) := by decide +kernel
theorem dX7_status_28 : decode cX7_status 28 = .ok (.iconst 0, 1) := by decide +kernel
theorem dX7_status_29 : decode cX7_status 29 = .ok (.istore_n 2, 1) := by decide +kernel
theorem dX7_status_30 : decode cX7_status 30 = .ok (.iconst 0, 1) := by decide +kernel
theorem dX7_status_31 : decode cX7_status 31 = .ok (.istore_n 3, 1) := by decide +kernel
theorem dX7_status_32 : decode cX7_status 32 = .ok (.iload_n 3, 1) := by decide +kernel
theorem dX7_status_33 : decode cX7_status 33 = .ok (.bipush 7, 2) := by decide +kernel
theorem dX7_status_35 : decode cX7_status 35 = .ok (.if_icmp .ge 18, 3) := by decide +kernel
theorem dX7_status_38 : decode cX7_status 38 = .ok (.iload_n 2, 1) := by decide +kernel
theorem dX7_status_39 : decode cX7_status 39 = .ok (.aload_n 0, 1) := by decide +kernel
theorem dX7_status_40 : decode cX7_status 40 = .ok (.getfield 51, 3) := by decide +kernel
theorem dX7_status_43 : decode cX7_status 43 = .ok (.iload_n 3, 1) := by decide +kernel
theorem dX7_status_44 : decode cX7_status 44 = .ok (.iaload, 1) := by decide +kernel
theorem dX7_status_45 : decode cX7_status 45 = .ok (.iadd, 1) := by decide +kernel
theorem dX7_status_46 : decode cX7_status 46 = .ok (.istore_n 2, 1) := by decide +kernel
theorem dX7_status_47 : decode cX7_status 47 = .ok (.iinc 3 1, 3) := by decide +kernel
theorem dX7_status_50 : decode cX7_status 50 = .ok (.goto (-18), 3) := by decide +kernel
theorem dX7_status_53 : decode cX7_status 53 = .ok (.iload_n 2, 1) := by decide +kernel
theorem dX7_status_54 : decode cX7_status 54 = .ok (.ireturn, 1) := by decide +kernel
theorem dX7_finding_0 : decode cX7_finding 0 = .ok (.ldc 64, 2) := by decide +kernel
theorem dX7_finding_2 : decode cX7_finding 2 = .ok (.iload_n 1, 1) := by decide +kernel
theorem dX7_finding_3 : decode cX7_finding 3 = .ok (.isub, 1) := by decide +kernel
theorem dX7_finding_4 : decode cX7_finding 4 = .ok (.istore_n 2, 1) := by decide +kernel
theorem dX7_finding_5 : decode cX7_finding 5 = .ok (.iload_n 2, 1) := by decide +kernel
theorem dX7_finding_6 : decode cX7_finding 6 = .ok (.iconst 0, 1) := by decide +kernel
theorem dX7_finding_7 : decode cX7_finding 7 = .ok (.bipush 6, 2) := by decide +kernel
theorem dX7_finding_9 : decode cX7_finding 9 = .ok (.invokestatic 60, 3) := by decide +kernel
theorem dX7_finding_12 : decode cX7_finding 12 = .ok (.ifCond .eq 13, 3) := by decide +kernel
theorem dX7_finding_15 : decode cX7_finding 15 = .ok (.aload_n 0, 1) := by decide +kernel
theorem dX7_finding_16 : decode cX7_finding 16 = .ok (.getfield 51, 3) := by decide +kernel
theorem dX7_finding_19 : decode cX7_finding 19 = .ok (.iload_n 2, 1) := by decide +kernel
theorem dX7_finding_20 : decode cX7_finding 20 = .ok (.dup2, 1) := by decide +kernel
theorem dX7_finding_21 : decode cX7_finding 21 = .ok (.iaload, 1) := by decide +kernel
theorem dX7_finding_22 : decode cX7_finding 22 = .ok (.iconst 1, 1) := by decide +kernel
theorem dX7_finding_23 : decode cX7_finding 23 = .ok (.iadd, 1) := by decide +kernel
theorem dX7_finding_24 : decode cX7_finding 24 = .ok (.iastore, 1) := by decide +kernel
theorem dX7_finding_25 : decode cX7_finding 25 = .ok (.iload_n 1, 1) := by decide +kernel
theorem dX7_finding_26 : decode cX7_finding 26 = .ok (.ireturn, 1) := by decide +kernel
theorem dX7_foundOrNone_0 : decode cX7_foundOrNone 0 = .ok (.iload_n 1, 1) := by decide +kernel
theorem dX7_foundOrNone_1 : decode cX7_foundOrNone 1 = .ok (.iconst (-1), 1) := by decide +kernel
theorem dX7_foundOrNone_2 : decode cX7_foundOrNone 2 = .ok (.if_icmp .ne 12, 3) := by decide +kernel
theorem dX7_foundOrNone_5 : decode cX7_foundOrNone 5 = .ok (.aload_n 0, 1) := by decide +kernel
theorem dX7_foundOrNone_6 : decode cX7_foundOrNone 6 = .ok (.ldc 189, 2) := by decide +kernel
theorem dX7_foundOrNone_8 : decode cX7_foundOrNone 8 = .ok (.invokevirtual 65, 3) := by decide +kernel
theorem dX7_foundOrNone_11 : decode cX7_foundOrNone 11 = .ok (.goto 4, 3) := by decide +kernel
theorem dX7_foundOrNone_14 : decode cX7_foundOrNone 14 = .ok (.iload_n 1, 1) := by decide +kernel
theorem dX7_foundOrNone_15 : decode cX7_foundOrNone 15 = .ok (.ireturn, 1) := by decide +kernel
theorem dX7_isFewer_0 : decode cX7_isFewer 0 = .ok (.iload_n 0, 1) := by decide +kernel
theorem dX7_isFewer_1 : decode cX7_isFewer 1 = .ok (.iconst (-1), 1) := by decide +kernel
theorem dX7_isFewer_2 : decode cX7_isFewer 2 = .ok (.if_icmp .eq 17, 3) := by decide +kernel
theorem dX7_isFewer_5 : decode cX7_isFewer 5 = .ok (.iload_n 1, 1) := by decide +kernel
theorem dX7_isFewer_6 : decode cX7_isFewer 6 = .ok (.iconst (-1), 1) := by decide +kernel
theorem dX7_isFewer_7 : decode cX7_isFewer 7 = .ok (.if_icmp .eq 8, 3) := by decide +kernel
theorem dX7_isFewer_10 : decode cX7_isFewer 10 = .ok (.iload_n 0, 1) := by decide +kernel
theorem dX7_isFewer_11 : decode cX7_isFewer 11 = .ok (.iload_n 1, 1) := by decide +kernel
theorem dX7_isFewer_12 : decode cX7_isFewer 12 = .ok (.if_icmp .ge 7, 3) := by decide +kernel
theorem dX7_isFewer_15 : decode cX7_isFewer 15 = .ok (.iconst 1, 1) := by decide +kernel
theorem dX7_isFewer_16 : decode cX7_isFewer 16 = .ok (.goto 4, 3) := by decide +kernel
theorem dX7_isFewer_19 : decode cX7_isFewer 19 = .ok (.iconst 0, 1) := by decide +kernel
theorem dX7_isFewer_20 : decode cX7_isFewer 20 = .ok (.ireturn, 1) := by decide +kernel
theorem dX7_isWithin_0 : decode cX7_isWithin 0 = .ok (.iload_n 0, 1) := by decide +kernel
theorem dX7_isWithin_1 : decode cX7_isWithin 1 = .ok (.iload_n 1, 1) := by decide +kernel
theorem dX7_isWithin_2 : decode cX7_isWithin 2 = .ok (.if_icmp .lt 12, 3) := by decide +kernel
theorem dX7_isWithin_5 : decode cX7_isWithin 5 = .ok (.iload_n 0, 1) := by decide +kernel
theorem dX7_isWithin_6 : decode cX7_isWithin 6 = .ok (.iload_n 2, 1) := by decide +kernel
theorem dX7_isWithin_7 : decode cX7_isWithin 7 = .ok (.if_icmp .gt 7, 3) := by decide +kernel
theorem dX7_isWithin_10 : decode cX7_isWithin 10 = .ok (.iconst 1, 1) := by decide +kernel
theorem dX7_isWithin_11 : decode cX7_isWithin 11 = .ok (.goto 4, 3) := by decide +kernel
theorem dX7_isWithin_14 : decode cX7_isWithin 14 = .ok (.iconst 0, 1) := by decide +kernel
theorem dX7_isWithin_15 : decode cX7_isWithin 15 = .ok (.ireturn, 1) := by decide +kernel
theorem dX7_isRoom_0 : decode cX7_isRoom 0 = .ok (.iload_n 0, 1) := by decide +kernel
theorem dX7_isRoom_1 : decode cX7_isRoom 1 = .ok (.iconst 0, 1) := by decide +kernel
theorem dX7_isRoom_2 : decode cX7_isRoom 2 = .ok (.bipush 7, 2) := by decide +kernel
theorem dX7_isRoom_4 : decode cX7_isRoom 4 = .ok (.invokestatic 60, 3) := by decide +kernel
theorem dX7_isRoom_7 : decode cX7_isRoom 7 = .ok (.ireturn, 1) := by decide +kernel
theorem dX7_isPlace_0 : decode cX7_isPlace 0 = .ok (.iload_n 0, 1) := by decide +kernel
theorem dX7_isPlace_1 : decode cX7_isPlace 1 = .ok (.iconst 0, 1) := by decide +kernel
theorem dX7_isPlace_2 : decode cX7_isPlace 2 = .ok (.bipush 39, 2) := by decide +kernel
theorem dX7_isPlace_4 : decode cX7_isPlace 4 = .ok (.invokestatic 60, 3) := by decide +kernel
theorem dX7_isPlace_7 : decode cX7_isPlace 7 = .ok (.ireturn, 1) := by decide +kernel
theorem dX7_isKind_0 : decode cX7_isKind 0 = .ok (.iload_n 0, 1) := by decide +kernel
theorem dX7_isKind_1 : decode cX7_isKind 1 = .ok (.iconst 0, 1) := by decide +kernel
theorem dX7_isKind_2 : decode cX7_isKind 2 = .ok (.bipush 6, 2) := by decide +kernel
theorem dX7_isKind_4 : decode cX7_isKind 4 = .ok (.invokestatic 60, 3) := by decide +kernel
theorem dX7_isKind_7 : decode cX7_isKind 7 = .ok (.ireturn, 1) := by decide +kernel
theorem dX7_isSheet_0 : decode cX7_isSheet 0 = .ok (.iload_n 0, 1) := by decide +kernel
theorem dX7_isSheet_1 : decode cX7_isSheet 1 = .ok (.iconst 0, 1) := by decide +kernel
theorem dX7_isSheet_2 : decode cX7_isSheet 2 = .ok (.iconst 3, 1) := by decide +kernel
theorem dX7_isSheet_3 : decode cX7_isSheet 3 = .ok (.invokestatic 60, 3) := by decide +kernel
theorem dX7_isSheet_6 : decode cX7_isSheet 6 = .ok (.ireturn, 1) := by decide +kernel
theorem dX7_isThing_0 : decode cX7_isThing 0 = .ok (.iload_n 1, 1) := by decide +kernel
theorem dX7_isThing_1 : decode cX7_isThing 1 = .ok (.iconst 0, 1) := by decide +kernel
theorem dX7_isThing_2 : decode cX7_isThing 2 = .ok (.aload_n 0, 1) := by decide +kernel
theorem dX7_isThing_3 : decode cX7_isThing 3 = .ok (.getfield 12, 3) := by decide +kernel
theorem dX7_isThing_6 : decode cX7_isThing 6 = .ok (.getfield 84, 3) := by decide +kernel
theorem dX7_isThing_9 : decode cX7_isThing 9 = .ok (.iconst 1, 1) := by decide +kernel
theorem dX7_isThing_10 : decode cX7_isThing 10 = .ok (.isub, 1) := by decide +kernel
theorem dX7_isThing_11 : decode cX7_isThing 11 = .ok (.invokestatic 60, 3) := by decide +kernel
theorem dX7_isThing_14 : decode cX7_isThing 14 = .ok (.ireturn, 1) := by decide +kernel
theorem dX7_isOne_0 : decode cX7_isOne 0 = .ok (.iload_n 1, 1) := by decide +kernel
theorem dX7_isOne_1 : decode cX7_isOne 1 = .ok (.iconst 0, 1) := by decide +kernel
theorem dX7_isOne_2 : decode cX7_isOne 2 = .ok (.aload_n 0, 1) := by decide +kernel
theorem dX7_isOne_3 : decode cX7_isOne 3 = .ok (.getfield 12, 3) := by decide +kernel
theorem dX7_isOne_6 : decode cX7_isOne 6 = .ok (.getfield 112, 3) := by decide +kernel
theorem dX7_isOne_9 : decode cX7_isOne 9 = .ok (.iconst 1, 1) := by decide +kernel
theorem dX7_isOne_10 : decode cX7_isOne 10 = .ok (.isub, 1) := by decide +kernel
theorem dX7_isOne_11 : decode cX7_isOne 11 = .ok (.invokestatic 60, 3) := by decide +kernel
theorem dX7_isOne_14 : decode cX7_isOne 14 = .ok (.ireturn, 1) := by decide +kernel
theorem dX7_isTask_0 : decode cX7_isTask 0 = .ok (.aload_n 0, 1) := by decide +kernel
theorem dX7_isTask_1 : decode cX7_isTask 1 = .ok (.iload_n 1, 1) := by decide +kernel
theorem dX7_isTask_2 : decode cX7_isTask 2 = .ok (.invokevirtual 118, 3) := by decide +kernel
theorem dX7_isTask_5 : decode cX7_isTask 5 = .ok (.ifCond .eq 22, 3) := by decide +kernel
theorem dX7_isTask_8 : decode cX7_isTask 8 = .ok (.aload_n 0, 1) := by decide +kernel
theorem dX7_isTask_9 : decode cX7_isTask 9 = .ok (.iload_n 2, 1) := by decide +kernel
theorem dX7_isTask_10 : decode cX7_isTask 10 = .ok (.invokevirtual 93, 3) := by decide +kernel
theorem dX7_isTask_13 : decode cX7_isTask 13 = .ok (.ifCond .eq 14, 3) := by decide +kernel
theorem dX7_isTask_16 : decode cX7_isTask 16 = .ok (.iload_n 3, 1) := by decide +kernel
theorem dX7_isTask_17 : decode cX7_isTask 17 = .ok (.invokestatic 56, 3) := by decide +kernel
theorem dX7_isTask_20 : decode cX7_isTask 20 = .ok (.ifCond .eq 7, 3) := by decide +kernel
theorem dX7_isTask_23 : decode cX7_isTask 23 = .ok (.iconst 1, 1) := by decide +kernel
theorem dX7_isTask_24 : decode cX7_isTask 24 = .ok (.goto 4, 3) := by decide +kernel
theorem dX7_isTask_27 : decode cX7_isTask 27 = .ok (.iconst 0, 1) := by decide +kernel
theorem dX7_isTask_28 : decode cX7_isTask 28 = .ok (.ireturn, 1) := by decide +kernel
theorem dX7_isRoomAndThing_0 : decode cX7_isRoomAndThing 0 = .ok (.iload_n 1, 1) := by decide +kernel
theorem dX7_isRoomAndThing_1 : decode cX7_isRoomAndThing 1 = .ok (.ifCond .lt 28, 3) := by decide +kernel
theorem dX7_isRoomAndThing_4 : decode cX7_isRoomAndThing 4 = .ok (.iload_n 1, 1) := by decide +kernel
theorem dX7_isRoomAndThing_5 : decode cX7_isRoomAndThing 5 = .ok (.bipush 10, 2) := by decide +kernel
theorem dX7_isRoomAndThing_7 : decode cX7_isRoomAndThing 7 = .ok (.idiv, 1) := by decide +kernel
theorem dX7_isRoomAndThing_8 : decode cX7_isRoomAndThing 8 = .ok (.invokestatic 56, 3) := by decide +kernel
theorem dX7_isRoomAndThing_11 : decode cX7_isRoomAndThing 11 = .ok (.ifCond .eq 18, 3) := by decide +kernel
theorem dX7_isRoomAndThing_14 : decode cX7_isRoomAndThing 14 = .ok (.aload_n 0, 1) := by decide +kernel
theorem dX7_isRoomAndThing_15 : decode cX7_isRoomAndThing 15 = .ok (.iload_n 1, 1) := by decide +kernel
theorem dX7_isRoomAndThing_16 : decode cX7_isRoomAndThing 16 = .ok (.bipush 10, 2) := by decide +kernel
theorem dX7_isRoomAndThing_18 : decode cX7_isRoomAndThing 18 = .ok (.irem, 1) := by decide +kernel
theorem dX7_isRoomAndThing_19 : decode cX7_isRoomAndThing 19 = .ok (.invokevirtual 93, 3) := by decide +kernel
theorem dX7_isRoomAndThing_22 : decode cX7_isRoomAndThing 22 = .ok (.ifCond .eq 7, 3) := by decide +kernel
theorem dX7_isRoomAndThing_25 : decode cX7_isRoomAndThing 25 = .ok (.iconst 1, 1) := by decide +kernel
theorem dX7_isRoomAndThing_26 : decode cX7_isRoomAndThing 26 = .ok (.goto 4, 3) := by decide +kernel
theorem dX7_isRoomAndThing_29 : decode cX7_isRoomAndThing 29 = .ok (.iconst 0, 1) := by decide +kernel
theorem dX7_isRoomAndThing_30 : decode cX7_isRoomAndThing 30 = .ok (.ireturn, 1) := by decide +kernel
theorem dX7_canBePart_0 : decode cX7_canBePart 0 = .ok (.iload_n 0, 1) := by decide +kernel
theorem dX7_canBePart_1 : decode cX7_canBePart 1 = .ok (.lookupswitch 37 #[(0, 27), (1, 32)], 27) := by decide +kernel
theorem dX7_canBePart_28 : decode cX7_canBePart 28 = .ok (.iload_n 1, 1) := by decide +kernel
theorem dX7_canBePart_29 : decode cX7_canBePart 29 = .ok (.invokestatic 81, 3) := by decide +kernel
theorem dX7_canBePart_32 : decode cX7_canBePart 32 = .ok (.ireturn, 1) := by decide +kernel
theorem dX7_canBePart_33 : decode cX7_canBePart 33 = .ok (.iload_n 1, 1) := by decide +kernel
theorem dX7_canBePart_34 : decode cX7_canBePart 34 = .ok (.invokestatic 56, 3) := by decide +kernel
theorem dX7_canBePart_37 : decode cX7_canBePart 37 = .ok (.ireturn, 1) := by decide +kernel
theorem dX7_canBePart_38 : decode cX7_canBePart 38 = .ok (.iload_n 1, 1) := by decide +kernel
theorem dX7_canBePart_39 : decode cX7_canBePart 39 = .ok (.iconst 1, 1) := by decide +kernel
theorem dX7_canBePart_40 : decode cX7_canBePart 40 = .ok (.bipush 60, 2) := by decide +kernel
theorem dX7_canBePart_42 : decode cX7_canBePart 42 = .ok (.invokestatic 60, 3) := by decide +kernel
theorem dX7_canBePart_45 : decode cX7_canBePart 45 = .ok (.ireturn, 1) := by decide +kernel
theorem dX7_goTo_0 : decode cX7_goTo 0 = .ok (.iload_n 2, 1) := by decide +kernel
theorem dX7_goTo_1 : decode cX7_goTo 1 = .ok (.iconst (-1), 1) := by decide +kernel
theorem dX7_goTo_2 : decode cX7_goTo 2 = .ok (.if_icmp .ne 10, 3) := by decide +kernel
theorem dX7_goTo_5 : decode cX7_goTo 5 = .ok (.aload_n 0, 1) := by decide +kernel
theorem dX7_goTo_6 : decode cX7_goTo 6 = .ok (.ldc 133, 2) := by decide +kernel
theorem dX7_goTo_8 : decode cX7_goTo 8 = .ok (.invokevirtual 65, 3) := by decide +kernel
theorem dX7_goTo_11 : decode cX7_goTo 11 = .ok (.ireturn, 1) := by decide +kernel
theorem dX7_goTo_12 : decode cX7_goTo 12 = .ok (.aload_n 0, 1) := by decide +kernel
theorem dX7_goTo_13 : decode cX7_goTo 13 = .ok (.getfield 12, 3) := by decide +kernel
theorem dX7_goTo_16 : decode cX7_goTo 16 = .ok (.getfield 138, 3) := by decide +kernel
theorem dX7_goTo_19 : decode cX7_goTo 19 = .ok (.iload_n 1, 1) := by decide +kernel
theorem dX7_goTo_20 : decode cX7_goTo 20 = .ok (.iload_n 2, 1) := by decide +kernel
theorem dX7_goTo_21 : decode cX7_goTo 21 = .ok (.iastore, 1) := by decide +kernel
theorem dX7_goTo_22 : decode cX7_goTo 22 = .ok (.iload_n 2, 1) := by decide +kernel
theorem dX7_goTo_23 : decode cX7_goTo 23 = .ok (.ireturn, 1) := by decide +kernel
theorem dX7_stepsWithDoor_0 : decode cX7_stepsWithDoor 0 = .ok (.aload_n 0, 1) := by decide +kernel
theorem dX7_stepsWithDoor_1 : decode cX7_stepsWithDoor 1 = .ok (.getfield 19, 3) := by decide +kernel
theorem dX7_stepsWithDoor_4 : decode cX7_stepsWithDoor 4 = .ok (.iload_n 1, 1) := by decide +kernel
theorem dX7_stepsWithDoor_5 : decode cX7_stepsWithDoor 5 = .ok (.iload_n 2, 1) := by decide +kernel
theorem dX7_stepsWithDoor_6 : decode cX7_stepsWithDoor 6 = .ok (.iconst 1, 1) := by decide +kernel
theorem dX7_stepsWithDoor_7 : decode cX7_stepsWithDoor 7 = .ok (.invokevirtual 73, 3) := by decide +kernel
theorem dX7_stepsWithDoor_10 : decode cX7_stepsWithDoor 10 = .ok (.aload_n 0, 1) := by decide +kernel
theorem dX7_stepsWithDoor_11 : decode cX7_stepsWithDoor 11 = .ok (.getfield 25, 3) := by decide +kernel
theorem dX7_stepsWithDoor_14 : decode cX7_stepsWithDoor 14 = .ok (.aload_n 0, 1) := by decide +kernel
theorem dX7_stepsWithDoor_15 : decode cX7_stepsWithDoor 15 = .ok (.getfield 19, 3) := by decide +kernel
theorem dX7_stepsWithDoor_18 : decode cX7_stepsWithDoor 18 = .ok (.iload_n 3, 1) := by decide +kernel
theorem dX7_stepsWithDoor_19 : decode cX7_stepsWithDoor 19 = .ok (.iload 4, 2) := by decide +kernel
theorem dX7_stepsWithDoor_21 : decode cX7_stepsWithDoor 21 = .ok (.iload 5, 2) := by decide +kernel
theorem dX7_stepsWithDoor_23 : decode cX7_stepsWithDoor 23 = .ok (.invokevirtual 207, 3) := by decide +kernel
theorem dX7_stepsWithDoor_26 : decode cX7_stepsWithDoor 26 = .ok (.istore 6, 2) := by decide +kernel
theorem dX7_stepsWithDoor_28 : decode cX7_stepsWithDoor 28 = .ok (.aload_n 0, 1) := by decide +kernel
theorem dX7_stepsWithDoor_29 : decode cX7_stepsWithDoor 29 = .ok (.getfield 19, 3) := by decide +kernel
theorem dX7_stepsWithDoor_32 : decode cX7_stepsWithDoor 32 = .ok (.iload_n 1, 1) := by decide +kernel
theorem dX7_stepsWithDoor_33 : decode cX7_stepsWithDoor 33 = .ok (.iload_n 2, 1) := by decide +kernel
theorem dX7_stepsWithDoor_34 : decode cX7_stepsWithDoor 34 = .ok (.iconst 0, 1) := by decide +kernel
theorem dX7_stepsWithDoor_35 : decode cX7_stepsWithDoor 35 = .ok (.invokevirtual 73, 3) := by decide +kernel
theorem dX7_stepsWithDoor_38 : decode cX7_stepsWithDoor 38 = .ok (.iload 6, 2) := by decide +kernel
theorem dX7_stepsWithDoor_40 : decode cX7_stepsWithDoor 40 = .ok (.ireturn, 1) := by decide +kernel
theorem dX7_makeSo_0 : decode cX7_makeSo 0 = .ok (.aload_n 0, 1) := by decide +kernel
theorem dX7_makeSo_1 : decode cX7_makeSo 1 = .ok (.getfield 41, 3) := by decide +kernel
theorem dX7_makeSo_4 : decode cX7_makeSo 4 = .ok (.getfield 322, 3) := by decide +kernel
theorem dX7_makeSo_7 : decode cX7_makeSo 7 = .ok (.iload_n 1, 1) := by decide +kernel
theorem dX7_makeSo_8 : decode cX7_makeSo 8 = .ok (.iconst 1, 1) := by decide +kernel
theorem dX7_makeSo_9 : decode cX7_makeSo 9 = .ok (.iadd, 1) := by decide +kernel
theorem dX7_makeSo_10 : decode cX7_makeSo 10 = .ok (.iaload, 1) := by decide +kernel
theorem dX7_makeSo_11 : decode cX7_makeSo 11 = .ok (.istore_n 2, 1) := by decide +kernel
theorem dX7_makeSo_12 : decode cX7_makeSo 12 = .ok (.aload_n 0, 1) := by decide +kernel
theorem dX7_makeSo_13 : decode cX7_makeSo 13 = .ok (.getfield 41, 3) := by decide +kernel
theorem dX7_makeSo_16 : decode cX7_makeSo 16 = .ok (.getfield 322, 3) := by decide +kernel
theorem dX7_makeSo_19 : decode cX7_makeSo 19 = .ok (.iload_n 1, 1) := by decide +kernel
theorem dX7_makeSo_20 : decode cX7_makeSo 20 = .ok (.iconst 2, 1) := by decide +kernel
theorem dX7_makeSo_21 : decode cX7_makeSo 21 = .ok (.iadd, 1) := by decide +kernel
theorem dX7_makeSo_22 : decode cX7_makeSo 22 = .ok (.iaload, 1) := by decide +kernel
theorem dX7_makeSo_23 : decode cX7_makeSo 23 = .ok (.istore_n 3, 1) := by decide +kernel
theorem dX7_makeSo_24 : decode cX7_makeSo 24 = .ok (.aload_n 0, 1) := by decide +kernel
theorem dX7_makeSo_25 : decode cX7_makeSo 25 = .ok (.getfield 41, 3) := by decide +kernel
theorem dX7_makeSo_28 : decode cX7_makeSo 28 = .ok (.getfield 322, 3) := by decide +kernel
theorem dX7_makeSo_31 : decode cX7_makeSo 31 = .ok (.iload_n 1, 1) := by decide +kernel
theorem dX7_makeSo_32 : decode cX7_makeSo 32 = .ok (.iconst 3, 1) := by decide +kernel
theorem dX7_makeSo_33 : decode cX7_makeSo 33 = .ok (.iadd, 1) := by decide +kernel
theorem dX7_makeSo_34 : decode cX7_makeSo 34 = .ok (.iaload, 1) := by decide +kernel
theorem dX7_makeSo_35 : decode cX7_makeSo 35 = .ok (.istore 4, 2) := by decide +kernel
theorem dX7_makeSo_37 : decode cX7_makeSo 37 = .ok (.aload_n 0, 1) := by decide +kernel
theorem dX7_makeSo_38 : decode cX7_makeSo 38 = .ok (.getfield 41, 3) := by decide +kernel
theorem dX7_makeSo_41 : decode cX7_makeSo 41 = .ok (.getfield 322, 3) := by decide +kernel
theorem dX7_makeSo_44 : decode cX7_makeSo 44 = .ok (.iload_n 1, 1) := by decide +kernel
theorem dX7_makeSo_45 : decode cX7_makeSo 45 = .ok (.iaload, 1) := by decide +kernel
theorem dX7_makeSo_46 : decode cX7_makeSo 46 = .ok (.tableswitch 77 0 2 #[26, 41, 54], 26) := by decide +kernel
theorem dX7_makeSo_72 : decode cX7_makeSo 72 = .ok (.aload_n 0, 1) := by decide +kernel
theorem dX7_makeSo_73 : decode cX7_makeSo 73 = .ok (.getfield 12, 3) := by decide +kernel
theorem dX7_makeSo_76 : decode cX7_makeSo 76 = .ok (.iload_n 2, 1) := by decide +kernel
theorem dX7_makeSo_77 : decode cX7_makeSo 77 = .ok (.iload_n 3, 1) := by decide +kernel
theorem dX7_makeSo_78 : decode cX7_makeSo 78 = .ok (.iload 4, 2) := by decide +kernel
theorem dX7_makeSo_80 : decode cX7_makeSo 80 = .ok (.invokevirtual 89, 3) := by decide +kernel
theorem dX7_makeSo_83 : decode cX7_makeSo 83 = .ok (.pop, 1) := by decide +kernel
theorem dX7_makeSo_84 : decode cX7_makeSo 84 = .ok (.goto 49, 3) := by decide +kernel
theorem dX7_makeSo_87 : decode cX7_makeSo 87 = .ok (.aload_n 0, 1) := by decide +kernel
theorem dX7_makeSo_88 : decode cX7_makeSo 88 = .ok (.getfield 12, 3) := by decide +kernel
theorem dX7_makeSo_91 : decode cX7_makeSo 91 = .ok (.iload_n 2, 1) := by decide +kernel
theorem dX7_makeSo_92 : decode cX7_makeSo 92 = .ok (.iload_n 3, 1) := by decide +kernel
theorem dX7_makeSo_93 : decode cX7_makeSo 93 = .ok (.invokevirtual 115, 3) := by decide +kernel
theorem dX7_makeSo_96 : decode cX7_makeSo 96 = .ok (.pop, 1) := by decide +kernel
theorem dX7_makeSo_97 : decode cX7_makeSo 97 = .ok (.goto 36, 3) := by decide +kernel
theorem dX7_makeSo_100 : decode cX7_makeSo 100 = .ok (.aload_n 0, 1) := by decide +kernel
theorem dX7_makeSo_101 : decode cX7_makeSo 101 = .ok (.getfield 12, 3) := by decide +kernel
theorem dX7_makeSo_104 : decode cX7_makeSo 104 = .ok (.iload_n 2, 1) := by decide +kernel
theorem dX7_makeSo_105 : decode cX7_makeSo 105 = .ok (.iload_n 3, 1) := by decide +kernel
theorem dX7_makeSo_106 : decode cX7_makeSo 106 = .ok (.iload 4, 2) := by decide +kernel
theorem dX7_makeSo_108 : decode cX7_makeSo 108 = .ok (.iconst 1, 1) := by decide +kernel
theorem dX7_makeSo_109 : decode cX7_makeSo 109 = .ok (.if_icmp .ne 7, 3) := by decide +kernel
theorem dX7_makeSo_112 : decode cX7_makeSo 112 = .ok (.iconst 1, 1) := by decide +kernel
theorem dX7_makeSo_113 : decode cX7_makeSo 113 = .ok (.goto 4, 3) := by decide +kernel
theorem dX7_makeSo_116 : decode cX7_makeSo 116 = .ok (.iconst 0, 1) := by decide +kernel
theorem dX7_makeSo_117 : decode cX7_makeSo 117 = .ok (.invokevirtual 73, 3) := by decide +kernel
theorem dX7_makeSo_120 : decode cX7_makeSo 120 = .ok (.goto 13, 3) := by decide +kernel
theorem dX7_makeSo_123 : decode cX7_makeSo 123 = .ok (.aload_n 0, 1) := by decide +kernel
theorem dX7_makeSo_124 : decode cX7_makeSo 124 = .ok (.getfield 12, 3) := by decide +kernel
theorem dX7_makeSo_127 : decode cX7_makeSo 127 = .ok (.iload_n 2, 1) := by decide +kernel
theorem dX7_makeSo_128 : decode cX7_makeSo 128 = .ok (.iload_n 3, 1) := by decide +kernel
theorem dX7_makeSo_129 : decode cX7_makeSo 129 = .ok (.invokevirtual 77, 3) := by decide +kernel
theorem dX7_makeSo_132 : decode cX7_makeSo 132 = .ok (.pop, 1) := by decide +kernel
theorem dX7_makeSo_133 : decode cX7_makeSo 133 = .ok (.return_, 1) := by decide +kernel
theorem dX8_init_0 : decode cX8_init 0 = .ok (.aload_n 0, 1) := by decide +kernel
theorem dX8_init_1 : decode cX8_init 1 = .ok (.invokespecial 3, 3) := by decide +kernel
theorem dX8_init_4 : decode cX8_init 4 = .ok (.aload_n 0, 1) := by decide +kernel
theorem dX8_init_5 : decode cX8_init 5 = .ok (.bipush 120, 2) := by decide +kernel
theorem dX8_init_7 : decode cX8_init 7 = .ok (.newarray .int, 2) := by decide +kernel
theorem dX8_init_9 : decode cX8_init 9 = .ok (.putfield 9, 3) := by decide +kernel
theorem dX8_init_12 : decode cX8_init 12 = .ok (.aload_n 0, 1) := by decide +kernel
theorem dX8_init_13 : decode cX8_init 13 = .ok (.bipush 120, 2) := by decide +kernel
theorem dX8_init_15 : decode cX8_init 15 = .ok (.newarray .int, 2) := by decide +kernel
theorem dX8_init_17 : decode cX8_init 17 = .ok (.putfield 13, 3) := by decide +kernel
theorem dX8_init_20 : decode cX8_init 20 = .ok (.aload_n 0, 1) := by decide +kernel
theorem dX8_init_21 : decode cX8_init 21 = .ok (.bipush 120, 2) := by decide +kernel
theorem dX8_init_23 : decode cX8_init 23 = .ok (.newarray .int, 2) := by decide +kernel
theorem dX8_init_25 : decode cX8_init 25 = .ok (.putfield 16, 3) := by decide +kernel
theorem dX8_init_28 : decode cX8_init 28 = .ok (.aload_n 0, 1) := by decide +kernel
theorem dX8_init_29 : decode cX8_init 29 = .ok (.bipush 120, 2) := by decide +kernel
theorem dX8_init_31 : decode cX8_init 31 = .ok (.newarray .int, 2) := by decide +kernel
theorem dX8_init_33 : decode cX8_init 33 = .ok (.putfield 19, 3) := by decide +kernel
theorem dX8_init_36 : decode cX8_init 36 = .ok (.aload_n 0, 1) := by decide +kernel
theorem dX8_init_37 : decode cX8_init 37 = .ok (.bipush 7, 2) := by decide +kernel
theorem dX8_init_39 : decode cX8_init 39 = .ok (.newarray .int, 2) := by decide +kernel
theorem dX8_init_41 : decode cX8_init 41 = .ok (.putfield 22, 3) := by decide +kernel
theorem dX8_init_44 : decode cX8_init 44 = .ok (.aload_n 0, 1) := by decide +kernel
theorem dX8_init_45 : decode cX8_init 45 = .ok (.sipush 320, 3) := by decide +kernel
theorem dX8_init_48 : decode cX8_init 48 = .ok (.newarray .int, 2) := by decide +kernel
theorem dX8_init_50 : decode cX8_init 50 = .ok (.putfield 25, 3) := by decide +kernel
theorem dX8_init_53 : decode cX8_init 53 = .ok (.aload_n 0, 1) := by decide +kernel
theorem dX8_init_54 : decode cX8_init 54 = .ok (.sipush 320, 3) := by decide +kernel
theorem dX8_init_57 : decode cX8_init 57 = .ok (.newarray .int, 2) := by decide +kernel
theorem dX8_init_59 : decode cX8_init 59 = .ok (.putfield 28, 3) := by decide +kernel
theorem dX8_init_62 : decode cX8_init 62 = .ok (.aload_n 0, 1) := by decide +kernel
theorem dX8_init_63 : decode cX8_init 63 = .ok (.iconst 4, 1) := by decide +kernel
theorem dX8_init_64 : decode cX8_init 64 = .ok (.newarray .int, 2) := by decide +kernel
theorem dX8_init_66 : decode cX8_init 66 = .ok (.putfield 31, 3) := by decide +kernel
theorem dX8_init_69 : decode cX8_init 69 = .ok (.aload_n 0, 1) := by decide +kernel
theorem dX8_init_70 : decode cX8_init 70 = .ok (.iconst 4, 1) := by decide +kernel
theorem dX8_init_71 : decode cX8_init 71 = .ok (.newarray .int, 2) := by decide +kernel
theorem dX8_init_73 : decode cX8_init 73 = .ok (.putfield 34, 3) := by decide +kernel
theorem dX8_init_76 : decode cX8_init 76 = .ok (.aload_n 0, 1) := by decide +kernel
theorem dX8_init_77 : decode cX8_init 77 = .ok (.sipush 160, 3) := by decide +kernel
theorem dX8_init_80 : decode cX8_init 80 = .ok (.newarray .int, 2) := by decide +kernel
theorem dX8_init_82 : decode cX8_init 82 = .ok (.putfield 37, 3) := by decide +kernel
theorem dX8_init_85 : decode cX8_init 85 = .ok (.aload_n 0, 1) := by decide +kernel
theorem dX8_init_86 : decode cX8_init 86 = .ok (.bipush 40, 2) := by decide +kernel
theorem dX8_init_88 : decode cX8_init 88 = .ok (.newarray .int, 2) := by decide +kernel
theorem dX8_init_90 : decode cX8_init 90 = .ok (.putfield 40, 3) := by decide +kernel
theorem dX8_init_93 : decode cX8_init 93 = .ok (.iconst 0, 1) := by decide +kernel
theorem dX8_init_94 : decode cX8_init 94 = .ok (.istore_n 1, 1) := by decide +kernel
theorem dX8_init_95 : decode cX8_init 95 = .ok (.iload_n 1, 1) := by decide +kernel
theorem dX8_init_96 : decode cX8_init 96 = .ok (.iconst 1, 1) := by decide +kernel
theorem dX8_init_97 : decode cX8_init 97 = .ok (.iadd, 1) := by decide +kernel
theorem dX8_init_98 : decode cX8_init 98 = .ok (.bipush 8, 2) := by decide +kernel
theorem dX8_init_100 : decode cX8_init 100 = .ok (.if_icmp .ge 18, 3) := by decide +kernel
theorem dX8_init_103 : decode cX8_init 103 = .ok (.aload_n 0, 1) := by decide +kernel
theorem dX8_init_104 : decode cX8_init 104 = .ok (.iload_n 1, 1) := by decide +kernel
theorem dX8_init_105 : decode cX8_init 105 = .ok (.iload_n 1, 1) := by decide +kernel
theorem dX8_init_106 : decode cX8_init 106 = .ok (.iconst 1, 1) := by decide +kernel
theorem dX8_init_107 : decode cX8_init 107 = .ok (.iadd, 1) := by decide +kernel
theorem dX8_init_108 : decode cX8_init 108 = .ok (.iconst 1, 1) := by decide +kernel
theorem dX8_init_109 : decode cX8_init 109 = .ok (.invokevirtual 43, 3) := by decide +kernel
theorem dX8_init_112 : decode cX8_init 112 = .ok (.iinc 1 1, 3) := by decide +kernel
theorem dX8_init_115 : decode cX8_init 115 = .ok (.goto (-20), 3) := by decide +kernel
theorem dX8_init_118 : decode cX8_init 118 = .ok (.aload_n 0, 1) := by decide +kernel
theorem dX8_init_119 : decode cX8_init 119 = .ok (.getfield 9, 3) := by decide +kernel
theorem dX8_init_122 : decode cX8_init 122 = .ok (.bipush 8, 2) := by decide +kernel
theorem dX8_init_124 : decode cX8_init 124 = .ok (.iconst 3, 1) := by decide +kernel
theorem dX8_init_125 : decode cX8_init 125 = .ok (.iastore, 1) := by decide +kernel
theorem dX8_init_126 : decode cX8_init 126 = .ok (.aload_n 0, 1) := by decide +kernel
theorem dX8_init_127 : decode cX8_init 127 = .ok (.getfield 9, 3) := by decide +kernel
theorem dX8_init_130 : decode cX8_init 130 = .ok (.bipush 16, 2) := by decide +kernel
theorem dX8_init_132 : decode cX8_init 132 = .ok (.iconst 1, 1) := by decide +kernel
theorem dX8_init_133 : decode cX8_init 133 = .ok (.iastore, 1) := by decide +kernel
theorem dX8_init_134 : decode cX8_init 134 = .ok (.iconst 0, 1) := by decide +kernel
theorem dX8_init_135 : decode cX8_init 135 = .ok (.istore_n 1, 1) := by decide +kernel
theorem dX8_init_136 : decode cX8_init 136 = .ok (.iload_n 1, 1) := by decide +kernel
theorem dX8_init_137 : decode cX8_init 137 = .ok (.bipush 10, 2) := by decide +kernel
theorem dX8_init_139 : decode cX8_init 139 = .ok (.if_icmp .ge 19, 3) := by decide +kernel
theorem dX8_init_142 : decode cX8_init 142 = .ok (.aload_n 0, 1) := by decide +kernel
theorem dX8_init_143 : decode cX8_init 143 = .ok (.getfield 9, 3) := by decide +kernel
theorem dX8_init_146 : decode cX8_init 146 = .ok (.bipush 18, 2) := by decide +kernel
theorem dX8_init_148 : decode cX8_init 148 = .ok (.iload_n 1, 1) := by decide +kernel
theorem dX8_init_149 : decode cX8_init 149 = .ok (.iadd, 1) := by decide +kernel
theorem dX8_init_150 : decode cX8_init 150 = .ok (.iconst (-1), 1) := by decide +kernel
theorem dX8_init_151 : decode cX8_init 151 = .ok (.iastore, 1) := by decide +kernel
theorem dX8_init_152 : decode cX8_init 152 = .ok (.iinc 1 1, 3) := by decide +kernel
theorem dX8_init_155 : decode cX8_init 155 = .ok (.goto (-19), 3) := by decide +kernel
theorem dX8_init_158 : decode cX8_init 158 = .ok (.return_, 1) := by decide +kernel
theorem dX8_become_0 : decode cX8_become 0 = .ok (.iconst 0, 1) := by decide +kernel
theorem dX8_become_1 : decode cX8_become 1 = .ok (.istore_n 2, 1) := by decide +kernel
theorem dX8_become_2 : decode cX8_become 2 = .ok (.iload_n 2, 1) := by decide +kernel
theorem dX8_become_3 : decode cX8_become 3 = .ok (.bipush 120, 2) := by decide +kernel
theorem dX8_become_5 : decode cX8_become 5 = .ok (.if_icmp .ge 15, 3) := by decide +kernel
theorem dX8_become_8 : decode cX8_become 8 = .ok (.aload_n 1, 1) := by decide +kernel
theorem dX8_become_9 : decode cX8_become 9 = .ok (.iload_n 2, 1) := by decide +kernel
theorem dX8_become_10 : decode cX8_become 10 = .ok (.aload_n 0, 1) := by decide +kernel
theorem dX8_become_11 : decode cX8_become 11 = .ok (.iload_n 2, 1) := by decide +kernel
theorem dX8_become_12 : decode cX8_become 12 = .ok (.iaload, 1) := by decide +kernel
theorem dX8_become_13 : decode cX8_become 13 = .ok (.iastore, 1) := by decide +kernel
theorem dX8_become_14 : decode cX8_become 14 = .ok (.iinc 2 1, 3) := by decide +kernel
theorem dX8_become_17 : decode cX8_become 17 = .ok (.goto (-15), 3) := by decide +kernel
theorem dX8_become_20 : decode cX8_become 20 = .ok (.return_, 1) := by decide +kernel
theorem dX8_lends_0 : decode cX8_lends 0 = .ok (.aload_n 0, 1) := by decide +kernel
theorem dX8_lends_1 : decode cX8_lends 1 = .ok (.getfield 9, 3) := by decide +kernel
theorem dX8_lends_4 : decode cX8_lends 4 = .ok (.aload_n 0, 1) := by decide +kernel
theorem dX8_lends_5 : decode cX8_lends 5 = .ok (.getfield 16, 3) := by decide +kernel
theorem dX8_lends_8 : decode cX8_lends 8 = .ok (.invokestatic 47, 3) := by decide +kernel
theorem dX8_lends_11 : decode cX8_lends 11 = .ok (.return_, 1) := by decide +kernel
theorem dX8_laysBack_0 : decode cX8_laysBack 0 = .ok (.aload_n 0, 1) := by decide +kernel
theorem dX8_laysBack_1 : decode cX8_laysBack 1 = .ok (.getfield 16, 3) := by decide +kernel
theorem dX8_laysBack_4 : decode cX8_laysBack 4 = .ok (.aload_n 0, 1) := by decide +kernel
theorem dX8_laysBack_5 : decode cX8_laysBack 5 = .ok (.getfield 9, 3) := by decide +kernel
theorem dX8_laysBack_8 : decode cX8_laysBack 8 = .ok (.invokestatic 47, 3) := by decide +kernel
theorem dX8_laysBack_11 : decode cX8_laysBack 11 = .ok (.return_, 1) := by decide +kernel
theorem dX8_finding_0 : decode cX8_finding 0 = .ok (.aload_n 0, 1) := by decide +kernel
theorem dX8_finding_1 : decode cX8_finding 1 = .ok (.getfield 22, 3) := by decide +kernel
theorem dX8_finding_4 : decode cX8_finding 4 = .ok (.iload_n 1, 1) := by decide +kernel
theorem dX8_finding_5 : decode cX8_finding 5 = .ok (.dup2, 1) := by decide +kernel
theorem dX8_finding_6 : decode cX8_finding 6 = .ok (.iaload, 1) := by decide +kernel
theorem dX8_finding_7 : decode cX8_finding 7 = .ok (.iconst 1, 1) := by decide +kernel
theorem dX8_finding_8 : decode cX8_finding 8 = .ok (.iadd, 1) := by decide +kernel
theorem dX8_finding_9 : decode cX8_finding 9 = .ok (.iastore, 1) := by decide +kernel
theorem dX8_finding_10 : decode cX8_finding 10 = .ok (.ldc 51, 2) := by decide +kernel
theorem dX8_finding_12 : decode cX8_finding 12 = .ok (.iload_n 1, 1) := by decide +kernel
theorem dX8_finding_13 : decode cX8_finding 13 = .ok (.isub, 1) := by decide +kernel
theorem dX8_finding_14 : decode cX8_finding 14 = .ok (.ireturn, 1) := by decide +kernel
theorem dX8_within_0 : decode cX8_within 0 = .ok (.lload_n 0, 1) := by decide +kernel
theorem dX8_within_1 : decode cX8_within 1 = .ok (.lload_n 2, 1) := by decide +kernel
theorem dX8_within_2 : decode cX8_within 2 = .ok (.lcmp, 1) := by decide +kernel
theorem dX8_within_3 : decode cX8_within 3 = .ok (.ifCond .lt 14, 3) := by decide +kernel
theorem dX8_within_6 : decode cX8_within 6 = .ok (.lload_n 0, 1) := by decide +kernel
theorem dX8_within_7 : decode cX8_within 7 = .ok (.lload 4, 2) := by decide +kernel
theorem dX8_within_9 : decode cX8_within 9 = .ok (.lcmp, 1) := by decide +kernel
theorem dX8_within_10 : decode cX8_within 10 = .ok (.ifCond .gt 7, 3) := by decide +kernel
theorem dX8_within_13 : decode cX8_within 13 = .ok (.iconst 1, 1) := by decide +kernel
theorem dX8_within_14 : decode cX8_within 14 = .ok (.goto 4, 3) := by decide +kernel
theorem dX8_within_17 : decode cX8_within 17 = .ok (.iconst 0, 1) := by decide +kernel
theorem dX8_within_18 : decode cX8_within 18 = .ok (.ireturn, 1) := by decide +kernel
theorem dX8_isRoom_0 : decode cX8_isRoom 0 = .ok (.iload_n 0, 1) := by decide +kernel
theorem dX8_isRoom_1 : decode cX8_isRoom 1 = .ok (.i2l, 1) := by decide +kernel
theorem dX8_isRoom_2 : decode cX8_isRoom 2 = .ok (.lconst 0, 1) := by decide +kernel
theorem dX8_isRoom_3 : decode cX8_isRoom 3 = .ok (.ldc2_w 52, 3) := by decide +kernel
theorem dX8_isRoom_6 : decode cX8_isRoom 6 = .ok (.invokestatic 54, 3) := by decide +kernel
theorem dX8_isRoom_9 : decode cX8_isRoom 9 = .ok (.ireturn, 1) := by decide +kernel
theorem dX8_isThing_0 : decode cX8_isThing 0 = .ok (.iload_n 1, 1) := by decide +kernel
theorem dX8_isThing_1 : decode cX8_isThing 1 = .ok (.i2l, 1) := by decide +kernel
theorem dX8_isThing_2 : decode cX8_isThing 2 = .ok (.lconst 0, 1) := by decide +kernel
theorem dX8_isThing_3 : decode cX8_isThing 3 = .ok (.aload_n 0, 1) := by decide +kernel
theorem dX8_isThing_4 : decode cX8_isThing 4 = .ok (.getfield 9, 3) := by decide +kernel
theorem dX8_isThing_7 : decode cX8_isThing 7 = .ok (.bipush 11, 2) := by decide +kernel
theorem dX8_isThing_9 : decode cX8_isThing 9 = .ok (.iaload, 1) := by decide +kernel
theorem dX8_isThing_10 : decode cX8_isThing 10 = .ok (.iconst 1, 1) := by decide +kernel
theorem dX8_isThing_11 : decode cX8_isThing 11 = .ok (.isub, 1) := by decide +kernel
theorem dX8_isThing_12 : decode cX8_isThing 12 = .ok (.i2l, 1) := by decide +kernel
theorem dX8_isThing_13 : decode cX8_isThing 13 = .ok (.invokestatic 54, 3) := by decide +kernel
theorem dX8_isThing_16 : decode cX8_isThing 16 = .ok (.ireturn, 1) := by decide +kernel
theorem dX8_isOne_0 : decode cX8_isOne 0 = .ok (.iload_n 1, 1) := by decide +kernel
theorem dX8_isOne_1 : decode cX8_isOne 1 = .ok (.i2l, 1) := by decide +kernel
theorem dX8_isOne_2 : decode cX8_isOne 2 = .ok (.lconst 0, 1) := by decide +kernel
theorem dX8_isOne_3 : decode cX8_isOne 3 = .ok (.aload_n 0, 1) := by decide +kernel
theorem dX8_isOne_4 : decode cX8_isOne 4 = .ok (.getfield 9, 3) := by decide +kernel
theorem dX8_isOne_7 : decode cX8_isOne 7 = .ok (.bipush 12, 2) := by decide +kernel
theorem dX8_isOne_9 : decode cX8_isOne 9 = .ok (.iaload, 1) := by decide +kernel
theorem dX8_isOne_10 : decode cX8_isOne 10 = .ok (.iconst 1, 1) := by decide +kernel
theorem dX8_isOne_11 : decode cX8_isOne 11 = .ok (.isub, 1) := by decide +kernel
theorem dX8_isOne_12 : decode cX8_isOne 12 = .ok (.i2l, 1) := by decide +kernel
theorem dX8_isOne_13 : decode cX8_isOne 13 = .ok (.invokestatic 54, 3) := by decide +kernel
theorem dX8_isOne_16 : decode cX8_isOne 16 = .ok (.ireturn, 1) := by decide +kernel
theorem dX8_isKind_0 : decode cX8_isKind 0 = .ok (.iload_n 0, 1) := by decide +kernel
theorem dX8_isKind_1 : decode cX8_isKind 1 = .ok (.i2l, 1) := by decide +kernel
theorem dX8_isKind_2 : decode cX8_isKind 2 = .ok (.lconst 0, 1) := by decide +kernel
theorem dX8_isKind_3 : decode cX8_isKind 3 = .ok (.ldc2_w 58, 3) := by decide +kernel
theorem dX8_isKind_6 : decode cX8_isKind 6 = .ok (.invokestatic 54, 3) := by decide +kernel
theorem dX8_isKind_9 : decode cX8_isKind 9 = .ok (.ireturn, 1) := by decide +kernel
theorem dX8_isPlace_0 : decode cX8_isPlace 0 = .ok (.iload_n 0, 1) := by decide +kernel
theorem dX8_isPlace_1 : decode cX8_isPlace 1 = .ok (.i2l, 1) := by decide +kernel
theorem dX8_isPlace_2 : decode cX8_isPlace 2 = .ok (.lconst 0, 1) := by decide +kernel
theorem dX8_isPlace_3 : decode cX8_isPlace 3 = .ok (.ldc2_w 60, 3) := by decide +kernel
theorem dX8_isPlace_6 : decode cX8_isPlace 6 = .ok (.invokestatic 54, 3) := by decide +kernel
theorem dX8_isPlace_9 : decode cX8_isPlace 9 = .ok (.ireturn, 1) := by decide +kernel
theorem dX8_isOpen_0 : decode cX8_isOpen 0 = .ok (.aload_n 0, 1) := by decide +kernel
theorem dX8_isOpen_1 : decode cX8_isOpen 1 = .ok (.getfield 9, 3) := by decide +kernel
theorem dX8_isOpen_4 : decode cX8_isOpen 4 = .ok (.iconst 0, 1) := by decide +kernel
theorem dX8_isOpen_5 : decode cX8_isOpen 5 = .ok (.iload_n 1, 1) := by decide +kernel
theorem dX8_isOpen_6 : decode cX8_isOpen 6 = .ok (.iadd, 1) := by decide +kernel
theorem dX8_isOpen_7 : decode cX8_isOpen 7 = .ok (.iaload, 1) := by decide +kernel
theorem dX8_isOpen_8 : decode cX8_isOpen 8 = .ok (.iload_n 2, 1) := by decide +kernel
theorem dX8_isOpen_9 : decode cX8_isOpen 9 = .ok (.ishr, 1) := by decide +kernel
theorem dX8_isOpen_10 : decode cX8_isOpen 10 = .ok (.iconst 1, 1) := by decide +kernel
theorem dX8_isOpen_11 : decode cX8_isOpen 11 = .ok (.iand, 1) := by decide +kernel
theorem dX8_isOpen_12 : decode cX8_isOpen 12 = .ok (.iconst 1, 1) := by decide +kernel
theorem dX8_isOpen_13 : decode cX8_isOpen 13 = .ok (.if_icmp .ne 7, 3) := by decide +kernel
theorem dX8_isOpen_16 : decode cX8_isOpen 16 = .ok (.iconst 1, 1) := by decide +kernel
theorem dX8_isOpen_17 : decode cX8_isOpen 17 = .ok (.goto 4, 3) := by decide +kernel
theorem dX8_isOpen_20 : decode cX8_isOpen 20 = .ok (.iconst 0, 1) := by decide +kernel
theorem dX8_isOpen_21 : decode cX8_isOpen 21 = .ok (.ireturn, 1) := by decide +kernel
theorem dX8_opensDoor_0 : decode cX8_opensDoor 0 = .ok (.aload_n 0, 1) := by decide +kernel
theorem dX8_opensDoor_1 : decode cX8_opensDoor 1 = .ok (.getfield 9, 3) := by decide +kernel
theorem dX8_opensDoor_4 : decode cX8_opensDoor 4 = .ok (.iconst 0, 1) := by decide +kernel
theorem dX8_opensDoor_5 : decode cX8_opensDoor 5 = .ok (.iload_n 1, 1) := by decide +kernel
theorem dX8_opensDoor_6 : decode cX8_opensDoor 6 = .ok (.iadd, 1) := by decide +kernel
theorem dX8_opensDoor_7 : decode cX8_opensDoor 7 = .ok (.iload_n 3, 1) := by decide +kernel
theorem dX8_opensDoor_8 : decode cX8_opensDoor 8 = .ok (.ifCond .eq 18, 3) := by decide +kernel
theorem dX8_opensDoor_11 : decode cX8_opensDoor 11 = .ok (.aload_n 0, 1) := by decide +kernel
theorem dX8_opensDoor_12 : decode cX8_opensDoor 12 = .ok (.getfield 9, 3) := by decide +kernel
theorem dX8_opensDoor_15 : decode cX8_opensDoor 15 = .ok (.iconst 0, 1) := by decide +kernel
theorem dX8_opensDoor_16 : decode cX8_opensDoor 16 = .ok (.iload_n 1, 1) := by decide +kernel
theorem dX8_opensDoor_17 : decode cX8_opensDoor 17 = .ok (.iadd, 1) := by decide +kernel
theorem dX8_opensDoor_18 : decode cX8_opensDoor 18 = .ok (.iaload, 1) := by decide +kernel
theorem dX8_opensDoor_19 : decode cX8_opensDoor 19 = .ok (.iconst 1, 1) := by decide +kernel
theorem dX8_opensDoor_20 : decode cX8_opensDoor 20 = .ok (.iload_n 2, 1) := by decide +kernel
theorem dX8_opensDoor_21 : decode cX8_opensDoor 21 = .ok (.ishl, 1) := by decide +kernel
theorem dX8_opensDoor_22 : decode cX8_opensDoor 22 = .ok (.ior, 1) := by decide +kernel
theorem dX8_opensDoor_23 : decode cX8_opensDoor 23 = .ok (.goto 17, 3) := by decide +kernel
theorem dX8_opensDoor_26 : decode cX8_opensDoor 26 = .ok (.aload_n 0, 1) := by decide +kernel
theorem dX8_opensDoor_27 : decode cX8_opensDoor 27 = .ok (.getfield 9, 3) := by decide +kernel
theorem dX8_opensDoor_30 : decode cX8_opensDoor 30 = .ok (.iconst 0, 1) := by decide +kernel
theorem dX8_opensDoor_31 : decode cX8_opensDoor 31 = .ok (.iload_n 1, 1) := by decide +kernel
theorem dX8_opensDoor_32 : decode cX8_opensDoor 32 = .ok (.iadd, 1) := by decide +kernel
theorem dX8_opensDoor_33 : decode cX8_opensDoor 33 = .ok (.iaload, 1) := by decide +kernel
theorem dX8_opensDoor_34 : decode cX8_opensDoor 34 = .ok (.iconst 1, 1) := by decide +kernel
theorem dX8_opensDoor_35 : decode cX8_opensDoor 35 = .ok (.iload_n 2, 1) := by decide +kernel
theorem dX8_opensDoor_36 : decode cX8_opensDoor 36 = .ok (.ishl, 1) := by decide +kernel
theorem dX8_opensDoor_37 : decode cX8_opensDoor 37 = .ok (.iconst (-1), 1) := by decide +kernel
theorem dX8_opensDoor_38 : decode cX8_opensDoor 38 = .ok (.ixor, 1) := by decide +kernel
theorem dX8_opensDoor_39 : decode cX8_opensDoor 39 = .ok (.iand, 1) := by decide +kernel
theorem dX8_opensDoor_40 : decode cX8_opensDoor 40 = .ok (.iastore, 1) := by decide +kernel
theorem dX8_opensDoor_41 : decode cX8_opensDoor 41 = .ok (.aload_n 0, 1) := by decide +kernel
theorem dX8_opensDoor_42 : decode cX8_opensDoor 42 = .ok (.getfield 9, 3) := by decide +kernel
theorem dX8_opensDoor_45 : decode cX8_opensDoor 45 = .ok (.iconst 0, 1) := by decide +kernel
theorem dX8_opensDoor_46 : decode cX8_opensDoor 46 = .ok (.iload_n 2, 1) := by decide +kernel
theorem dX8_opensDoor_47 : decode cX8_opensDoor 47 = .ok (.iadd, 1) := by decide +kernel
theorem dX8_opensDoor_48 : decode cX8_opensDoor 48 = .ok (.iload_n 3, 1) := by decide +kernel
theorem dX8_opensDoor_49 : decode cX8_opensDoor 49 = .ok (.ifCond .eq 18, 3) := by decide +kernel
theorem dX8_opensDoor_52 : decode cX8_opensDoor 52 = .ok (.aload_n 0, 1) := by decide +kernel
theorem dX8_opensDoor_53 : decode cX8_opensDoor 53 = .ok (.getfield 9, 3) := by decide +kernel
theorem dX8_opensDoor_56 : decode cX8_opensDoor 56 = .ok (.iconst 0, 1) := by decide +kernel
theorem dX8_opensDoor_57 : decode cX8_opensDoor 57 = .ok (.iload_n 2, 1) := by decide +kernel
theorem dX8_opensDoor_58 : decode cX8_opensDoor 58 = .ok (.iadd, 1) := by decide +kernel
theorem dX8_opensDoor_59 : decode cX8_opensDoor 59 = .ok (.iaload, 1) := by decide +kernel
theorem dX8_opensDoor_60 : decode cX8_opensDoor 60 = .ok (.iconst 1, 1) := by decide +kernel
theorem dX8_opensDoor_61 : decode cX8_opensDoor 61 = .ok (.iload_n 1, 1) := by decide +kernel
theorem dX8_opensDoor_62 : decode cX8_opensDoor 62 = .ok (.ishl, 1) := by decide +kernel
theorem dX8_opensDoor_63 : decode cX8_opensDoor 63 = .ok (.ior, 1) := by decide +kernel
theorem dX8_opensDoor_64 : decode cX8_opensDoor 64 = .ok (.goto 17, 3) := by decide +kernel
theorem dX8_opensDoor_67 : decode cX8_opensDoor 67 = .ok (.aload_n 0, 1) := by decide +kernel
theorem dX8_opensDoor_68 : decode cX8_opensDoor 68 = .ok (.getfield 9, 3) := by decide +kernel
theorem dX8_opensDoor_71 : decode cX8_opensDoor 71 = .ok (.iconst 0, 1) := by decide +kernel
theorem dX8_opensDoor_72 : decode cX8_opensDoor 72 = .ok (.iload_n 2, 1) := by decide +kernel
theorem dX8_opensDoor_73 : decode cX8_opensDoor 73 = .ok (.iadd, 1) := by decide +kernel
theorem dX8_opensDoor_74 : decode cX8_opensDoor 74 = .ok (.iaload, 1) := by decide +kernel
theorem dX8_opensDoor_75 : decode cX8_opensDoor 75 = .ok (.iconst 1, 1) := by decide +kernel
theorem dX8_opensDoor_76 : decode cX8_opensDoor 76 = .ok (.iload_n 1, 1) := by decide +kernel
theorem dX8_opensDoor_77 : decode cX8_opensDoor 77 = .ok (.ishl, 1) := by decide +kernel
theorem dX8_opensDoor_78 : decode cX8_opensDoor 78 = .ok (.iconst (-1), 1) := by decide +kernel
theorem dX8_opensDoor_79 : decode cX8_opensDoor 79 = .ok (.ixor, 1) := by decide +kernel
theorem dX8_opensDoor_80 : decode cX8_opensDoor 80 = .ok (.iand, 1) := by decide +kernel
theorem dX8_opensDoor_81 : decode cX8_opensDoor 81 = .ok (.iastore, 1) := by decide +kernel
theorem dX8_opensDoor_82 : decode cX8_opensDoor 82 = .ok (.return_, 1) := by decide +kernel
theorem dX8_above_0 : decode cX8_above 0 = .ok (.iload_n 0, 1) := by decide +kernel
theorem dX8_above_1 : decode cX8_above 1 = .ok (.ifCond .ne 7, 3) := by decide +kernel
theorem dX8_above_4 : decode cX8_above 4 = .ok (.iconst (-1), 1) := by decide +kernel
theorem dX8_above_5 : decode cX8_above 5 = .ok (.goto 31, 3) := by decide +kernel
theorem dX8_above_8 : decode cX8_above 8 = .ok (.iload_n 0, 1) := by decide +kernel
theorem dX8_above_9 : decode cX8_above 9 = .ok (.iconst 2, 1) := by decide +kernel
theorem dX8_above_10 : decode cX8_above 10 = .ok (.if_icmp .ne 7, 3) := by decide +kernel
theorem dX8_above_13 : decode cX8_above 13 = .ok (.iconst 1, 1) := by decide +kernel
theorem dX8_above_14 : decode cX8_above 14 = .ok (.goto 22, 3) := by decide +kernel
theorem dX8_above_17 : decode cX8_above 17 = .ok (.iload_n 0, 1) := by decide +kernel
theorem dX8_above_18 : decode cX8_above 18 = .ok (.iconst 3, 1) := by decide +kernel
theorem dX8_above_19 : decode cX8_above 19 = .ok (.if_icmp .ne 7, 3) := by decide +kernel
theorem dX8_above_22 : decode cX8_above 22 = .ok (.iconst 2, 1) := by decide +kernel
theorem dX8_above_23 : decode cX8_above 23 = .ok (.goto 13, 3) := by decide +kernel
theorem dX8_above_26 : decode cX8_above 26 = .ok (.iload_n 0, 1) := by decide +kernel
theorem dX8_above_27 : decode cX8_above 27 = .ok (.iconst 5, 1) := by decide +kernel
theorem dX8_above_28 : decode cX8_above 28 = .ok (.if_icmp .ne 7, 3) := by decide +kernel
theorem dX8_above_31 : decode cX8_above 31 = .ok (.iconst 4, 1) := by decide +kernel
theorem dX8_above_32 : decode cX8_above 32 = .ok (.goto 4, 3) := by decide +kernel
theorem dX8_above_35 : decode cX8_above 35 = .ok (.iconst 0, 1) := by decide +kernel
theorem dX8_above_36 : decode cX8_above 36 = .ok (.ireturn, 1) := by decide +kernel
theorem dX8_isUnder_0 : decode cX8_isUnder 0 = .ok (.iload_n 0, 1) := by decide +kernel
theorem dX8_isUnder_1 : decode cX8_isUnder 1 = .ok (.istore_n 2, 1) := by decide +kernel
theorem dX8_isUnder_2 : decode cX8_isUnder 2 = .ok (.iload_n 2, 1) := by decide +kernel
theorem dX8_isUnder_3 : decode cX8_isUnder 3 = .ok (.ifCond .lt 16, 3) := by decide +kernel
theorem dX8_isUnder_6 : decode cX8_isUnder 6 = .ok (.iload_n 2, 1) := by decide +kernel
theorem dX8_isUnder_7 : decode cX8_isUnder 7 = .ok (.iload_n 1, 1) := by decide +kernel
theorem dX8_isUnder_8 : decode cX8_isUnder 8 = .ok (.if_icmp .eq 11, 3) := by decide +kernel
theorem dX8_isUnder_11 : decode cX8_isUnder 11 = .ok (.iload_n 2, 1) := by decide +kernel
theorem dX8_isUnder_12 : decode cX8_isUnder 12 = .ok (.invokestatic 62, 3) := by decide +kernel
theorem dX8_isUnder_15 : decode cX8_isUnder 15 = .ok (.istore_n 2, 1) := by decide +kernel
theorem dX8_isUnder_16 : decode cX8_isUnder 16 = .ok (.goto (-14), 3) := by decide +kernel
theorem dX8_isUnder_19 : decode cX8_isUnder 19 = .ok (.iload_n 2, 1) := by decide +kernel
theorem dX8_isUnder_20 : decode cX8_isUnder 20 = .ok (.ifCond .lt 7, 3) := by decide +kernel
theorem dX8_isUnder_23 : decode cX8_isUnder 23 = .ok (.iconst 1, 1) := by decide +kernel
theorem dX8_isUnder_24 : decode cX8_isUnder 24 = .ok (.goto 4, 3) := by decide +kernel
theorem dX8_isUnder_27 : decode cX8_isUnder 27 = .ok (.iconst 0, 1) := by decide +kernel
theorem dX8_isUnder_28 : decode cX8_isUnder 28 = .ok (.ireturn, 1) := by decide +kernel
theorem dX8_heft_0 : decode cX8_heft 0 = .ok (.iload_n 1, 1) := by decide +kernel
theorem dX8_heft_1 : decode cX8_heft 1 = .ok (.iload_n 2, 1) := by decide +kernel
theorem dX8_heft_2 : decode cX8_heft 2 = .ok (.ishr, 1) := by decide +kernel
theorem dX8_heft_3 : decode cX8_heft 3 = .ok (.istore_n 3, 1) := by decide +kernel
theorem dX8_heft_4 : decode cX8_heft 4 = .ok (.iload_n 0, 1) := by decide +kernel
theorem dX8_heft_5 : decode cX8_heft 5 = .ok (.tableswitch 62 1 6 #[39, 43, 49, 56, 58, 60], 39) := by decide +kernel
theorem dX8_heft_44 : decode cX8_heft 44 = .ok (.iload_n 3, 1) := by decide +kernel
theorem dX8_heft_45 : decode cX8_heft 45 = .ok (.iconst 1, 1) := by decide +kernel
theorem dX8_heft_46 : decode cX8_heft 46 = .ok (.iadd, 1) := by decide +kernel
theorem dX8_heft_47 : decode cX8_heft 47 = .ok (.ireturn, 1) := by decide +kernel
theorem dX8_heft_48 : decode cX8_heft 48 = .ok (.iconst 2, 1) := by decide +kernel
theorem dX8_heft_49 : decode cX8_heft 49 = .ok (.iload_n 3, 1) := by decide +kernel
theorem dX8_heft_50 : decode cX8_heft 50 = .ok (.imul, 1) := by decide +kernel
theorem dX8_heft_51 : decode cX8_heft 51 = .ok (.iconst 2, 1) := by decide +kernel
theorem dX8_heft_52 : decode cX8_heft 52 = .ok (.iadd, 1) := by decide +kernel
theorem dX8_heft_53 : decode cX8_heft 53 = .ok (.ireturn, 1) := by decide +kernel
theorem dX8_heft_54 : decode cX8_heft 54 = .ok (.iconst 2, 1) := by decide +kernel
theorem dX8_heft_55 : decode cX8_heft 55 = .ok (.iload_n 3, 1) := by decide +kernel
theorem dX8_heft_56 : decode cX8_heft 56 = .ok (.imul, 1) := by decide +kernel
theorem dX8_heft_57 : decode cX8_heft 57 = .ok (.bipush 7, 2) := by decide +kernel
theorem dX8_heft_59 : decode cX8_heft 59 = .ok (.iadd, 1) := by decide +kernel
theorem dX8_heft_60 : decode cX8_heft 60 = .ok (.ireturn, 1) := by decide +kernel
theorem dX8_heft_61 : decode cX8_heft 61 = .ok (.iconst 1, 1) := by decide +kernel
theorem dX8_heft_62 : decode cX8_heft 62 = .ok (.ireturn, 1) := by decide +kernel
theorem dX8_heft_63 : decode cX8_heft 63 = .ok (.iconst 0, 1) := by decide +kernel
theorem dX8_heft_64 : decode cX8_heft 64 = .ok (.ireturn, 1) := by decide +kernel
theorem dX8_heft_65 : decode cX8_heft 65 = .ok (.iload_n 1, 1) := by decide +kernel
theorem dX8_heft_66 : decode cX8_heft 66 = .ok (.ireturn, 1) := by decide +kernel
theorem dX8_heft_67 : decode cX8_heft 67 = .ok (.iload_n 3, 1) := by decide +kernel
theorem dX8_heft_68 : decode cX8_heft 68 = .ok (.ireturn, 1) := by decide +kernel
theorem dX8_weighs_0 : decode cX8_weighs 0 = .ok (.aload_n 0, 1) := by decide +kernel
theorem dX8_weighs_1 : decode cX8_weighs 1 = .ok (.getfield 9, 3) := by decide +kernel
theorem dX8_weighs_4 : decode cX8_weighs 4 = .ok (.bipush 28, 2) := by decide +kernel
theorem dX8_weighs_6 : decode cX8_weighs 6 = .ok (.iload_n 1, 1) := by decide +kernel
theorem dX8_weighs_7 : decode cX8_weighs 7 = .ok (.iadd, 1) := by decide +kernel
theorem dX8_weighs_8 : decode cX8_weighs 8 = .ok (.iaload, 1) := by decide +kernel
theorem dX8_weighs_9 : decode cX8_weighs 9 = .ok (.aload_n 0, 1) := by decide +kernel
theorem dX8_weighs_10 : decode cX8_weighs 10 = .ok (.getfield 9, 3) := by decide +kernel
theorem dX8_weighs_13 : decode cX8_weighs 13 = .ok (.bipush 44, 2) := by decide +kernel
theorem dX8_weighs_15 : decode cX8_weighs 15 = .ok (.iload_n 1, 1) := by decide +kernel
theorem dX8_weighs_16 : decode cX8_weighs 16 = .ok (.iadd, 1) := by decide +kernel
theorem dX8_weighs_17 : decode cX8_weighs 17 = .ok (.iaload, 1) := by decide +kernel
theorem dX8_weighs_18 : decode cX8_weighs 18 = .ok (.iload_n 2, 1) := by decide +kernel
theorem dX8_weighs_19 : decode cX8_weighs 19 = .ok (.invokestatic 66, 3) := by decide +kernel
theorem dX8_weighs_22 : decode cX8_weighs 22 = .ok (.ireturn, 1) := by decide +kernel
theorem dX8_roomOf_0 : decode cX8_roomOf 0 = .ok (.aload_n 0, 1) := by decide +kernel
theorem dX8_roomOf_1 : decode cX8_roomOf 1 = .ok (.getfield 9, 3) := by decide +kernel
theorem dX8_roomOf_4 : decode cX8_roomOf 4 = .ok (.bipush 52, 2) := by decide +kernel
theorem dX8_roomOf_6 : decode cX8_roomOf 6 = .ok (.iload_n 1, 1) := by decide +kernel
theorem dX8_roomOf_7 : decode cX8_roomOf 7 = .ok (.iadd, 1) := by decide +kernel
theorem dX8_roomOf_8 : decode cX8_roomOf 8 = .ok (.iaload, 1) := by decide +kernel
theorem dX8_roomOf_9 : decode cX8_roomOf 9 = .ok (.bipush 8, 2) := by decide +kernel
theorem dX8_roomOf_11 : decode cX8_roomOf 11 = .ok (.irem, 1) := by decide +kernel
theorem dX8_roomOf_12 : decode cX8_roomOf 12 = .ok (.ireturn, 1) := by decide +kernel
theorem dX8_levelOf_0 : decode cX8_levelOf 0 = .ok (.aload_n 0, 1) := by decide +kernel
theorem dX8_levelOf_1 : decode cX8_levelOf 1 = .ok (.getfield 9, 3) := by decide +kernel
theorem dX8_levelOf_4 : decode cX8_levelOf 4 = .ok (.bipush 52, 2) := by decide +kernel
theorem dX8_levelOf_6 : decode cX8_levelOf 6 = .ok (.iload_n 1, 1) := by decide +kernel
theorem dX8_levelOf_7 : decode cX8_levelOf 7 = .ok (.iadd, 1) := by decide +kernel
theorem dX8_levelOf_8 : decode cX8_levelOf 8 = .ok (.iaload, 1) := by decide +kernel
theorem dX8_levelOf_9 : decode cX8_levelOf 9 = .ok (.bipush 8, 2) := by decide +kernel
theorem dX8_levelOf_11 : decode cX8_levelOf 11 = .ok (.idiv, 1) := by decide +kernel
theorem dX8_levelOf_12 : decode cX8_levelOf 12 = .ok (.ireturn, 1) := by decide +kernel
theorem dX8_door_0 : decode cX8_door 0 = .ok (.iload_n 1, 1) := by decide +kernel
theorem dX8_door_1 : decode cX8_door 1 = .ok (.invokestatic 70, 3) := by decide +kernel
theorem dX8_door_4 : decode cX8_door 4 = .ok (.ifCond .eq 25, 3) := by decide +kernel
theorem dX8_door_7 : decode cX8_door 7 = .ok (.iload_n 2, 1) := by decide +kernel
theorem dX8_door_8 : decode cX8_door 8 = .ok (.invokestatic 70, 3) := by decide +kernel
theorem dX8_door_11 : decode cX8_door 11 = .ok (.ifCond .eq 18, 3) := by decide +kernel
theorem dX8_door_14 : decode cX8_door 14 = .ok (.iload_n 1, 1) := by decide +kernel
theorem dX8_door_15 : decode cX8_door 15 = .ok (.iload_n 2, 1) := by decide +kernel
theorem dX8_door_16 : decode cX8_door 16 = .ok (.if_icmp .eq 13, 3) := by decide +kernel
theorem dX8_door_19 : decode cX8_door 19 = .ok (.iload_n 3, 1) := by decide +kernel
theorem dX8_door_20 : decode cX8_door 20 = .ok (.i2l, 1) := by decide +kernel
theorem dX8_door_21 : decode cX8_door 21 = .ok (.lconst 0, 1) := by decide +kernel
theorem dX8_door_22 : decode cX8_door 22 = .ok (.lconst 1, 1) := by decide +kernel
theorem dX8_door_23 : decode cX8_door 23 = .ok (.invokestatic 54, 3) := by decide +kernel
theorem dX8_door_26 : decode cX8_door 26 = .ok (.ifCond .ne 9, 3) := by decide +kernel
theorem dX8_door_29 : decode cX8_door 29 = .ok (.aload_n 0, 1) := by decide +kernel
theorem dX8_door_30 : decode cX8_door 30 = .ok (.iconst 0, 1) := by decide +kernel
theorem dX8_door_31 : decode cX8_door 31 = .ok (.invokevirtual 74, 3) := by decide +kernel
theorem dX8_door_34 : decode cX8_door 34 = .ok (.ireturn, 1) := by decide +kernel
theorem dX8_door_35 : decode cX8_door 35 = .ok (.aload_n 0, 1) := by decide +kernel
theorem dX8_door_36 : decode cX8_door 36 = .ok (.iload_n 1, 1) := by decide +kernel
theorem dX8_door_37 : decode cX8_door 37 = .ok (.iload_n 2, 1) := by decide +kernel
theorem dX8_door_38 : decode cX8_door 38 = .ok (.invokevirtual 77, 3) := by decide +kernel
theorem dX8_door_41 : decode cX8_door 41 = .ok (.ifCond .eq 7, 3) := by decide +kernel
theorem dX8_door_44 : decode cX8_door 44 = .ok (.iconst 1, 1) := by decide +kernel
theorem dX8_door_45 : decode cX8_door 45 = .ok (.goto 4, 3) := by decide +kernel
theorem dX8_door_48 : decode cX8_door 48 = .ok (.iconst 0, 1) := by decide +kernel
theorem dX8_door_49 : decode cX8_door 49 = .ok (.istore 4, 2) := by decide +kernel
theorem dX8_door_51 : decode cX8_door 51 = .ok (.aload_n 0, 1) := by decide +kernel
theorem dX8_door_52 : decode cX8_door 52 = .ok (.iload_n 1, 1) := by decide +kernel
theorem dX8_door_53 : decode cX8_door 53 = .ok (.iload_n 2, 1) := by decide +kernel
theorem dX8_door_54 : decode cX8_door 54 = .ok (.iload_n 3, 1) := by decide +kernel
theorem dX8_door_55 : decode cX8_door 55 = .ok (.iconst 1, 1) := by decide +kernel
theorem dX8_door_56 : decode cX8_door 56 = .ok (.if_icmp .ne 7, 3) := by decide +kernel
theorem dX8_door_59 : decode cX8_door 59 = .ok (.iconst 1, 1) := by decide +kernel
theorem dX8_door_60 : decode cX8_door 60 = .ok (.goto 4, 3) := by decide +kernel
theorem dX8_door_63 : decode cX8_door 63 = .ok (.iconst 0, 1) := by decide +kernel
theorem dX8_door_64 : decode cX8_door 64 = .ok (.invokevirtual 43, 3) := by decide +kernel
theorem dX8_door_67 : decode cX8_door 67 = .ok (.iload 4, 2) := by decide +kernel
theorem dX8_door_69 : decode cX8_door 69 = .ok (.ireturn, 1) := by decide +kernel
theorem dX8_rule_0 : decode cX8_rule 0 = .ok (.iload_n 1, 1) := by decide +kernel
theorem dX8_rule_1 : decode cX8_rule 1 = .ok (.iconst 2, 1) := by decide +kernel
theorem dX8_rule_2 : decode cX8_rule 2 = .ok (.if_icmp .ne 15, 3) := by decide +kernel
theorem dX8_rule_5 : decode cX8_rule 5 = .ok (.iload_n 2, 1) := by decide +kernel
theorem dX8_rule_6 : decode cX8_rule 6 = .ok (.i2l, 1) := by decide +kernel
theorem dX8_rule_7 : decode cX8_rule 7 = .ok (.lconst 0, 1) := by decide +kernel
theorem dX8_rule_8 : decode cX8_rule 8 = .ok (.ldc2_w 81, 3) := by decide +kernel
theorem dX8_rule_11 : decode cX8_rule 11 = .ok (.invokestatic 54, 3) := by decide +kernel
theorem dX8_rule_14 : decode cX8_rule 14 = .ok (.goto 25, 3) := by decide +kernel
theorem dX8_rule_17 : decode cX8_rule 17 = .ok (.iload_n 1, 1) := by decide +kernel
theorem dX8_rule_18 : decode cX8_rule 18 = .ok (.i2l, 1) := by decide +kernel
theorem dX8_rule_19 : decode cX8_rule 19 = .ok (.lconst 0, 1) := by decide +kernel
theorem dX8_rule_20 : decode cX8_rule 20 = .ok (.lconst 1, 1) := by decide +kernel
theorem dX8_rule_21 : decode cX8_rule 21 = .ok (.invokestatic 54, 3) := by decide +kernel
theorem dX8_rule_24 : decode cX8_rule 24 = .ok (.ifCond .eq 14, 3) := by decide +kernel
theorem dX8_rule_27 : decode cX8_rule 27 = .ok (.iload_n 2, 1) := by decide +kernel
theorem dX8_rule_28 : decode cX8_rule 28 = .ok (.invokestatic 70, 3) := by decide +kernel
theorem dX8_rule_31 : decode cX8_rule 31 = .ok (.ifCond .eq 7, 3) := by decide +kernel
theorem dX8_rule_34 : decode cX8_rule 34 = .ok (.iconst 1, 1) := by decide +kernel
theorem dX8_rule_35 : decode cX8_rule 35 = .ok (.goto 4, 3) := by decide +kernel
theorem dX8_rule_38 : decode cX8_rule 38 = .ok (.iconst 0, 1) := by decide +kernel
theorem dX8_rule_39 : decode cX8_rule 39 = .ok (.istore_n 3, 1) := by decide +kernel
theorem dX8_rule_40 : decode cX8_rule 40 = .ok (.iload_n 3, 1) := by decide +kernel
theorem dX8_rule_41 : decode cX8_rule 41 = .ok (.ifCond .ne 9, 3) := by decide +kernel
theorem dX8_rule_44 : decode cX8_rule 44 = .ok (.aload_n 0, 1) := by decide +kernel
theorem dX8_rule_45 : decode cX8_rule 45 = .ok (.iconst 0, 1) := by decide +kernel
theorem dX8_rule_46 : decode cX8_rule 46 = .ok (.invokevirtual 74, 3) := by decide +kernel
theorem dX8_rule_49 : decode cX8_rule 49 = .ok (.ireturn, 1) := by decide +kernel
theorem dX8_rule_50 : decode cX8_rule 50 = .ok (.aload_n 0, 1) := by decide +kernel
theorem dX8_rule_51 : decode cX8_rule 51 = .ok (.getfield 9, 3) := by decide +kernel
theorem dX8_rule_54 : decode cX8_rule 54 = .ok (.bipush 8, 2) := by decide +kernel
theorem dX8_rule_56 : decode cX8_rule 56 = .ok (.iload_n 1, 1) := by decide +kernel
theorem dX8_rule_57 : decode cX8_rule 57 = .ok (.iadd, 1) := by decide +kernel
theorem dX8_rule_58 : decode cX8_rule 58 = .ok (.iaload, 1) := by decide +kernel
theorem dX8_rule_59 : decode cX8_rule 59 = .ok (.istore 4, 2) := by decide +kernel
theorem dX8_rule_61 : decode cX8_rule 61 = .ok (.aload_n 0, 1) := by decide +kernel
theorem dX8_rule_62 : decode cX8_rule 62 = .ok (.getfield 9, 3) := by decide +kernel
theorem dX8_rule_65 : decode cX8_rule 65 = .ok (.bipush 8, 2) := by decide +kernel
theorem dX8_rule_67 : decode cX8_rule 67 = .ok (.iload_n 1, 1) := by decide +kernel
theorem dX8_rule_68 : decode cX8_rule 68 = .ok (.iadd, 1) := by decide +kernel
theorem dX8_rule_69 : decode cX8_rule 69 = .ok (.iload_n 2, 1) := by decide +kernel
theorem dX8_rule_70 : decode cX8_rule 70 = .ok (.iastore, 1) := by decide +kernel
theorem dX8_rule_71 : decode cX8_rule 71 = .ok (.iload 4, 2) := by decide +kernel
theorem dX8_rule_73 : decode cX8_rule 73 = .ok (.ireturn, 1) := by decide +kernel
theorem dX8_lays_0 : decode cX8_lays 0 = .ok (.aload_n 0, 1) := by decide +kernel
theorem dX8_lays_1 : decode cX8_lays 1 = .ok (.getfield 9, 3) := by decide +kernel
theorem dX8_lays_4 : decode cX8_lays 4 = .ok (.bipush 28, 2) := by decide +kernel
theorem dX8_lays_6 : decode cX8_lays 6 = .ok (.aload_n 0, 1) := by decide +kernel
theorem dX8_lays_7 : decode cX8_lays 7 = .ok (.getfield 9, 3) := by decide +kernel
theorem dX8_lays_10 : decode cX8_lays 10 = .ok (.bipush 11, 2) := by decide +kernel
theorem dX8_lays_12 : decode cX8_lays 12 = .ok (.iaload, 1) := by decide +kernel
theorem dX8_lays_13 : decode cX8_lays 13 = .ok (.iadd, 1) := by decide +kernel
theorem dX8_lays_14 : decode cX8_lays 14 = .ok (.iload_n 1, 1) := by decide +kernel
theorem dX8_lays_15 : decode cX8_lays 15 = .ok (.iastore, 1) := by decide +kernel
theorem dX8_lays_16 : decode cX8_lays 16 = .ok (.aload_n 0, 1) := by decide +kernel
theorem dX8_lays_17 : decode cX8_lays 17 = .ok (.getfield 9, 3) := by decide +kernel
theorem dX8_lays_20 : decode cX8_lays 20 = .ok (.bipush 36, 2) := by decide +kernel
theorem dX8_lays_22 : decode cX8_lays 22 = .ok (.aload_n 0, 1) := by decide +kernel
theorem dX8_lays_23 : decode cX8_lays 23 = .ok (.getfield 9, 3) := by decide +kernel
theorem dX8_lays_26 : decode cX8_lays 26 = .ok (.bipush 11, 2) := by decide +kernel
theorem dX8_lays_28 : decode cX8_lays 28 = .ok (.iaload, 1) := by decide +kernel
theorem dX8_lays_29 : decode cX8_lays 29 = .ok (.iadd, 1) := by decide +kernel
theorem dX8_lays_30 : decode cX8_lays 30 = .ok (.iload_n 2, 1) := by decide +kernel
theorem dX8_lays_31 : decode cX8_lays 31 = .ok (.iastore, 1) := by decide +kernel
theorem dX8_lays_32 : decode cX8_lays 32 = .ok (.aload_n 0, 1) := by decide +kernel
theorem dX8_lays_33 : decode cX8_lays 33 = .ok (.getfield 9, 3) := by decide +kernel
theorem dX8_lays_36 : decode cX8_lays 36 = .ok (.bipush 44, 2) := by decide +kernel
theorem dX8_lays_38 : decode cX8_lays 38 = .ok (.aload_n 0, 1) := by decide +kernel
theorem dX8_lays_39 : decode cX8_lays 39 = .ok (.getfield 9, 3) := by decide +kernel
theorem dX8_lays_42 : decode cX8_lays 42 = .ok (.bipush 11, 2) := by decide +kernel
theorem dX8_lays_44 : decode cX8_lays 44 = .ok (.iaload, 1) := by decide +kernel
theorem dX8_lays_45 : decode cX8_lays 45 = .ok (.iadd, 1) := by decide +kernel
theorem dX8_lays_46 : decode cX8_lays 46 = .ok (.iload_n 3, 1) := by decide +kernel
theorem dX8_lays_47 : decode cX8_lays 47 = .ok (.iastore, 1) := by decide +kernel
theorem dX8_lays_48 : decode cX8_lays 48 = .ok (.aload_n 0, 1) := by decide +kernel
theorem dX8_lays_49 : decode cX8_lays 49 = .ok (.getfield 9, 3) := by decide +kernel
theorem dX8_lays_52 : decode cX8_lays 52 = .ok (.bipush 11, 2) := by decide +kernel
theorem dX8_lays_54 : decode cX8_lays 54 = .ok (.dup2, 1) := by decide +kernel
theorem dX8_lays_55 : decode cX8_lays 55 = .ok (.iaload, 1) := by decide +kernel
theorem dX8_lays_56 : decode cX8_lays 56 = .ok (.iconst 1, 1) := by decide +kernel
theorem dX8_lays_57 : decode cX8_lays 57 = .ok (.iadd, 1) := by decide +kernel
theorem dX8_lays_58 : decode cX8_lays 58 = .ok (.iastore, 1) := by decide +kernel
theorem dX8_lays_59 : decode cX8_lays 59 = .ok (.return_, 1) := by decide +kernel
theorem dX8_thing_0 : decode cX8_thing 0 = .ok (.iload_n 1, 1) := by decide +kernel
theorem dX8_thing_1 : decode cX8_thing 1 = .ok (.invokestatic 83, 3) := by decide +kernel
theorem dX8_thing_4 : decode cX8_thing 4 = .ok (.ifCond .eq 10, 3) := by decide +kernel
theorem dX8_thing_7 : decode cX8_thing 7 = .ok (.iload_n 2, 1) := by decide +kernel
theorem dX8_thing_8 : decode cX8_thing 8 = .ok (.invokestatic 70, 3) := by decide +kernel
theorem dX8_thing_11 : decode cX8_thing 11 = .ok (.ifCond .ne 9, 3) := by decide +kernel
theorem dX8_thing_14 : decode cX8_thing 14 = .ok (.aload_n 0, 1) := by decide +kernel
theorem dX8_thing_15 : decode cX8_thing 15 = .ok (.iconst 0, 1) := by decide +kernel
theorem dX8_thing_16 : decode cX8_thing 16 = .ok (.invokevirtual 74, 3) := by decide +kernel
theorem dX8_thing_19 : decode cX8_thing 19 = .ok (.ireturn, 1) := by decide +kernel
theorem dX8_thing_20 : decode cX8_thing 20 = .ok (.aload_n 0, 1) := by decide +kernel
theorem dX8_thing_21 : decode cX8_thing 21 = .ok (.getfield 9, 3) := by decide +kernel
theorem dX8_thing_24 : decode cX8_thing 24 = .ok (.bipush 11, 2) := by decide +kernel
theorem dX8_thing_26 : decode cX8_thing 26 = .ok (.iaload, 1) := by decide +kernel
theorem dX8_thing_27 : decode cX8_thing 27 = .ok (.bipush 8, 2) := by decide +kernel
theorem dX8_thing_29 : decode cX8_thing 29 = .ok (.if_icmp .ne 9, 3) := by decide +kernel
theorem dX8_thing_32 : decode cX8_thing 32 = .ok (.aload_n 0, 1) := by decide +kernel
theorem dX8_thing_33 : decode cX8_thing 33 = .ok (.iconst 1, 1) := by decide +kernel
theorem dX8_thing_34 : decode cX8_thing 34 = .ok (.invokevirtual 74, 3) := by decide +kernel
theorem dX8_thing_37 : decode cX8_thing 37 = .ok (.ireturn, 1) := by decide +kernel
theorem dX8_thing_38 : decode cX8_thing 38 = .ok (.aload_n 0, 1) := by decide +kernel
theorem dX8_thing_39 : decode cX8_thing 39 = .ok (.iload_n 1, 1) := by decide +kernel
theorem dX8_thing_40 : decode cX8_thing 40 = .ok (.iload_n 2, 1) := by decide +kernel
theorem dX8_thing_41 : decode cX8_thing 41 = .ok (.bipush 8, 2) := by decide +kernel
theorem dX8_thing_43 : decode cX8_thing 43 = .ok (.invokevirtual 86, 3) := by decide +kernel
theorem dX8_thing_46 : decode cX8_thing 46 = .ok (.aload_n 0, 1) := by decide +kernel
theorem dX8_thing_47 : decode cX8_thing 47 = .ok (.getfield 9, 3) := by decide +kernel
theorem dX8_thing_50 : decode cX8_thing 50 = .ok (.bipush 11, 2) := by decide +kernel
theorem dX8_thing_52 : decode cX8_thing 52 = .ok (.iaload, 1) := by decide +kernel
theorem dX8_thing_53 : decode cX8_thing 53 = .ok (.iconst 1, 1) := by decide +kernel
theorem dX8_thing_54 : decode cX8_thing 54 = .ok (.isub, 1) := by decide +kernel
theorem dX8_thing_55 : decode cX8_thing 55 = .ok (.ireturn, 1) := by decide +kernel
theorem dX8_of_0 : decode cX8_of 0 = .ok (.aload_n 0, 1) := by decide +kernel
theorem dX8_of_1 : decode cX8_of 1 = .ok (.iload_n 1, 1) := by decide +kernel
theorem dX8_of_2 : decode cX8_of 2 = .ok (.invokevirtual 90, 3) := by decide +kernel
theorem dX8_of_5 : decode cX8_of 5 = .ok (.ifCond .eq 15, 3) := by decide +kernel
theorem dX8_of_8 : decode cX8_of 8 = .ok (.iload_n 2, 1) := by decide +kernel
theorem dX8_of_9 : decode cX8_of 9 = .ok (.i2l, 1) := by decide +kernel
theorem dX8_of_10 : decode cX8_of 10 = .ok (.lconst 0, 1) := by decide +kernel
theorem dX8_of_11 : decode cX8_of 11 = .ok (.ldc2_w 52, 3) := by decide +kernel
theorem dX8_of_14 : decode cX8_of 14 = .ok (.invokestatic 54, 3) := by decide +kernel
theorem dX8_of_17 : decode cX8_of 17 = .ok (.ifCond .ne 9, 3) := by decide +kernel
theorem dX8_of_20 : decode cX8_of 20 = .ok (.aload_n 0, 1) := by decide +kernel
theorem dX8_of_21 : decode cX8_of 21 = .ok (.iconst 0, 1) := by decide +kernel
theorem dX8_of_22 : decode cX8_of 22 = .ok (.invokevirtual 74, 3) := by decide +kernel
theorem dX8_of_25 : decode cX8_of 25 = .ok (.ireturn, 1) := by decide +kernel
theorem dX8_of_26 : decode cX8_of 26 = .ok (.iload_n 2, 1) := by decide +kernel
theorem dX8_of_27 : decode cX8_of 27 = .ok (.iconst 3, 1) := by decide +kernel
theorem dX8_of_28 : decode cX8_of 28 = .ok (.if_icmp .ge 20, 3) := by decide +kernel
theorem dX8_of_31 : decode cX8_of 31 = .ok (.aload_n 0, 1) := by decide +kernel
theorem dX8_of_32 : decode cX8_of 32 = .ok (.getfield 9, 3) := by decide +kernel
theorem dX8_of_35 : decode cX8_of 35 = .ok (.bipush 28, 2) := by decide +kernel
theorem dX8_of_37 : decode cX8_of 37 = .ok (.bipush 8, 2) := by decide +kernel
theorem dX8_of_39 : decode cX8_of 39 = .ok (.iload_n 2, 1) := by decide +kernel
theorem dX8_of_40 : decode cX8_of 40 = .ok (.imul, 1) := by decide +kernel
theorem dX8_of_41 : decode cX8_of 41 = .ok (.iadd, 1) := by decide +kernel
theorem dX8_of_42 : decode cX8_of 42 = .ok (.iload_n 1, 1) := by decide +kernel
theorem dX8_of_43 : decode cX8_of 43 = .ok (.iadd, 1) := by decide +kernel
theorem dX8_of_44 : decode cX8_of 44 = .ok (.iaload, 1) := by decide +kernel
theorem dX8_of_45 : decode cX8_of 45 = .ok (.goto 11, 3) := by decide +kernel
theorem dX8_of_48 : decode cX8_of 48 = .ok (.aload_n 0, 1) := by decide +kernel
theorem dX8_of_49 : decode cX8_of 49 = .ok (.iload_n 1, 1) := by decide +kernel
theorem dX8_of_50 : decode cX8_of 50 = .ok (.iload_n 2, 1) := by decide +kernel
theorem dX8_of_51 : decode cX8_of 51 = .ok (.iconst 3, 1) := by decide +kernel
theorem dX8_of_52 : decode cX8_of 52 = .ok (.isub, 1) := by decide +kernel
theorem dX8_of_53 : decode cX8_of 53 = .ok (.invokevirtual 93, 3) := by decide +kernel
theorem dX8_of_56 : decode cX8_of 56 = .ok (.ireturn, 1) := by decide +kernel
theorem dX8_change_0 : decode cX8_change 0 = .ok (.iload_n 2, 1) := by decide +kernel
theorem dX8_change_1 : decode cX8_change 1 = .ok (.ifCond .ne 10, 3) := by decide +kernel
theorem dX8_change_4 : decode cX8_change 4 = .ok (.iload_n 3, 1) := by decide +kernel
theorem dX8_change_5 : decode cX8_change 5 = .ok (.invokestatic 83, 3) := by decide +kernel
theorem dX8_change_8 : decode cX8_change 8 = .ok (.goto 37, 3) := by decide +kernel
theorem dX8_change_11 : decode cX8_change 11 = .ok (.iload_n 2, 1) := by decide +kernel
theorem dX8_change_12 : decode cX8_change 12 = .ok (.iconst 1, 1) := by decide +kernel
theorem dX8_change_13 : decode cX8_change 13 = .ok (.if_icmp .ne 10, 3) := by decide +kernel
theorem dX8_change_16 : decode cX8_change 16 = .ok (.iload_n 3, 1) := by decide +kernel
theorem dX8_change_17 : decode cX8_change 17 = .ok (.invokestatic 70, 3) := by decide +kernel
theorem dX8_change_20 : decode cX8_change 20 = .ok (.goto 25, 3) := by decide +kernel
theorem dX8_change_23 : decode cX8_change 23 = .ok (.iload_n 2, 1) := by decide +kernel
theorem dX8_change_24 : decode cX8_change 24 = .ok (.iconst 2, 1) := by decide +kernel
theorem dX8_change_25 : decode cX8_change 25 = .ok (.if_icmp .ne 19, 3) := by decide +kernel
theorem dX8_change_28 : decode cX8_change 28 = .ok (.iload_n 3, 1) := by decide +kernel
theorem dX8_change_29 : decode cX8_change 29 = .ok (.i2l, 1) := by decide +kernel
theorem dX8_change_30 : decode cX8_change 30 = .ok (.lconst 1, 1) := by decide +kernel
theorem dX8_change_31 : decode cX8_change 31 = .ok (.ldc2_w 97, 3) := by decide +kernel
theorem dX8_change_34 : decode cX8_change 34 = .ok (.invokestatic 54, 3) := by decide +kernel
theorem dX8_change_37 : decode cX8_change 37 = .ok (.ifCond .eq 7, 3) := by decide +kernel
theorem dX8_change_40 : decode cX8_change 40 = .ok (.iconst 1, 1) := by decide +kernel
theorem dX8_change_41 : decode cX8_change 41 = .ok (.goto 4, 3) := by decide +kernel
theorem dX8_change_44 : decode cX8_change 44 = .ok (.iconst 0, 1) := by decide +kernel
theorem dX8_change_45 : decode cX8_change 45 = .ok (.istore 4, 2) := by decide +kernel
theorem dX8_change_47 : decode cX8_change 47 = .ok (.aload_n 0, 1) := by decide +kernel
theorem dX8_change_48 : decode cX8_change 48 = .ok (.iload_n 1, 1) := by decide +kernel
theorem dX8_change_49 : decode cX8_change 49 = .ok (.invokevirtual 90, 3) := by decide +kernel
theorem dX8_change_52 : decode cX8_change 52 = .ok (.ifCond .eq 8, 3) := by decide +kernel
theorem dX8_change_55 : decode cX8_change 55 = .ok (.iload 4, 2) := by decide +kernel
theorem dX8_change_57 : decode cX8_change 57 = .ok (.ifCond .ne 9, 3) := by decide +kernel
theorem dX8_change_60 : decode cX8_change 60 = .ok (.aload_n 0, 1) := by decide +kernel
theorem dX8_change_61 : decode cX8_change 61 = .ok (.iconst 0, 1) := by decide +kernel
theorem dX8_change_62 : decode cX8_change 62 = .ok (.invokevirtual 74, 3) := by decide +kernel
theorem dX8_change_65 : decode cX8_change 65 = .ok (.ireturn, 1) := by decide +kernel
theorem dX8_change_66 : decode cX8_change 66 = .ok (.aload_n 0, 1) := by decide +kernel
theorem dX8_change_67 : decode cX8_change 67 = .ok (.getfield 9, 3) := by decide +kernel
theorem dX8_change_70 : decode cX8_change 70 = .ok (.bipush 28, 2) := by decide +kernel
theorem dX8_change_72 : decode cX8_change 72 = .ok (.bipush 8, 2) := by decide +kernel
theorem dX8_change_74 : decode cX8_change 74 = .ok (.iload_n 2, 1) := by decide +kernel
theorem dX8_change_75 : decode cX8_change 75 = .ok (.imul, 1) := by decide +kernel
theorem dX8_change_76 : decode cX8_change 76 = .ok (.iadd, 1) := by decide +kernel
theorem dX8_change_77 : decode cX8_change 77 = .ok (.iload_n 1, 1) := by decide +kernel
theorem dX8_change_78 : decode cX8_change 78 = .ok (.iadd, 1) := by decide +kernel
theorem dX8_change_79 : decode cX8_change 79 = .ok (.iaload, 1) := by decide +kernel
theorem dX8_change_80 : decode cX8_change 80 = .ok (.istore 5, 2) := by decide +kernel
theorem dX8_change_82 : decode cX8_change 82 = .ok (.aload_n 0, 1) := by decide +kernel
theorem dX8_change_83 : decode cX8_change 83 = .ok (.getfield 9, 3) := by decide +kernel
theorem dX8_change_86 : decode cX8_change 86 = .ok (.bipush 28, 2) := by decide +kernel
theorem dX8_change_88 : decode cX8_change 88 = .ok (.bipush 8, 2) := by decide +kernel
theorem dX8_change_90 : decode cX8_change 90 = .ok (.iload_n 2, 1) := by decide +kernel
theorem dX8_change_91 : decode cX8_change 91 = .ok (.imul, 1) := by decide +kernel
theorem dX8_change_92 : decode cX8_change 92 = .ok (.iadd, 1) := by decide +kernel
theorem dX8_change_93 : decode cX8_change 93 = .ok (.iload_n 1, 1) := by decide +kernel
theorem dX8_change_94 : decode cX8_change 94 = .ok (.iadd, 1) := by decide +kernel
theorem dX8_change_95 : decode cX8_change 95 = .ok (.iload_n 3, 1) := by decide +kernel
theorem dX8_change_96 : decode cX8_change 96 = .ok (.iastore, 1) := by decide +kernel
theorem dX8_change_97 : decode cX8_change 97 = .ok (.iload 5, 2) := by decide +kernel
theorem dX8_change_99 : decode cX8_change 99 = .ok (.ireturn, 1) := by decide +kernel
theorem dX8_comes_0 : decode cX8_comes 0 = .ok (.aload_n 0, 1) := by decide +kernel
theorem dX8_comes_1 : decode cX8_comes 1 = .ok (.getfield 9, 3) := by decide +kernel
theorem dX8_comes_4 : decode cX8_comes 4 = .ok (.bipush 52, 2) := by decide +kernel
theorem dX8_comes_6 : decode cX8_comes 6 = .ok (.aload_n 0, 1) := by decide +kernel
theorem dX8_comes_7 : decode cX8_comes 7 = .ok (.getfield 9, 3) := by decide +kernel
theorem dX8_comes_10 : decode cX8_comes 10 = .ok (.bipush 12, 2) := by decide +kernel
theorem dX8_comes_12 : decode cX8_comes 12 = .ok (.iaload, 1) := by decide +kernel
theorem dX8_comes_13 : decode cX8_comes 13 = .ok (.iadd, 1) := by decide +kernel
theorem dX8_comes_14 : decode cX8_comes 14 = .ok (.iload_n 1, 1) := by decide +kernel
theorem dX8_comes_15 : decode cX8_comes 15 = .ok (.iastore, 1) := by decide +kernel
theorem dX8_comes_16 : decode cX8_comes 16 = .ok (.aload_n 0, 1) := by decide +kernel
theorem dX8_comes_17 : decode cX8_comes 17 = .ok (.getfield 9, 3) := by decide +kernel
theorem dX8_comes_20 : decode cX8_comes 20 = .ok (.bipush 56, 2) := by decide +kernel
theorem dX8_comes_22 : decode cX8_comes 22 = .ok (.aload_n 0, 1) := by decide +kernel
theorem dX8_comes_23 : decode cX8_comes 23 = .ok (.getfield 9, 3) := by decide +kernel
theorem dX8_comes_26 : decode cX8_comes 26 = .ok (.bipush 12, 2) := by decide +kernel
theorem dX8_comes_28 : decode cX8_comes 28 = .ok (.iaload, 1) := by decide +kernel
theorem dX8_comes_29 : decode cX8_comes 29 = .ok (.iadd, 1) := by decide +kernel
theorem dX8_comes_30 : decode cX8_comes 30 = .ok (.iload_n 2, 1) := by decide +kernel
theorem dX8_comes_31 : decode cX8_comes 31 = .ok (.iastore, 1) := by decide +kernel
theorem dX8_comes_32 : decode cX8_comes 32 = .ok (.aload_n 0, 1) := by decide +kernel
theorem dX8_comes_33 : decode cX8_comes 33 = .ok (.getfield 9, 3) := by decide +kernel
theorem dX8_comes_36 : decode cX8_comes 36 = .ok (.bipush 12, 2) := by decide +kernel
theorem dX8_comes_38 : decode cX8_comes 38 = .ok (.dup2, 1) := by decide +kernel
theorem dX8_comes_39 : decode cX8_comes 39 = .ok (.iaload, 1) := by decide +kernel
theorem dX8_comes_40 : decode cX8_comes 40 = .ok (.iconst 1, 1) := by decide +kernel
theorem dX8_comes_41 : decode cX8_comes 41 = .ok (.iadd, 1) := by decide +kernel
theorem dX8_comes_42 : decode cX8_comes 42 = .ok (.iastore, 1) := by decide +kernel
theorem dX8_comes_43 : decode cX8_comes 43 = .ok (.return_, 1) := by decide +kernel
theorem dX8_one_0 : decode cX8_one 0 = .ok (.iload_n 1, 1) := by decide +kernel
theorem dX8_one_1 : decode cX8_one 1 = .ok (.invokestatic 99, 3) := by decide +kernel
theorem dX8_one_4 : decode cX8_one 4 = .ok (.ifCond .ne 9, 3) := by decide +kernel
theorem dX8_one_7 : decode cX8_one 7 = .ok (.aload_n 0, 1) := by decide +kernel
theorem dX8_one_8 : decode cX8_one 8 = .ok (.iconst 0, 1) := by decide +kernel
theorem dX8_one_9 : decode cX8_one 9 = .ok (.invokevirtual 74, 3) := by decide +kernel
theorem dX8_one_12 : decode cX8_one 12 = .ok (.ireturn, 1) := by decide +kernel
theorem dX8_one_13 : decode cX8_one 13 = .ok (.aload_n 0, 1) := by decide +kernel
theorem dX8_one_14 : decode cX8_one 14 = .ok (.getfield 9, 3) := by decide +kernel
theorem dX8_one_17 : decode cX8_one 17 = .ok (.bipush 12, 2) := by decide +kernel
theorem dX8_one_19 : decode cX8_one 19 = .ok (.iaload, 1) := by decide +kernel
theorem dX8_one_20 : decode cX8_one 20 = .ok (.iconst 4, 1) := by decide +kernel
theorem dX8_one_21 : decode cX8_one 21 = .ok (.if_icmp .ne 9, 3) := by decide +kernel
theorem dX8_one_24 : decode cX8_one 24 = .ok (.aload_n 0, 1) := by decide +kernel
theorem dX8_one_25 : decode cX8_one 25 = .ok (.iconst 1, 1) := by decide +kernel
theorem dX8_one_26 : decode cX8_one 26 = .ok (.invokevirtual 74, 3) := by decide +kernel
theorem dX8_one_29 : decode cX8_one 29 = .ok (.ireturn, 1) := by decide +kernel
theorem dX8_one_30 : decode cX8_one 30 = .ok (.aload_n 0, 1) := by decide +kernel
theorem dX8_one_31 : decode cX8_one 31 = .ok (.iload_n 1, 1) := by decide +kernel
theorem dX8_one_32 : decode cX8_one 32 = .ok (.bipush 10, 2) := by decide +kernel
theorem dX8_one_34 : decode cX8_one 34 = .ok (.invokevirtual 102, 3) := by decide +kernel
theorem dX8_one_37 : decode cX8_one 37 = .ok (.aload_n 0, 1) := by decide +kernel
theorem dX8_one_38 : decode cX8_one 38 = .ok (.getfield 9, 3) := by decide +kernel
theorem dX8_one_41 : decode cX8_one 41 = .ok (.bipush 12, 2) := by decide +kernel
theorem dX8_one_43 : decode cX8_one 43 = .ok (.iaload, 1) := by decide +kernel
theorem dX8_one_44 : decode cX8_one 44 = .ok (.iconst 1, 1) := by decide +kernel
theorem dX8_one_45 : decode cX8_one 45 = .ok (.isub, 1) := by decide +kernel
theorem dX8_one_46 : decode cX8_one 46 = .ok (.ireturn, 1) := by decide +kernel
theorem dX8_person_0 : decode cX8_person 0 = .ok (.iload_n 2, 1) := by decide +kernel
theorem dX8_person_1 : decode cX8_person 1 = .ok (.ifCond .ne 10, 3) := by decide +kernel
theorem dX8_person_4 : decode cX8_person 4 = .ok (.iload_n 3, 1) := by decide +kernel
theorem dX8_person_5 : decode cX8_person 5 = .ok (.invokestatic 99, 3) := by decide +kernel
theorem dX8_person_8 : decode cX8_person 8 = .ok (.goto 25, 3) := by decide +kernel
theorem dX8_person_11 : decode cX8_person 11 = .ok (.iload_n 2, 1) := by decide +kernel
theorem dX8_person_12 : decode cX8_person 12 = .ok (.iconst 1, 1) := by decide +kernel
theorem dX8_person_13 : decode cX8_person 13 = .ok (.if_icmp .ne 19, 3) := by decide +kernel
theorem dX8_person_16 : decode cX8_person 16 = .ok (.iload_n 3, 1) := by decide +kernel
theorem dX8_person_17 : decode cX8_person 17 = .ok (.i2l, 1) := by decide +kernel
theorem dX8_person_18 : decode cX8_person 18 = .ok (.lconst 0, 1) := by decide +kernel
theorem dX8_person_19 : decode cX8_person 19 = .ok (.ldc2_w 97, 3) := by decide +kernel
theorem dX8_person_22 : decode cX8_person 22 = .ok (.invokestatic 54, 3) := by decide +kernel
theorem dX8_person_25 : decode cX8_person 25 = .ok (.ifCond .eq 7, 3) := by decide +kernel
theorem dX8_person_28 : decode cX8_person 28 = .ok (.iconst 1, 1) := by decide +kernel
theorem dX8_person_29 : decode cX8_person 29 = .ok (.goto 4, 3) := by decide +kernel
theorem dX8_person_32 : decode cX8_person 32 = .ok (.iconst 0, 1) := by decide +kernel
theorem dX8_person_33 : decode cX8_person 33 = .ok (.istore 4, 2) := by decide +kernel
theorem dX8_person_35 : decode cX8_person 35 = .ok (.aload_n 0, 1) := by decide +kernel
theorem dX8_person_36 : decode cX8_person 36 = .ok (.iload_n 1, 1) := by decide +kernel
theorem dX8_person_37 : decode cX8_person 37 = .ok (.invokevirtual 106, 3) := by decide +kernel
theorem dX8_person_40 : decode cX8_person 40 = .ok (.ifCond .eq 8, 3) := by decide +kernel
theorem dX8_person_43 : decode cX8_person 43 = .ok (.iload 4, 2) := by decide +kernel
theorem dX8_person_45 : decode cX8_person 45 = .ok (.ifCond .ne 9, 3) := by decide +kernel
theorem dX8_person_48 : decode cX8_person 48 = .ok (.aload_n 0, 1) := by decide +kernel
theorem dX8_person_49 : decode cX8_person 49 = .ok (.iconst 0, 1) := by decide +kernel
theorem dX8_person_50 : decode cX8_person 50 = .ok (.invokevirtual 74, 3) := by decide +kernel
theorem dX8_person_53 : decode cX8_person 53 = .ok (.ireturn, 1) := by decide +kernel
theorem dX8_person_54 : decode cX8_person 54 = .ok (.aload_n 0, 1) := by decide +kernel
theorem dX8_person_55 : decode cX8_person 55 = .ok (.getfield 9, 3) := by decide +kernel
theorem dX8_person_58 : decode cX8_person 58 = .ok (.bipush 52, 2) := by decide +kernel
theorem dX8_person_60 : decode cX8_person 60 = .ok (.iconst 4, 1) := by decide +kernel
theorem dX8_person_61 : decode cX8_person 61 = .ok (.iload_n 2, 1) := by decide +kernel
theorem dX8_person_62 : decode cX8_person 62 = .ok (.imul, 1) := by decide +kernel
theorem dX8_person_63 : decode cX8_person 63 = .ok (.iadd, 1) := by decide +kernel
theorem dX8_person_64 : decode cX8_person 64 = .ok (.iload_n 1, 1) := by decide +kernel
theorem dX8_person_65 : decode cX8_person 65 = .ok (.iadd, 1) := by decide +kernel
theorem dX8_person_66 : decode cX8_person 66 = .ok (.iaload, 1) := by decide +kernel
theorem dX8_person_67 : decode cX8_person 67 = .ok (.istore 5, 2) := by decide +kernel
theorem dX8_person_69 : decode cX8_person 69 = .ok (.aload_n 0, 1) := by decide +kernel
theorem dX8_person_70 : decode cX8_person 70 = .ok (.getfield 9, 3) := by decide +kernel
theorem dX8_person_73 : decode cX8_person 73 = .ok (.bipush 52, 2) := by decide +kernel
theorem dX8_person_75 : decode cX8_person 75 = .ok (.iconst 4, 1) := by decide +kernel
theorem dX8_person_76 : decode cX8_person 76 = .ok (.iload_n 2, 1) := by decide +kernel
theorem dX8_person_77 : decode cX8_person 77 = .ok (.imul, 1) := by decide +kernel
theorem dX8_person_78 : decode cX8_person 78 = .ok (.iadd, 1) := by decide +kernel
theorem dX8_person_79 : decode cX8_person 79 = .ok (.iload_n 1, 1) := by decide +kernel
theorem dX8_person_80 : decode cX8_person 80 = .ok (.iadd, 1) := by decide +kernel
theorem dX8_person_81 : decode cX8_person 81 = .ok (.iload_n 3, 1) := by decide +kernel
theorem dX8_person_82 : decode cX8_person 82 = .ok (.iastore, 1) := by decide +kernel
theorem dX8_person_83 : decode cX8_person 83 = .ok (.iload 5, 2) := by decide +kernel
theorem dX8_person_85 : decode cX8_person 85 = .ok (.ireturn, 1) := by decide +kernel
theorem dX8_tell_0 : decode cX8_tell 0 = .ok (.aload_n 0, 1) := by decide +kernel
theorem dX8_tell_1 : decode cX8_tell 1 = .ok (.iload_n 1, 1) := by decide +kernel
theorem dX8_tell_2 : decode cX8_tell 2 = .ok (.invokevirtual 106, 3) := by decide +kernel
theorem dX8_tell_5 : decode cX8_tell 5 = .ok (.ifCond .eq 29, 3) := by decide +kernel
theorem dX8_tell_8 : decode cX8_tell 8 = .ok (.iload_n 2, 1) := by decide +kernel
theorem dX8_tell_9 : decode cX8_tell 9 = .ok (.i2l, 1) := by decide +kernel
theorem dX8_tell_10 : decode cX8_tell 10 = .ok (.lconst 0, 1) := by decide +kernel
theorem dX8_tell_11 : decode cX8_tell 11 = .ok (.lconst 1, 1) := by decide +kernel
theorem dX8_tell_12 : decode cX8_tell 12 = .ok (.invokestatic 54, 3) := by decide +kernel
theorem dX8_tell_15 : decode cX8_tell 15 = .ok (.ifCond .eq 19, 3) := by decide +kernel
theorem dX8_tell_18 : decode cX8_tell 18 = .ok (.aload_n 0, 1) := by decide +kernel
theorem dX8_tell_19 : decode cX8_tell 19 = .ok (.getfield 9, 3) := by decide +kernel
theorem dX8_tell_22 : decode cX8_tell 22 = .ok (.bipush 52, 2) := by decide +kernel
theorem dX8_tell_24 : decode cX8_tell 24 = .ok (.iconst 4, 1) := by decide +kernel
theorem dX8_tell_25 : decode cX8_tell 25 = .ok (.iload_n 2, 1) := by decide +kernel
theorem dX8_tell_26 : decode cX8_tell 26 = .ok (.imul, 1) := by decide +kernel
theorem dX8_tell_27 : decode cX8_tell 27 = .ok (.iadd, 1) := by decide +kernel
theorem dX8_tell_28 : decode cX8_tell 28 = .ok (.iload_n 1, 1) := by decide +kernel
theorem dX8_tell_29 : decode cX8_tell 29 = .ok (.iadd, 1) := by decide +kernel
theorem dX8_tell_30 : decode cX8_tell 30 = .ok (.iaload, 1) := by decide +kernel
theorem dX8_tell_31 : decode cX8_tell 31 = .ok (.goto 8, 3) := by decide +kernel
theorem dX8_tell_34 : decode cX8_tell 34 = .ok (.aload_n 0, 1) := by decide +kernel
theorem dX8_tell_35 : decode cX8_tell 35 = .ok (.iconst 0, 1) := by decide +kernel
theorem dX8_tell_36 : decode cX8_tell 36 = .ok (.invokevirtual 74, 3) := by decide +kernel
theorem dX8_tell_39 : decode cX8_tell 39 = .ok (.ireturn, 1) := by decide +kernel
theorem dX8_lie_0 : decode cX8_lie 0 = .ok (.iload_n 1, 1) := by decide +kernel
theorem dX8_lie_1 : decode cX8_lie 1 = .ok (.invokestatic 70, 3) := by decide +kernel
theorem dX8_lie_4 : decode cX8_lie 4 = .ok (.ifCond .ne 9, 3) := by decide +kernel
theorem dX8_lie_7 : decode cX8_lie 7 = .ok (.aload_n 0, 1) := by decide +kernel
theorem dX8_lie_8 : decode cX8_lie 8 = .ok (.iconst 0, 1) := by decide +kernel
theorem dX8_lie_9 : decode cX8_lie 9 = .ok (.invokevirtual 74, 3) := by decide +kernel
theorem dX8_lie_12 : decode cX8_lie 12 = .ok (.ireturn, 1) := by decide +kernel
theorem dX8_lie_13 : decode cX8_lie 13 = .ok (.iconst 0, 1) := by decide +kernel
theorem dX8_lie_14 : decode cX8_lie 14 = .ok (.istore_n 2, 1) := by decide +kernel
theorem dX8_lie_15 : decode cX8_lie 15 = .ok (.iconst 0, 1) := by decide +kernel
theorem dX8_lie_16 : decode cX8_lie 16 = .ok (.istore_n 3, 1) := by decide +kernel
theorem dX8_lie_17 : decode cX8_lie 17 = .ok (.iload_n 3, 1) := by decide +kernel
theorem dX8_lie_18 : decode cX8_lie 18 = .ok (.aload_n 0, 1) := by decide +kernel
theorem dX8_lie_19 : decode cX8_lie 19 = .ok (.getfield 9, 3) := by decide +kernel
theorem dX8_lie_22 : decode cX8_lie 22 = .ok (.bipush 11, 2) := by decide +kernel
theorem dX8_lie_24 : decode cX8_lie 24 = .ok (.iaload, 1) := by decide +kernel
theorem dX8_lie_25 : decode cX8_lie 25 = .ok (.if_icmp .ge 32, 3) := by decide +kernel
theorem dX8_lie_28 : decode cX8_lie 28 = .ok (.iload_n 2, 1) := by decide +kernel
theorem dX8_lie_29 : decode cX8_lie 29 = .ok (.aload_n 0, 1) := by decide +kernel
theorem dX8_lie_30 : decode cX8_lie 30 = .ok (.getfield 9, 3) := by decide +kernel
theorem dX8_lie_33 : decode cX8_lie 33 = .ok (.bipush 36, 2) := by decide +kernel
theorem dX8_lie_35 : decode cX8_lie 35 = .ok (.iload_n 3, 1) := by decide +kernel
theorem dX8_lie_36 : decode cX8_lie 36 = .ok (.iadd, 1) := by decide +kernel
theorem dX8_lie_37 : decode cX8_lie 37 = .ok (.iaload, 1) := by decide +kernel
theorem dX8_lie_38 : decode cX8_lie 38 = .ok (.iload_n 1, 1) := by decide +kernel
theorem dX8_lie_39 : decode cX8_lie 39 = .ok (.if_icmp .ne 9, 3) := by decide +kernel
theorem dX8_lie_42 : decode cX8_lie 42 = .ok (.iconst 1, 1) := by decide +kernel
theorem dX8_lie_43 : decode cX8_lie 43 = .ok (.iload_n 3, 1) := by decide +kernel
theorem dX8_lie_44 : decode cX8_lie 44 = .ok (.ishl, 1) := by decide +kernel
theorem dX8_lie_45 : decode cX8_lie 45 = .ok (.goto 4, 3) := by decide +kernel
theorem dX8_lie_48 : decode cX8_lie 48 = .ok (.iconst 0, 1) := by decide +kernel
theorem dX8_lie_49 : decode cX8_lie 49 = .ok (.ior, 1) := by decide +kernel
theorem dX8_lie_50 : decode cX8_lie 50 = .ok (.istore_n 2, 1) := by decide +kernel
theorem dX8_lie_51 : decode cX8_lie 51 = .ok (.iinc 3 1, 3) := by decide +kernel
theorem dX8_lie_54 : decode cX8_lie 54 = .ok (.goto (-37), 3) := by decide +kernel
theorem dX8_lie_57 : decode cX8_lie 57 = .ok (.iload_n 2, 1) := by decide +kernel
theorem dX8_lie_58 : decode cX8_lie 58 = .ok (.ireturn, 1) := by decide +kernel
end
section
theorem dX8_canWalk_0 : decode cX8_canWalk 0 = .ok (.aload_n 0, 1) := by decide +kernel
theorem dX8_canWalk_1 : decode cX8_canWalk 1 = .ok (.aload_n 0, 1) := by decide +kernel
theorem dX8_canWalk_2 : decode cX8_canWalk 2 = .ok (.iload_n 1, 1) := by decide +kernel
theorem dX8_canWalk_3 : decode cX8_canWalk 3 = .ok (.invokevirtual 109, 3) := by decide +kernel
theorem dX8_canWalk_6 : decode cX8_canWalk 6 = .ok (.iload_n 2, 1) := by decide +kernel
theorem dX8_canWalk_7 : decode cX8_canWalk 7 = .ok (.invokevirtual 77, 3) := by decide +kernel
theorem dX8_canWalk_10 : decode cX8_canWalk 10 = .ok (.ireturn, 1) := by decide +kernel
theorem dX8_goes_0 : decode cX8_goes 0 = .ok (.aload_n 0, 1) := by decide +kernel
theorem dX8_goes_1 : decode cX8_goes 1 = .ok (.getfield 9, 3) := by decide +kernel
theorem dX8_goes_4 : decode cX8_goes 4 = .ok (.bipush 52, 2) := by decide +kernel
theorem dX8_goes_6 : decode cX8_goes 6 = .ok (.iload_n 1, 1) := by decide +kernel
theorem dX8_goes_7 : decode cX8_goes 7 = .ok (.iadd, 1) := by decide +kernel
theorem dX8_goes_8 : decode cX8_goes 8 = .ok (.bipush 8, 2) := by decide +kernel
theorem dX8_goes_10 : decode cX8_goes 10 = .ok (.iload_n 2, 1) := by decide +kernel
theorem dX8_goes_11 : decode cX8_goes 11 = .ok (.imul, 1) := by decide +kernel
theorem dX8_goes_12 : decode cX8_goes 12 = .ok (.iload_n 3, 1) := by decide +kernel
theorem dX8_goes_13 : decode cX8_goes 13 = .ok (.iadd, 1) := by decide +kernel
theorem dX8_goes_14 : decode cX8_goes 14 = .ok (.iastore, 1) := by decide +kernel
theorem dX8_goes_15 : decode cX8_goes 15 = .ok (.return_, 1) := by decide +kernel
theorem dX8_walk_0 : decode cX8_walk 0 = .ok (.aload_n 0, 1) := by decide +kernel
theorem dX8_walk_1 : decode cX8_walk 1 = .ok (.iload_n 1, 1) := by decide +kernel
theorem dX8_walk_2 : decode cX8_walk 2 = .ok (.invokevirtual 106, 3) := by decide +kernel
theorem dX8_walk_5 : decode cX8_walk 5 = .ok (.ifCond .eq 10, 3) := by decide +kernel
theorem dX8_walk_8 : decode cX8_walk 8 = .ok (.iload_n 2, 1) := by decide +kernel
theorem dX8_walk_9 : decode cX8_walk 9 = .ok (.invokestatic 70, 3) := by decide +kernel
theorem dX8_walk_12 : decode cX8_walk 12 = .ok (.ifCond .ne 9, 3) := by decide +kernel
theorem dX8_walk_15 : decode cX8_walk 15 = .ok (.aload_n 0, 1) := by decide +kernel
theorem dX8_walk_16 : decode cX8_walk 16 = .ok (.iconst 0, 1) := by decide +kernel
theorem dX8_walk_17 : decode cX8_walk 17 = .ok (.invokevirtual 74, 3) := by decide +kernel
theorem dX8_walk_20 : decode cX8_walk 20 = .ok (.ireturn, 1) := by decide +kernel
theorem dX8_walk_21 : decode cX8_walk 21 = .ok (.aload_n 0, 1) := by decide +kernel
theorem dX8_walk_22 : decode cX8_walk 22 = .ok (.iload_n 1, 1) := by decide +kernel
theorem dX8_walk_23 : decode cX8_walk 23 = .ok (.iload_n 2, 1) := by decide +kernel
theorem dX8_walk_24 : decode cX8_walk 24 = .ok (.invokevirtual 112, 3) := by decide +kernel
theorem dX8_walk_27 : decode cX8_walk 27 = .ok (.ifCond .ne 9, 3) := by decide +kernel
theorem dX8_walk_30 : decode cX8_walk 30 = .ok (.aload_n 0, 1) := by decide +kernel
theorem dX8_walk_31 : decode cX8_walk 31 = .ok (.iconst 4, 1) := by decide +kernel
theorem dX8_walk_32 : decode cX8_walk 32 = .ok (.invokevirtual 74, 3) := by decide +kernel
theorem dX8_walk_35 : decode cX8_walk 35 = .ok (.ireturn, 1) := by decide +kernel
theorem dX8_walk_36 : decode cX8_walk 36 = .ok (.aload_n 0, 1) := by decide +kernel
theorem dX8_walk_37 : decode cX8_walk 37 = .ok (.iload_n 1, 1) := by decide +kernel
theorem dX8_walk_38 : decode cX8_walk 38 = .ok (.aload_n 0, 1) := by decide +kernel
theorem dX8_walk_39 : decode cX8_walk 39 = .ok (.iload_n 1, 1) := by decide +kernel
theorem dX8_walk_40 : decode cX8_walk 40 = .ok (.invokevirtual 115, 3) := by decide +kernel
theorem dX8_walk_43 : decode cX8_walk 43 = .ok (.iload_n 2, 1) := by decide +kernel
theorem dX8_walk_44 : decode cX8_walk 44 = .ok (.invokevirtual 118, 3) := by decide +kernel
theorem dX8_walk_47 : decode cX8_walk 47 = .ok (.aload_n 0, 1) := by decide +kernel
theorem dX8_walk_48 : decode cX8_walk 48 = .ok (.getfield 9, 3) := by decide +kernel
theorem dX8_walk_51 : decode cX8_walk 51 = .ok (.bipush 52, 2) := by decide +kernel
theorem dX8_walk_53 : decode cX8_walk 53 = .ok (.iload_n 1, 1) := by decide +kernel
theorem dX8_walk_54 : decode cX8_walk 54 = .ok (.iadd, 1) := by decide +kernel
theorem dX8_walk_55 : decode cX8_walk 55 = .ok (.iaload, 1) := by decide +kernel
theorem dX8_walk_56 : decode cX8_walk 56 = .ok (.ireturn, 1) := by decide +kernel
theorem dX8_isBefore_0 : decode cX8_isBefore 0 = .ok (.aload_n 0, 1) := by decide +kernel
theorem dX8_isBefore_1 : decode cX8_isBefore 1 = .ok (.iload_n 1, 1) := by decide +kernel
theorem dX8_isBefore_2 : decode cX8_isBefore 2 = .ok (.invokevirtual 109, 3) := by decide +kernel
theorem dX8_isBefore_5 : decode cX8_isBefore 5 = .ok (.aload_n 0, 1) := by decide +kernel
theorem dX8_isBefore_6 : decode cX8_isBefore 6 = .ok (.getfield 9, 3) := by decide +kernel
theorem dX8_isBefore_9 : decode cX8_isBefore 9 = .ok (.bipush 8, 2) := by decide +kernel
theorem dX8_isBefore_11 : decode cX8_isBefore 11 = .ok (.iaload, 1) := by decide +kernel
theorem dX8_isBefore_12 : decode cX8_isBefore 12 = .ok (.if_icmp .ne 16, 3) := by decide +kernel
theorem dX8_isBefore_15 : decode cX8_isBefore 15 = .ok (.aload_n 0, 1) := by decide +kernel
theorem dX8_isBefore_16 : decode cX8_isBefore 16 = .ok (.iload_n 1, 1) := by decide +kernel
theorem dX8_isBefore_17 : decode cX8_isBefore 17 = .ok (.invokevirtual 115, 3) := by decide +kernel
theorem dX8_isBefore_20 : decode cX8_isBefore 20 = .ok (.iconst 4, 1) := by decide +kernel
theorem dX8_isBefore_21 : decode cX8_isBefore 21 = .ok (.if_icmp .ge 7, 3) := by decide +kernel
theorem dX8_isBefore_24 : decode cX8_isBefore 24 = .ok (.iconst 1, 1) := by decide +kernel
theorem dX8_isBefore_25 : decode cX8_isBefore 25 = .ok (.goto 4, 3) := by decide +kernel
theorem dX8_isBefore_28 : decode cX8_isBefore 28 = .ok (.iconst 0, 1) := by decide +kernel
theorem dX8_isBefore_29 : decode cX8_isBefore 29 = .ok (.ireturn, 1) := by decide +kernel
theorem dX8_in_0 : decode cX8_in 0 = .ok (.aload_n 0, 1) := by decide +kernel
theorem dX8_in_1 : decode cX8_in 1 = .ok (.iload_n 1, 1) := by decide +kernel
theorem dX8_in_2 : decode cX8_in 2 = .ok (.invokevirtual 106, 3) := by decide +kernel
theorem dX8_in_5 : decode cX8_in 5 = .ok (.ifCond .ne 9, 3) := by decide +kernel
theorem dX8_in_8 : decode cX8_in 8 = .ok (.aload_n 0, 1) := by decide +kernel
theorem dX8_in_9 : decode cX8_in 9 = .ok (.iconst 0, 1) := by decide +kernel
theorem dX8_in_10 : decode cX8_in 10 = .ok (.invokevirtual 74, 3) := by decide +kernel
theorem dX8_in_13 : decode cX8_in 13 = .ok (.ireturn, 1) := by decide +kernel
theorem dX8_in_14 : decode cX8_in 14 = .ok (.aload_n 0, 1) := by decide +kernel
theorem dX8_in_15 : decode cX8_in 15 = .ok (.iload_n 1, 1) := by decide +kernel
theorem dX8_in_16 : decode cX8_in 16 = .ok (.invokevirtual 121, 3) := by decide +kernel
theorem dX8_in_19 : decode cX8_in 19 = .ok (.ifCond .ne 9, 3) := by decide +kernel
theorem dX8_in_22 : decode cX8_in 22 = .ok (.aload_n 0, 1) := by decide +kernel
theorem dX8_in_23 : decode cX8_in 23 = .ok (.iconst 4, 1) := by decide +kernel
theorem dX8_in_24 : decode cX8_in 24 = .ok (.invokevirtual 74, 3) := by decide +kernel
theorem dX8_in_27 : decode cX8_in 27 = .ok (.ireturn, 1) := by decide +kernel
theorem dX8_in_28 : decode cX8_in 28 = .ok (.aload_n 0, 1) := by decide +kernel
theorem dX8_in_29 : decode cX8_in 29 = .ok (.iload_n 1, 1) := by decide +kernel
theorem dX8_in_30 : decode cX8_in 30 = .ok (.aload_n 0, 1) := by decide +kernel
theorem dX8_in_31 : decode cX8_in 31 = .ok (.iload_n 1, 1) := by decide +kernel
theorem dX8_in_32 : decode cX8_in 32 = .ok (.invokevirtual 115, 3) := by decide +kernel
theorem dX8_in_35 : decode cX8_in 35 = .ok (.iconst 1, 1) := by decide +kernel
theorem dX8_in_36 : decode cX8_in 36 = .ok (.iadd, 1) := by decide +kernel
theorem dX8_in_37 : decode cX8_in 37 = .ok (.aload_n 0, 1) := by decide +kernel
theorem dX8_in_38 : decode cX8_in 38 = .ok (.getfield 9, 3) := by decide +kernel
theorem dX8_in_41 : decode cX8_in 41 = .ok (.bipush 9, 2) := by decide +kernel
theorem dX8_in_43 : decode cX8_in 43 = .ok (.iaload, 1) := by decide +kernel
theorem dX8_in_44 : decode cX8_in 44 = .ok (.invokevirtual 118, 3) := by decide +kernel
theorem dX8_in_47 : decode cX8_in 47 = .ok (.aload_n 0, 1) := by decide +kernel
theorem dX8_in_48 : decode cX8_in 48 = .ok (.getfield 9, 3) := by decide +kernel
theorem dX8_in_51 : decode cX8_in 51 = .ok (.bipush 52, 2) := by decide +kernel
theorem dX8_in_53 : decode cX8_in 53 = .ok (.iload_n 1, 1) := by decide +kernel
theorem dX8_in_54 : decode cX8_in 54 = .ok (.iadd, 1) := by decide +kernel
theorem dX8_in_55 : decode cX8_in 55 = .ok (.iaload, 1) := by decide +kernel
theorem dX8_in_56 : decode cX8_in 56 = .ok (.ireturn, 1) := by decide +kernel
theorem dX8_out_0 : decode cX8_out 0 = .ok (.aload_n 0, 1) := by decide +kernel
theorem dX8_out_1 : decode cX8_out 1 = .ok (.iload_n 1, 1) := by decide +kernel
theorem dX8_out_2 : decode cX8_out 2 = .ok (.invokevirtual 106, 3) := by decide +kernel
theorem dX8_out_5 : decode cX8_out 5 = .ok (.ifCond .ne 9, 3) := by decide +kernel
theorem dX8_out_8 : decode cX8_out 8 = .ok (.aload_n 0, 1) := by decide +kernel
theorem dX8_out_9 : decode cX8_out 9 = .ok (.iconst 0, 1) := by decide +kernel
theorem dX8_out_10 : decode cX8_out 10 = .ok (.invokevirtual 74, 3) := by decide +kernel
theorem dX8_out_13 : decode cX8_out 13 = .ok (.ireturn, 1) := by decide +kernel
theorem dX8_out_14 : decode cX8_out 14 = .ok (.aload_n 0, 1) := by decide +kernel
theorem dX8_out_15 : decode cX8_out 15 = .ok (.iload_n 1, 1) := by decide +kernel
theorem dX8_out_16 : decode cX8_out 16 = .ok (.invokevirtual 109, 3) := by decide +kernel
theorem dX8_out_19 : decode cX8_out 19 = .ok (.aload_n 0, 1) := by decide +kernel
theorem dX8_out_20 : decode cX8_out 20 = .ok (.getfield 9, 3) := by decide +kernel
theorem dX8_out_23 : decode cX8_out 23 = .ok (.bipush 9, 2) := by decide +kernel
theorem dX8_out_25 : decode cX8_out 25 = .ok (.iaload, 1) := by decide +kernel
theorem dX8_out_26 : decode cX8_out 26 = .ok (.if_icmp .ne 11, 3) := by decide +kernel
theorem dX8_out_29 : decode cX8_out 29 = .ok (.aload_n 0, 1) := by decide +kernel
theorem dX8_out_30 : decode cX8_out 30 = .ok (.iload_n 1, 1) := by decide +kernel
theorem dX8_out_31 : decode cX8_out 31 = .ok (.invokevirtual 115, 3) := by decide +kernel
theorem dX8_out_34 : decode cX8_out 34 = .ok (.ifCond .ne 9, 3) := by decide +kernel
theorem dX8_out_37 : decode cX8_out 37 = .ok (.aload_n 0, 1) := by decide +kernel
theorem dX8_out_38 : decode cX8_out 38 = .ok (.iconst 4, 1) := by decide +kernel
theorem dX8_out_39 : decode cX8_out 39 = .ok (.invokevirtual 74, 3) := by decide +kernel
theorem dX8_out_42 : decode cX8_out 42 = .ok (.ireturn, 1) := by decide +kernel
theorem dX8_out_43 : decode cX8_out 43 = .ok (.aload_n 0, 1) := by decide +kernel
theorem dX8_out_44 : decode cX8_out 44 = .ok (.iload_n 1, 1) := by decide +kernel
theorem dX8_out_45 : decode cX8_out 45 = .ok (.aload_n 0, 1) := by decide +kernel
theorem dX8_out_46 : decode cX8_out 46 = .ok (.iload_n 1, 1) := by decide +kernel
theorem dX8_out_47 : decode cX8_out 47 = .ok (.invokevirtual 115, 3) := by decide +kernel
theorem dX8_out_50 : decode cX8_out 50 = .ok (.iconst 1, 1) := by decide +kernel
theorem dX8_out_51 : decode cX8_out 51 = .ok (.isub, 1) := by decide +kernel
theorem dX8_out_52 : decode cX8_out 52 = .ok (.aload_n 0, 1) := by decide +kernel
theorem dX8_out_53 : decode cX8_out 53 = .ok (.getfield 9, 3) := by decide +kernel
theorem dX8_out_56 : decode cX8_out 56 = .ok (.bipush 8, 2) := by decide +kernel
theorem dX8_out_58 : decode cX8_out 58 = .ok (.iaload, 1) := by decide +kernel
theorem dX8_out_59 : decode cX8_out 59 = .ok (.invokevirtual 118, 3) := by decide +kernel
theorem dX8_out_62 : decode cX8_out 62 = .ok (.aload_n 0, 1) := by decide +kernel
theorem dX8_out_63 : decode cX8_out 63 = .ok (.getfield 9, 3) := by decide +kernel
theorem dX8_out_66 : decode cX8_out 66 = .ok (.bipush 52, 2) := by decide +kernel
theorem dX8_out_68 : decode cX8_out 68 = .ok (.iload_n 1, 1) := by decide +kernel
theorem dX8_out_69 : decode cX8_out 69 = .ok (.iadd, 1) := by decide +kernel
theorem dX8_out_70 : decode cX8_out 70 = .ok (.iaload, 1) := by decide +kernel
theorem dX8_out_71 : decode cX8_out 71 = .ok (.ireturn, 1) := by decide +kernel
theorem dX8_canCarry_0 : decode cX8_canCarry 0 = .ok (.aload_n 0, 1) := by decide +kernel
theorem dX8_canCarry_1 : decode cX8_canCarry 1 = .ok (.getfield 9, 3) := by decide +kernel
theorem dX8_canCarry_4 : decode cX8_canCarry 4 = .ok (.bipush 36, 2) := by decide +kernel
theorem dX8_canCarry_6 : decode cX8_canCarry 6 = .ok (.iload_n 2, 1) := by decide +kernel
theorem dX8_canCarry_7 : decode cX8_canCarry 7 = .ok (.iadd, 1) := by decide +kernel
theorem dX8_canCarry_8 : decode cX8_canCarry 8 = .ok (.iaload, 1) := by decide +kernel
theorem dX8_canCarry_9 : decode cX8_canCarry 9 = .ok (.aload_n 0, 1) := by decide +kernel
theorem dX8_canCarry_10 : decode cX8_canCarry 10 = .ok (.iload_n 1, 1) := by decide +kernel
theorem dX8_canCarry_11 : decode cX8_canCarry 11 = .ok (.invokevirtual 109, 3) := by decide +kernel
theorem dX8_canCarry_14 : decode cX8_canCarry 14 = .ok (.if_icmp .ne 38, 3) := by decide +kernel
theorem dX8_canCarry_17 : decode cX8_canCarry 17 = .ok (.aload_n 0, 1) := by decide +kernel
theorem dX8_canCarry_18 : decode cX8_canCarry 18 = .ok (.iload_n 1, 1) := by decide +kernel
theorem dX8_canCarry_19 : decode cX8_canCarry 19 = .ok (.iload_n 3, 1) := by decide +kernel
theorem dX8_canCarry_20 : decode cX8_canCarry 20 = .ok (.invokevirtual 112, 3) := by decide +kernel
theorem dX8_canCarry_23 : decode cX8_canCarry 23 = .ok (.ifCond .eq 29, 3) := by decide +kernel
theorem dX8_canCarry_26 : decode cX8_canCarry 26 = .ok (.aload_n 0, 1) := by decide +kernel
theorem dX8_canCarry_27 : decode cX8_canCarry 27 = .ok (.iload_n 2, 1) := by decide +kernel
theorem dX8_canCarry_28 : decode cX8_canCarry 28 = .ok (.aload_n 0, 1) := by decide +kernel
theorem dX8_canCarry_29 : decode cX8_canCarry 29 = .ok (.iload_n 1, 1) := by decide +kernel
theorem dX8_canCarry_30 : decode cX8_canCarry 30 = .ok (.invokevirtual 115, 3) := by decide +kernel
theorem dX8_canCarry_33 : decode cX8_canCarry 33 = .ok (.invokevirtual 93, 3) := by decide +kernel
theorem dX8_canCarry_36 : decode cX8_canCarry 36 = .ok (.aload_n 0, 1) := by decide +kernel
theorem dX8_canCarry_37 : decode cX8_canCarry 37 = .ok (.getfield 9, 3) := by decide +kernel
theorem dX8_canCarry_40 : decode cX8_canCarry 40 = .ok (.bipush 56, 2) := by decide +kernel
theorem dX8_canCarry_42 : decode cX8_canCarry 42 = .ok (.iload_n 1, 1) := by decide +kernel
theorem dX8_canCarry_43 : decode cX8_canCarry 43 = .ok (.iadd, 1) := by decide +kernel
theorem dX8_canCarry_44 : decode cX8_canCarry 44 = .ok (.iaload, 1) := by decide +kernel
theorem dX8_canCarry_45 : decode cX8_canCarry 45 = .ok (.if_icmp .gt 7, 3) := by decide +kernel
theorem dX8_canCarry_48 : decode cX8_canCarry 48 = .ok (.iconst 1, 1) := by decide +kernel
theorem dX8_canCarry_49 : decode cX8_canCarry 49 = .ok (.goto 4, 3) := by decide +kernel
theorem dX8_canCarry_52 : decode cX8_canCarry 52 = .ok (.iconst 0, 1) := by decide +kernel
theorem dX8_canCarry_53 : decode cX8_canCarry 53 = .ok (.ireturn, 1) := by decide +kernel
theorem dX8_canReach_0 : decode cX8_canReach 0 = .ok (.aload_n 0, 1) := by decide +kernel
theorem dX8_canReach_1 : decode cX8_canReach 1 = .ok (.iload_n 1, 1) := by decide +kernel
theorem dX8_canReach_2 : decode cX8_canReach 2 = .ok (.invokevirtual 121, 3) := by decide +kernel
theorem dX8_canReach_5 : decode cX8_canReach 5 = .ok (.ifCond .eq 44, 3) := by decide +kernel
theorem dX8_canReach_8 : decode cX8_canReach 8 = .ok (.aload_n 0, 1) := by decide +kernel
theorem dX8_canReach_9 : decode cX8_canReach 9 = .ok (.getfield 9, 3) := by decide +kernel
theorem dX8_canReach_12 : decode cX8_canReach 12 = .ok (.bipush 36, 2) := by decide +kernel
theorem dX8_canReach_14 : decode cX8_canReach 14 = .ok (.iload_n 2, 1) := by decide +kernel
theorem dX8_canReach_15 : decode cX8_canReach 15 = .ok (.iadd, 1) := by decide +kernel
theorem dX8_canReach_16 : decode cX8_canReach 16 = .ok (.iaload, 1) := by decide +kernel
theorem dX8_canReach_17 : decode cX8_canReach 17 = .ok (.iload_n 3, 1) := by decide +kernel
theorem dX8_canReach_18 : decode cX8_canReach 18 = .ok (.if_icmp .eq 31, 3) := by decide +kernel
theorem dX8_canReach_21 : decode cX8_canReach 21 = .ok (.aload_n 0, 1) := by decide +kernel
theorem dX8_canReach_22 : decode cX8_canReach 22 = .ok (.iload_n 2, 1) := by decide +kernel
theorem dX8_canReach_23 : decode cX8_canReach 23 = .ok (.aload_n 0, 1) := by decide +kernel
theorem dX8_canReach_24 : decode cX8_canReach 24 = .ok (.iload_n 1, 1) := by decide +kernel
theorem dX8_canReach_25 : decode cX8_canReach 25 = .ok (.invokevirtual 115, 3) := by decide +kernel
theorem dX8_canReach_28 : decode cX8_canReach 28 = .ok (.iconst 1, 1) := by decide +kernel
theorem dX8_canReach_29 : decode cX8_canReach 29 = .ok (.iadd, 1) := by decide +kernel
theorem dX8_canReach_30 : decode cX8_canReach 30 = .ok (.invokevirtual 93, 3) := by decide +kernel
theorem dX8_canReach_33 : decode cX8_canReach 33 = .ok (.aload_n 0, 1) := by decide +kernel
theorem dX8_canReach_34 : decode cX8_canReach 34 = .ok (.getfield 9, 3) := by decide +kernel
theorem dX8_canReach_37 : decode cX8_canReach 37 = .ok (.bipush 56, 2) := by decide +kernel
theorem dX8_canReach_39 : decode cX8_canReach 39 = .ok (.iload_n 1, 1) := by decide +kernel
theorem dX8_canReach_40 : decode cX8_canReach 40 = .ok (.iadd, 1) := by decide +kernel
theorem dX8_canReach_41 : decode cX8_canReach 41 = .ok (.iaload, 1) := by decide +kernel
theorem dX8_canReach_42 : decode cX8_canReach 42 = .ok (.if_icmp .gt 7, 3) := by decide +kernel
theorem dX8_canReach_45 : decode cX8_canReach 45 = .ok (.iconst 1, 1) := by decide +kernel
theorem dX8_canReach_46 : decode cX8_canReach 46 = .ok (.goto 4, 3) := by decide +kernel
theorem dX8_canReach_49 : decode cX8_canReach 49 = .ok (.iconst 0, 1) := by decide +kernel
theorem dX8_canReach_50 : decode cX8_canReach 50 = .ok (.ireturn, 1) := by decide +kernel
theorem dX8_standing_0 : decode cX8_standing 0 = .ok (.iconst 0, 1) := by decide +kernel
theorem dX8_standing_1 : decode cX8_standing 1 = .ok (.istore_n 3, 1) := by decide +kernel
theorem dX8_standing_2 : decode cX8_standing 2 = .ok (.iconst 0, 1) := by decide +kernel
theorem dX8_standing_3 : decode cX8_standing 3 = .ok (.istore 4, 2) := by decide +kernel
theorem dX8_standing_5 : decode cX8_standing 5 = .ok (.iload 4, 2) := by decide +kernel
theorem dX8_standing_7 : decode cX8_standing 7 = .ok (.aload_n 0, 1) := by decide +kernel
theorem dX8_standing_8 : decode cX8_standing 8 = .ok (.getfield 9, 3) := by decide +kernel
theorem dX8_standing_11 : decode cX8_standing 11 = .ok (.bipush 12, 2) := by decide +kernel
theorem dX8_standing_13 : decode cX8_standing 13 = .ok (.iaload, 1) := by decide +kernel
theorem dX8_standing_14 : decode cX8_standing 14 = .ok (.if_icmp .ge 33, 3) := by decide +kernel
theorem dX8_standing_17 : decode cX8_standing 17 = .ok (.iload_n 3, 1) := by decide +kernel
theorem dX8_standing_18 : decode cX8_standing 18 = .ok (.iload 4, 2) := by decide +kernel
theorem dX8_standing_20 : decode cX8_standing 20 = .ok (.iload_n 2, 1) := by decide +kernel
theorem dX8_standing_21 : decode cX8_standing 21 = .ok (.if_icmp .eq 17, 3) := by decide +kernel
theorem dX8_standing_24 : decode cX8_standing 24 = .ok (.aload_n 0, 1) := by decide +kernel
theorem dX8_standing_25 : decode cX8_standing 25 = .ok (.iload 4, 2) := by decide +kernel
theorem dX8_standing_27 : decode cX8_standing 27 = .ok (.invokevirtual 109, 3) := by decide +kernel
theorem dX8_standing_30 : decode cX8_standing 30 = .ok (.iload_n 1, 1) := by decide +kernel
theorem dX8_standing_31 : decode cX8_standing 31 = .ok (.if_icmp .ne 7, 3) := by decide +kernel
theorem dX8_standing_34 : decode cX8_standing 34 = .ok (.iconst 1, 1) := by decide +kernel
theorem dX8_standing_35 : decode cX8_standing 35 = .ok (.goto 4, 3) := by decide +kernel
theorem dX8_standing_38 : decode cX8_standing 38 = .ok (.iconst 0, 1) := by decide +kernel
theorem dX8_standing_39 : decode cX8_standing 39 = .ok (.iadd, 1) := by decide +kernel
theorem dX8_standing_40 : decode cX8_standing 40 = .ok (.istore_n 3, 1) := by decide +kernel
theorem dX8_standing_41 : decode cX8_standing 41 = .ok (.iinc 4 1, 3) := by decide +kernel
theorem dX8_standing_44 : decode cX8_standing 44 = .ok (.goto (-39), 3) := by decide +kernel
theorem dX8_standing_47 : decode cX8_standing 47 = .ok (.iload_n 3, 1) := by decide +kernel
theorem dX8_standing_48 : decode cX8_standing 48 = .ok (.ireturn, 1) := by decide +kernel
theorem dX8_brings_0 : decode cX8_brings 0 = .ok (.bipush 59, 2) := by decide +kernel
theorem dX8_brings_2 : decode cX8_brings 2 = .ok (.istore 5, 2) := by decide +kernel
theorem dX8_brings_4 : decode cX8_brings 4 = .ok (.iload 5, 2) := by decide +kernel
theorem dX8_brings_6 : decode cX8_brings 6 = .ok (.iconst 5, 1) := by decide +kernel
theorem dX8_brings_7 : decode cX8_brings 7 = .ok (.if_icmp .lt 31, 3) := by decide +kernel
theorem dX8_brings_10 : decode cX8_brings 10 = .ok (.aload_n 0, 1) := by decide +kernel
theorem dX8_brings_11 : decode cX8_brings 11 = .ok (.getfield 9, 3) := by decide +kernel
theorem dX8_brings_14 : decode cX8_brings 14 = .ok (.bipush 60, 2) := by decide +kernel
theorem dX8_brings_16 : decode cX8_brings 16 = .ok (.iload 5, 2) := by decide +kernel
theorem dX8_brings_18 : decode cX8_brings 18 = .ok (.iadd, 1) := by decide +kernel
theorem dX8_brings_19 : decode cX8_brings 19 = .ok (.aload_n 0, 1) := by decide +kernel
theorem dX8_brings_20 : decode cX8_brings 20 = .ok (.getfield 9, 3) := by decide +kernel
theorem dX8_brings_23 : decode cX8_brings 23 = .ok (.bipush 60, 2) := by decide +kernel
theorem dX8_brings_25 : decode cX8_brings 25 = .ok (.iload 5, 2) := by decide +kernel
theorem dX8_brings_27 : decode cX8_brings 27 = .ok (.iadd, 1) := by decide +kernel
theorem dX8_brings_28 : decode cX8_brings 28 = .ok (.iconst 5, 1) := by decide +kernel
theorem dX8_brings_29 : decode cX8_brings 29 = .ok (.isub, 1) := by decide +kernel
theorem dX8_brings_30 : decode cX8_brings 30 = .ok (.iaload, 1) := by decide +kernel
theorem dX8_brings_31 : decode cX8_brings 31 = .ok (.iastore, 1) := by decide +kernel
theorem dX8_brings_32 : decode cX8_brings 32 = .ok (.iinc 5 (-1), 3) := by decide +kernel
theorem dX8_brings_35 : decode cX8_brings 35 = .ok (.goto (-31), 3) := by decide +kernel
theorem dX8_brings_38 : decode cX8_brings 38 = .ok (.aload_n 0, 1) := by decide +kernel
theorem dX8_brings_39 : decode cX8_brings 39 = .ok (.getfield 9, 3) := by decide +kernel
theorem dX8_brings_42 : decode cX8_brings 42 = .ok (.bipush 60, 2) := by decide +kernel
theorem dX8_brings_44 : decode cX8_brings 44 = .ok (.iload_n 1, 1) := by decide +kernel
theorem dX8_brings_45 : decode cX8_brings 45 = .ok (.iastore, 1) := by decide +kernel
theorem dX8_brings_46 : decode cX8_brings 46 = .ok (.aload_n 0, 1) := by decide +kernel
theorem dX8_brings_47 : decode cX8_brings 47 = .ok (.getfield 9, 3) := by decide +kernel
theorem dX8_brings_50 : decode cX8_brings 50 = .ok (.bipush 61, 2) := by decide +kernel
theorem dX8_brings_52 : decode cX8_brings 52 = .ok (.iload_n 2, 1) := by decide +kernel
theorem dX8_brings_53 : decode cX8_brings 53 = .ok (.iastore, 1) := by decide +kernel
theorem dX8_brings_54 : decode cX8_brings 54 = .ok (.aload_n 0, 1) := by decide +kernel
theorem dX8_brings_55 : decode cX8_brings 55 = .ok (.getfield 9, 3) := by decide +kernel
theorem dX8_brings_58 : decode cX8_brings 58 = .ok (.bipush 62, 2) := by decide +kernel
theorem dX8_brings_60 : decode cX8_brings 60 = .ok (.aload_n 0, 1) := by decide +kernel
theorem dX8_brings_61 : decode cX8_brings 61 = .ok (.getfield 9, 3) := by decide +kernel
theorem dX8_brings_64 : decode cX8_brings 64 = .ok (.bipush 36, 2) := by decide +kernel
theorem dX8_brings_66 : decode cX8_brings 66 = .ok (.iload_n 2, 1) := by decide +kernel
theorem dX8_brings_67 : decode cX8_brings 67 = .ok (.iadd, 1) := by decide +kernel
theorem dX8_brings_68 : decode cX8_brings 68 = .ok (.iaload, 1) := by decide +kernel
theorem dX8_brings_69 : decode cX8_brings 69 = .ok (.iastore, 1) := by decide +kernel
theorem dX8_brings_70 : decode cX8_brings 70 = .ok (.aload_n 0, 1) := by decide +kernel
theorem dX8_brings_71 : decode cX8_brings 71 = .ok (.getfield 9, 3) := by decide +kernel
theorem dX8_brings_74 : decode cX8_brings 74 = .ok (.bipush 63, 2) := by decide +kernel
theorem dX8_brings_76 : decode cX8_brings 76 = .ok (.iload_n 3, 1) := by decide +kernel
theorem dX8_brings_77 : decode cX8_brings 77 = .ok (.iastore, 1) := by decide +kernel
theorem dX8_brings_78 : decode cX8_brings 78 = .ok (.aload_n 0, 1) := by decide +kernel
theorem dX8_brings_79 : decode cX8_brings 79 = .ok (.getfield 9, 3) := by decide +kernel
theorem dX8_brings_82 : decode cX8_brings 82 = .ok (.bipush 64, 2) := by decide +kernel
theorem dX8_brings_84 : decode cX8_brings 84 = .ok (.iload 4, 2) := by decide +kernel
theorem dX8_brings_86 : decode cX8_brings 86 = .ok (.iastore, 1) := by decide +kernel
theorem dX8_brings_87 : decode cX8_brings 87 = .ok (.aload_n 0, 1) := by decide +kernel
theorem dX8_brings_88 : decode cX8_brings 88 = .ok (.getfield 9, 3) := by decide +kernel
theorem dX8_brings_91 : decode cX8_brings 91 = .ok (.bipush 17, 2) := by decide +kernel
theorem dX8_brings_93 : decode cX8_brings 93 = .ok (.bipush 12, 2) := by decide +kernel
theorem dX8_brings_95 : decode cX8_brings 95 = .ok (.aload_n 0, 1) := by decide +kernel
theorem dX8_brings_96 : decode cX8_brings 96 = .ok (.getfield 9, 3) := by decide +kernel
theorem dX8_brings_99 : decode cX8_brings 99 = .ok (.bipush 17, 2) := by decide +kernel
theorem dX8_brings_101 : decode cX8_brings 101 = .ok (.iaload, 1) := by decide +kernel
theorem dX8_brings_102 : decode cX8_brings 102 = .ok (.iconst 1, 1) := by decide +kernel
theorem dX8_brings_103 : decode cX8_brings 103 = .ok (.iadd, 1) := by decide +kernel
theorem dX8_brings_104 : decode cX8_brings 104 = .ok (.invokestatic 124, 3) := by decide +kernel
theorem dX8_brings_107 : decode cX8_brings 107 = .ok (.iastore, 1) := by decide +kernel
theorem dX8_brings_108 : decode cX8_brings 108 = .ok (.aload_n 0, 1) := by decide +kernel
theorem dX8_brings_109 : decode cX8_brings 109 = .ok (.getfield 9, 3) := by decide +kernel
theorem dX8_brings_112 : decode cX8_brings 112 = .ok (.bipush 36, 2) := by decide +kernel
theorem dX8_brings_114 : decode cX8_brings 114 = .ok (.iload_n 2, 1) := by decide +kernel
theorem dX8_brings_115 : decode cX8_brings 115 = .ok (.iadd, 1) := by decide +kernel
theorem dX8_brings_116 : decode cX8_brings 116 = .ok (.iload_n 3, 1) := by decide +kernel
theorem dX8_brings_117 : decode cX8_brings 117 = .ok (.iastore, 1) := by decide +kernel
theorem dX8_brings_118 : decode cX8_brings 118 = .ok (.aload_n 0, 1) := by decide +kernel
theorem dX8_brings_119 : decode cX8_brings 119 = .ok (.getfield 9, 3) := by decide +kernel
theorem dX8_brings_122 : decode cX8_brings 122 = .ok (.bipush 13, 2) := by decide +kernel
theorem dX8_brings_124 : decode cX8_brings 124 = .ok (.dup2, 1) := by decide +kernel
theorem dX8_brings_125 : decode cX8_brings 125 = .ok (.iaload, 1) := by decide +kernel
theorem dX8_brings_126 : decode cX8_brings 126 = .ok (.iconst 1, 1) := by decide +kernel
theorem dX8_brings_127 : decode cX8_brings 127 = .ok (.iadd, 1) := by decide +kernel
theorem dX8_brings_128 : decode cX8_brings 128 = .ok (.iastore, 1) := by decide +kernel
theorem dX8_brings_129 : decode cX8_brings 129 = .ok (.aload_n 0, 1) := by decide +kernel
theorem dX8_brings_130 : decode cX8_brings 130 = .ok (.getfield 9, 3) := by decide +kernel
theorem dX8_brings_133 : decode cX8_brings 133 = .ok (.bipush 14, 2) := by decide +kernel
theorem dX8_brings_135 : decode cX8_brings 135 = .ok (.dup2, 1) := by decide +kernel
theorem dX8_brings_136 : decode cX8_brings 136 = .ok (.iaload, 1) := by decide +kernel
theorem dX8_brings_137 : decode cX8_brings 137 = .ok (.iload 4, 2) := by decide +kernel
theorem dX8_brings_139 : decode cX8_brings 139 = .ok (.iadd, 1) := by decide +kernel
theorem dX8_brings_140 : decode cX8_brings 140 = .ok (.iastore, 1) := by decide +kernel
theorem dX8_brings_141 : decode cX8_brings 141 = .ok (.iload 4, 2) := by decide +kernel
theorem dX8_brings_143 : decode cX8_brings 143 = .ok (.ireturn, 1) := by decide +kernel
theorem dX8_carry_0 : decode cX8_carry 0 = .ok (.aload_n 0, 1) := by decide +kernel
theorem dX8_carry_1 : decode cX8_carry 1 = .ok (.iload_n 1, 1) := by decide +kernel
theorem dX8_carry_2 : decode cX8_carry 2 = .ok (.invokevirtual 106, 3) := by decide +kernel
theorem dX8_carry_5 : decode cX8_carry 5 = .ok (.ifCond .eq 18, 3) := by decide +kernel
theorem dX8_carry_8 : decode cX8_carry 8 = .ok (.aload_n 0, 1) := by decide +kernel
theorem dX8_carry_9 : decode cX8_carry 9 = .ok (.iload_n 2, 1) := by decide +kernel
theorem dX8_carry_10 : decode cX8_carry 10 = .ok (.invokevirtual 90, 3) := by decide +kernel
theorem dX8_carry_13 : decode cX8_carry 13 = .ok (.ifCond .eq 10, 3) := by decide +kernel
theorem dX8_carry_16 : decode cX8_carry 16 = .ok (.iload_n 3, 1) := by decide +kernel
theorem dX8_carry_17 : decode cX8_carry 17 = .ok (.invokestatic 70, 3) := by decide +kernel
theorem dX8_carry_20 : decode cX8_carry 20 = .ok (.ifCond .ne 9, 3) := by decide +kernel
theorem dX8_carry_23 : decode cX8_carry 23 = .ok (.aload_n 0, 1) := by decide +kernel
theorem dX8_carry_24 : decode cX8_carry 24 = .ok (.iconst 0, 1) := by decide +kernel
theorem dX8_carry_25 : decode cX8_carry 25 = .ok (.invokevirtual 74, 3) := by decide +kernel
theorem dX8_carry_28 : decode cX8_carry 28 = .ok (.ireturn, 1) := by decide +kernel
theorem dX8_carry_29 : decode cX8_carry 29 = .ok (.aload_n 0, 1) := by decide +kernel
theorem dX8_carry_30 : decode cX8_carry 30 = .ok (.iload_n 1, 1) := by decide +kernel
theorem dX8_carry_31 : decode cX8_carry 31 = .ok (.iload_n 2, 1) := by decide +kernel
theorem dX8_carry_32 : decode cX8_carry 32 = .ok (.iload_n 3, 1) := by decide +kernel
theorem dX8_carry_33 : decode cX8_carry 33 = .ok (.invokevirtual 129, 3) := by decide +kernel
theorem dX8_carry_36 : decode cX8_carry 36 = .ok (.ifCond .ne 9, 3) := by decide +kernel
theorem dX8_carry_39 : decode cX8_carry 39 = .ok (.aload_n 0, 1) := by decide +kernel
theorem dX8_carry_40 : decode cX8_carry 40 = .ok (.iconst 4, 1) := by decide +kernel
theorem dX8_carry_41 : decode cX8_carry 41 = .ok (.invokevirtual 74, 3) := by decide +kernel
theorem dX8_carry_44 : decode cX8_carry 44 = .ok (.ireturn, 1) := by decide +kernel
theorem dX8_carry_45 : decode cX8_carry 45 = .ok (.aload_n 0, 1) := by decide +kernel
theorem dX8_carry_46 : decode cX8_carry 46 = .ok (.iload_n 1, 1) := by decide +kernel
theorem dX8_carry_47 : decode cX8_carry 47 = .ok (.iload_n 2, 1) := by decide +kernel
theorem dX8_carry_48 : decode cX8_carry 48 = .ok (.iload_n 3, 1) := by decide +kernel
theorem dX8_carry_49 : decode cX8_carry 49 = .ok (.aload_n 0, 1) := by decide +kernel
theorem dX8_carry_50 : decode cX8_carry 50 = .ok (.iload_n 3, 1) := by decide +kernel
theorem dX8_carry_51 : decode cX8_carry 51 = .ok (.iload_n 1, 1) := by decide +kernel
theorem dX8_carry_52 : decode cX8_carry 52 = .ok (.invokevirtual 133, 3) := by decide +kernel
theorem dX8_carry_55 : decode cX8_carry 55 = .ok (.invokevirtual 136, 3) := by decide +kernel
theorem dX8_carry_58 : decode cX8_carry 58 = .ok (.istore 4, 2) := by decide +kernel
theorem dX8_carry_60 : decode cX8_carry 60 = .ok (.aload_n 0, 1) := by decide +kernel
theorem dX8_carry_61 : decode cX8_carry 61 = .ok (.iload_n 1, 1) := by decide +kernel
theorem dX8_carry_62 : decode cX8_carry 62 = .ok (.aload_n 0, 1) := by decide +kernel
theorem dX8_carry_63 : decode cX8_carry 63 = .ok (.iload_n 1, 1) := by decide +kernel
theorem dX8_carry_64 : decode cX8_carry 64 = .ok (.invokevirtual 115, 3) := by decide +kernel
theorem dX8_carry_67 : decode cX8_carry 67 = .ok (.iload_n 3, 1) := by decide +kernel
theorem dX8_carry_68 : decode cX8_carry 68 = .ok (.invokevirtual 118, 3) := by decide +kernel
theorem dX8_carry_71 : decode cX8_carry 71 = .ok (.iload 4, 2) := by decide +kernel
theorem dX8_carry_73 : decode cX8_carry 73 = .ok (.ireturn, 1) := by decide +kernel
theorem dX8_reach_0 : decode cX8_reach 0 = .ok (.aload_n 0, 1) := by decide +kernel
theorem dX8_reach_1 : decode cX8_reach 1 = .ok (.iload_n 1, 1) := by decide +kernel
theorem dX8_reach_2 : decode cX8_reach 2 = .ok (.invokevirtual 106, 3) := by decide +kernel
theorem dX8_reach_5 : decode cX8_reach 5 = .ok (.ifCond .eq 18, 3) := by decide +kernel
theorem dX8_reach_8 : decode cX8_reach 8 = .ok (.aload_n 0, 1) := by decide +kernel
theorem dX8_reach_9 : decode cX8_reach 9 = .ok (.iload_n 2, 1) := by decide +kernel
theorem dX8_reach_10 : decode cX8_reach 10 = .ok (.invokevirtual 90, 3) := by decide +kernel
theorem dX8_reach_13 : decode cX8_reach 13 = .ok (.ifCond .eq 10, 3) := by decide +kernel
theorem dX8_reach_16 : decode cX8_reach 16 = .ok (.iload_n 3, 1) := by decide +kernel
theorem dX8_reach_17 : decode cX8_reach 17 = .ok (.invokestatic 70, 3) := by decide +kernel
theorem dX8_reach_20 : decode cX8_reach 20 = .ok (.ifCond .ne 9, 3) := by decide +kernel
theorem dX8_reach_23 : decode cX8_reach 23 = .ok (.aload_n 0, 1) := by decide +kernel
theorem dX8_reach_24 : decode cX8_reach 24 = .ok (.iconst 0, 1) := by decide +kernel
theorem dX8_reach_25 : decode cX8_reach 25 = .ok (.invokevirtual 74, 3) := by decide +kernel
theorem dX8_reach_28 : decode cX8_reach 28 = .ok (.ireturn, 1) := by decide +kernel
theorem dX8_reach_29 : decode cX8_reach 29 = .ok (.aload_n 0, 1) := by decide +kernel
theorem dX8_reach_30 : decode cX8_reach 30 = .ok (.iload_n 1, 1) := by decide +kernel
theorem dX8_reach_31 : decode cX8_reach 31 = .ok (.iload_n 2, 1) := by decide +kernel
theorem dX8_reach_32 : decode cX8_reach 32 = .ok (.iload_n 3, 1) := by decide +kernel
theorem dX8_reach_33 : decode cX8_reach 33 = .ok (.invokevirtual 140, 3) := by decide +kernel
theorem dX8_reach_36 : decode cX8_reach 36 = .ok (.ifCond .eq 19, 3) := by decide +kernel
theorem dX8_reach_39 : decode cX8_reach 39 = .ok (.aload_n 0, 1) := by decide +kernel
theorem dX8_reach_40 : decode cX8_reach 40 = .ok (.iload_n 1, 1) := by decide +kernel
theorem dX8_reach_41 : decode cX8_reach 41 = .ok (.iload_n 2, 1) := by decide +kernel
theorem dX8_reach_42 : decode cX8_reach 42 = .ok (.iload_n 3, 1) := by decide +kernel
theorem dX8_reach_43 : decode cX8_reach 43 = .ok (.aload_n 0, 1) := by decide +kernel
theorem dX8_reach_44 : decode cX8_reach 44 = .ok (.iload_n 3, 1) := by decide +kernel
theorem dX8_reach_45 : decode cX8_reach 45 = .ok (.iconst (-1), 1) := by decide +kernel
theorem dX8_reach_46 : decode cX8_reach 46 = .ok (.invokevirtual 133, 3) := by decide +kernel
theorem dX8_reach_49 : decode cX8_reach 49 = .ok (.invokevirtual 136, 3) := by decide +kernel
theorem dX8_reach_52 : decode cX8_reach 52 = .ok (.goto 8, 3) := by decide +kernel
theorem dX8_reach_55 : decode cX8_reach 55 = .ok (.aload_n 0, 1) := by decide +kernel
theorem dX8_reach_56 : decode cX8_reach 56 = .ok (.iconst 4, 1) := by decide +kernel
theorem dX8_reach_57 : decode cX8_reach 57 = .ok (.invokevirtual 74, 3) := by decide +kernel
theorem dX8_reach_60 : decode cX8_reach 60 = .ok (.ireturn, 1) := by decide +kernel
theorem dX8_lift_0 : decode cX8_lift 0 = .ok (.aload_n 0, 1) := by decide +kernel
theorem dX8_lift_1 : decode cX8_lift 1 = .ok (.iload_n 1, 1) := by decide +kernel
theorem dX8_lift_2 : decode cX8_lift 2 = .ok (.invokevirtual 106, 3) := by decide +kernel
theorem dX8_lift_5 : decode cX8_lift 5 = .ok (.ifCond .eq 23, 3) := by decide +kernel
theorem dX8_lift_8 : decode cX8_lift 8 = .ok (.aload_n 0, 1) := by decide +kernel
theorem dX8_lift_9 : decode cX8_lift 9 = .ok (.iload_n 2, 1) := by decide +kernel
theorem dX8_lift_10 : decode cX8_lift 10 = .ok (.invokevirtual 106, 3) := by decide +kernel
theorem dX8_lift_13 : decode cX8_lift 13 = .ok (.ifCond .eq 15, 3) := by decide +kernel
theorem dX8_lift_16 : decode cX8_lift 16 = .ok (.iload_n 1, 1) := by decide +kernel
theorem dX8_lift_17 : decode cX8_lift 17 = .ok (.iload_n 2, 1) := by decide +kernel
theorem dX8_lift_18 : decode cX8_lift 18 = .ok (.if_icmp .eq 10, 3) := by decide +kernel
theorem dX8_lift_21 : decode cX8_lift 21 = .ok (.iload_n 3, 1) := by decide +kernel
theorem dX8_lift_22 : decode cX8_lift 22 = .ok (.invokestatic 70, 3) := by decide +kernel
theorem dX8_lift_25 : decode cX8_lift 25 = .ok (.ifCond .ne 9, 3) := by decide +kernel
theorem dX8_lift_28 : decode cX8_lift 28 = .ok (.aload_n 0, 1) := by decide +kernel
theorem dX8_lift_29 : decode cX8_lift 29 = .ok (.iconst 0, 1) := by decide +kernel
theorem dX8_lift_30 : decode cX8_lift 30 = .ok (.invokevirtual 74, 3) := by decide +kernel
theorem dX8_lift_33 : decode cX8_lift 33 = .ok (.ireturn, 1) := by decide +kernel
theorem dX8_lift_34 : decode cX8_lift 34 = .ok (.aload_n 0, 1) := by decide +kernel
theorem dX8_lift_35 : decode cX8_lift 35 = .ok (.iload_n 1, 1) := by decide +kernel
theorem dX8_lift_36 : decode cX8_lift 36 = .ok (.invokevirtual 121, 3) := by decide +kernel
theorem dX8_lift_39 : decode cX8_lift 39 = .ok (.ifCond .eq 27, 3) := by decide +kernel
theorem dX8_lift_42 : decode cX8_lift 42 = .ok (.aload_n 0, 1) := by decide +kernel
theorem dX8_lift_43 : decode cX8_lift 43 = .ok (.iload_n 2, 1) := by decide +kernel
theorem dX8_lift_44 : decode cX8_lift 44 = .ok (.invokevirtual 115, 3) := by decide +kernel
theorem dX8_lift_47 : decode cX8_lift 47 = .ok (.aload_n 0, 1) := by decide +kernel
theorem dX8_lift_48 : decode cX8_lift 48 = .ok (.iload_n 1, 1) := by decide +kernel
theorem dX8_lift_49 : decode cX8_lift 49 = .ok (.invokevirtual 115, 3) := by decide +kernel
theorem dX8_lift_52 : decode cX8_lift 52 = .ok (.iconst 1, 1) := by decide +kernel
theorem dX8_lift_53 : decode cX8_lift 53 = .ok (.iadd, 1) := by decide +kernel
theorem dX8_lift_54 : decode cX8_lift 54 = .ok (.if_icmp .ne 12, 3) := by decide +kernel
theorem dX8_lift_57 : decode cX8_lift 57 = .ok (.aload_n 0, 1) := by decide +kernel
theorem dX8_lift_58 : decode cX8_lift 58 = .ok (.iload_n 2, 1) := by decide +kernel
theorem dX8_lift_59 : decode cX8_lift 59 = .ok (.invokevirtual 109, 3) := by decide +kernel
theorem dX8_lift_62 : decode cX8_lift 62 = .ok (.iload_n 3, 1) := by decide +kernel
theorem dX8_lift_63 : decode cX8_lift 63 = .ok (.if_icmp .ne 9, 3) := by decide +kernel
theorem dX8_lift_66 : decode cX8_lift 66 = .ok (.aload_n 0, 1) := by decide +kernel
theorem dX8_lift_67 : decode cX8_lift 67 = .ok (.iconst 4, 1) := by decide +kernel
theorem dX8_lift_68 : decode cX8_lift 68 = .ok (.invokevirtual 74, 3) := by decide +kernel
theorem dX8_lift_71 : decode cX8_lift 71 = .ok (.ireturn, 1) := by decide +kernel
theorem dX8_lift_72 : decode cX8_lift 72 = .ok (.aload_n 0, 1) := by decide +kernel
theorem dX8_lift_73 : decode cX8_lift 73 = .ok (.iload_n 2, 1) := by decide +kernel
theorem dX8_lift_74 : decode cX8_lift 74 = .ok (.aload_n 0, 1) := by decide +kernel
theorem dX8_lift_75 : decode cX8_lift 75 = .ok (.iload_n 2, 1) := by decide +kernel
theorem dX8_lift_76 : decode cX8_lift 76 = .ok (.invokevirtual 115, 3) := by decide +kernel
theorem dX8_lift_79 : decode cX8_lift 79 = .ok (.iload_n 3, 1) := by decide +kernel
theorem dX8_lift_80 : decode cX8_lift 80 = .ok (.invokevirtual 118, 3) := by decide +kernel
theorem dX8_lift_83 : decode cX8_lift 83 = .ok (.aload_n 0, 1) := by decide +kernel
theorem dX8_lift_84 : decode cX8_lift 84 = .ok (.getfield 9, 3) := by decide +kernel
theorem dX8_lift_87 : decode cX8_lift 87 = .ok (.bipush 13, 2) := by decide +kernel
theorem dX8_lift_89 : decode cX8_lift 89 = .ok (.dup2, 1) := by decide +kernel
theorem dX8_lift_90 : decode cX8_lift 90 = .ok (.iaload, 1) := by decide +kernel
theorem dX8_lift_91 : decode cX8_lift 91 = .ok (.iconst 1, 1) := by decide +kernel
theorem dX8_lift_92 : decode cX8_lift 92 = .ok (.iadd, 1) := by decide +kernel
theorem dX8_lift_93 : decode cX8_lift 93 = .ok (.iastore, 1) := by decide +kernel
theorem dX8_lift_94 : decode cX8_lift 94 = .ok (.aload_n 0, 1) := by decide +kernel
theorem dX8_lift_95 : decode cX8_lift 95 = .ok (.getfield 9, 3) := by decide +kernel
theorem dX8_lift_98 : decode cX8_lift 98 = .ok (.bipush 13, 2) := by decide +kernel
theorem dX8_lift_100 : decode cX8_lift 100 = .ok (.iaload, 1) := by decide +kernel
theorem dX8_lift_101 : decode cX8_lift 101 = .ok (.ireturn, 1) := by decide +kernel
theorem dX8_now_0 : decode cX8_now 0 = .ok (.iload_n 1, 1) := by decide +kernel
theorem dX8_now_1 : decode cX8_now 1 = .ok (.tableswitch 99 0 6 #[43, 51, 59, 67, 75, 83, 91], 43) := by decide +kernel
theorem dX8_now_44 : decode cX8_now 44 = .ok (.aload_n 0, 1) := by decide +kernel
theorem dX8_now_45 : decode cX8_now 45 = .ok (.getfield 9, 3) := by decide +kernel
theorem dX8_now_48 : decode cX8_now 48 = .ok (.bipush 13, 2) := by decide +kernel
theorem dX8_now_50 : decode cX8_now 50 = .ok (.iaload, 1) := by decide +kernel
theorem dX8_now_51 : decode cX8_now 51 = .ok (.ireturn, 1) := by decide +kernel
theorem dX8_now_52 : decode cX8_now 52 = .ok (.aload_n 0, 1) := by decide +kernel
theorem dX8_now_53 : decode cX8_now 53 = .ok (.getfield 9, 3) := by decide +kernel
theorem dX8_now_56 : decode cX8_now 56 = .ok (.bipush 15, 2) := by decide +kernel
theorem dX8_now_58 : decode cX8_now 58 = .ok (.iaload, 1) := by decide +kernel
theorem dX8_now_59 : decode cX8_now 59 = .ok (.ireturn, 1) := by decide +kernel
theorem dX8_now_60 : decode cX8_now 60 = .ok (.aload_n 0, 1) := by decide +kernel
theorem dX8_now_61 : decode cX8_now 61 = .ok (.getfield 9, 3) := by decide +kernel
theorem dX8_now_64 : decode cX8_now 64 = .ok (.bipush 8, 2) := by decide +kernel
theorem dX8_now_66 : decode cX8_now 66 = .ok (.iaload, 1) := by decide +kernel
theorem dX8_now_67 : decode cX8_now 67 = .ok (.ireturn, 1) := by decide +kernel
theorem dX8_now_68 : decode cX8_now 68 = .ok (.aload_n 0, 1) := by decide +kernel
theorem dX8_now_69 : decode cX8_now 69 = .ok (.getfield 9, 3) := by decide +kernel
theorem dX8_now_72 : decode cX8_now 72 = .ok (.bipush 9, 2) := by decide +kernel
theorem dX8_now_74 : decode cX8_now 74 = .ok (.iaload, 1) := by decide +kernel
theorem dX8_now_75 : decode cX8_now 75 = .ok (.ireturn, 1) := by decide +kernel
theorem dX8_now_76 : decode cX8_now 76 = .ok (.aload_n 0, 1) := by decide +kernel
theorem dX8_now_77 : decode cX8_now 77 = .ok (.getfield 9, 3) := by decide +kernel
theorem dX8_now_80 : decode cX8_now 80 = .ok (.bipush 10, 2) := by decide +kernel
theorem dX8_now_82 : decode cX8_now 82 = .ok (.iaload, 1) := by decide +kernel
theorem dX8_now_83 : decode cX8_now 83 = .ok (.ireturn, 1) := by decide +kernel
theorem dX8_now_84 : decode cX8_now 84 = .ok (.aload_n 0, 1) := by decide +kernel
theorem dX8_now_85 : decode cX8_now 85 = .ok (.getfield 9, 3) := by decide +kernel
theorem dX8_now_88 : decode cX8_now 88 = .ok (.bipush 14, 2) := by decide +kernel
theorem dX8_now_90 : decode cX8_now 90 = .ok (.iaload, 1) := by decide +kernel
theorem dX8_now_91 : decode cX8_now 91 = .ok (.ireturn, 1) := by decide +kernel
theorem dX8_now_92 : decode cX8_now 92 = .ok (.aload_n 0, 1) := by decide +kernel
theorem dX8_now_93 : decode cX8_now 93 = .ok (.getfield 9, 3) := by decide +kernel
theorem dX8_now_96 : decode cX8_now 96 = .ok (.bipush 17, 2) := by decide +kernel
theorem dX8_now_98 : decode cX8_now 98 = .ok (.iaload, 1) := by decide +kernel
theorem dX8_now_99 : decode cX8_now 99 = .ok (.ireturn, 1) := by decide +kernel
theorem dX8_now_100 : decode cX8_now 100 = .ok (.aload_n 0, 1) := by decide +kernel
theorem dX8_now_101 : decode cX8_now 101 = .ok (.iconst 0, 1) := by decide +kernel
theorem dX8_now_102 : decode cX8_now 102 = .ok (.invokevirtual 74, 3) := by decide +kernel
theorem dX8_now_105 : decode cX8_now 105 = .ok (.ireturn, 1) := by decide +kernel
theorem dX8_book_0 : decode cX8_book 0 = .ok (.iload_n 1, 1) := by decide +kernel
theorem dX8_book_1 : decode cX8_book 1 = .ok (.ifCond .lt 15, 3) := by decide +kernel
theorem dX8_book_4 : decode cX8_book 4 = .ok (.iload_n 2, 1) := by decide +kernel
theorem dX8_book_5 : decode cX8_book 5 = .ok (.i2l, 1) := by decide +kernel
theorem dX8_book_6 : decode cX8_book 6 = .ok (.lconst 0, 1) := by decide +kernel
theorem dX8_book_7 : decode cX8_book 7 = .ok (.ldc2_w 143, 3) := by decide +kernel
theorem dX8_book_10 : decode cX8_book 10 = .ok (.invokestatic 54, 3) := by decide +kernel
theorem dX8_book_13 : decode cX8_book 13 = .ok (.ifCond .ne 9, 3) := by decide +kernel
theorem dX8_book_16 : decode cX8_book 16 = .ok (.aload_n 0, 1) := by decide +kernel
theorem dX8_book_17 : decode cX8_book 17 = .ok (.iconst 0, 1) := by decide +kernel
theorem dX8_book_18 : decode cX8_book 18 = .ok (.invokevirtual 74, 3) := by decide +kernel
theorem dX8_book_21 : decode cX8_book 21 = .ok (.ireturn, 1) := by decide +kernel
theorem dX8_book_22 : decode cX8_book 22 = .ok (.iload_n 1, 1) := by decide +kernel
theorem dX8_book_23 : decode cX8_book 23 = .ok (.aload_n 0, 1) := by decide +kernel
theorem dX8_book_24 : decode cX8_book 24 = .ok (.getfield 9, 3) := by decide +kernel
theorem dX8_book_27 : decode cX8_book 27 = .ok (.bipush 17, 2) := by decide +kernel
theorem dX8_book_29 : decode cX8_book 29 = .ok (.iaload, 1) := by decide +kernel
theorem dX8_book_30 : decode cX8_book 30 = .ok (.if_icmp .ge 19, 3) := by decide +kernel
theorem dX8_book_33 : decode cX8_book 33 = .ok (.aload_n 0, 1) := by decide +kernel
theorem dX8_book_34 : decode cX8_book 34 = .ok (.getfield 9, 3) := by decide +kernel
theorem dX8_book_37 : decode cX8_book 37 = .ok (.bipush 60, 2) := by decide +kernel
theorem dX8_book_39 : decode cX8_book 39 = .ok (.iconst 5, 1) := by decide +kernel
theorem dX8_book_40 : decode cX8_book 40 = .ok (.iload_n 1, 1) := by decide +kernel
theorem dX8_book_41 : decode cX8_book 41 = .ok (.imul, 1) := by decide +kernel
theorem dX8_book_42 : decode cX8_book 42 = .ok (.iadd, 1) := by decide +kernel
theorem dX8_book_43 : decode cX8_book 43 = .ok (.iload_n 2, 1) := by decide +kernel
theorem dX8_book_44 : decode cX8_book 44 = .ok (.iadd, 1) := by decide +kernel
theorem dX8_book_45 : decode cX8_book 45 = .ok (.iaload, 1) := by decide +kernel
theorem dX8_book_46 : decode cX8_book 46 = .ok (.goto 8, 3) := by decide +kernel
theorem dX8_book_49 : decode cX8_book 49 = .ok (.aload_n 0, 1) := by decide +kernel
theorem dX8_book_50 : decode cX8_book 50 = .ok (.iconst 3, 1) := by decide +kernel
theorem dX8_book_51 : decode cX8_book 51 = .ok (.invokevirtual 74, 3) := by decide +kernel
theorem dX8_book_54 : decode cX8_book 54 = .ok (.ireturn, 1) := by decide +kernel
theorem dX8_finds_0 : decode cX8_finds 0 = .ok (.bipush 8, 2) := by decide +kernel
theorem dX8_finds_2 : decode cX8_finds 2 = .ok (.iload_n 1, 1) := by decide +kernel
theorem dX8_finds_3 : decode cX8_finds 3 = .ok (.imul, 1) := by decide +kernel
theorem dX8_finds_4 : decode cX8_finds 4 = .ok (.iload_n 2, 1) := by decide +kernel
theorem dX8_finds_5 : decode cX8_finds 5 = .ok (.iadd, 1) := by decide +kernel
theorem dX8_finds_6 : decode cX8_finds 6 = .ok (.istore 4, 2) := by decide +kernel
theorem dX8_finds_8 : decode cX8_finds 8 = .ok (.aload_n 0, 1) := by decide +kernel
theorem dX8_finds_9 : decode cX8_finds 9 = .ok (.getfield 25, 3) := by decide +kernel
theorem dX8_finds_12 : decode cX8_finds 12 = .ok (.iload 4, 2) := by decide +kernel
theorem dX8_finds_14 : decode cX8_finds 14 = .ok (.iaload, 1) := by decide +kernel
theorem dX8_finds_15 : decode cX8_finds 15 = .ok (.ifCond .ge 32, 3) := by decide +kernel
theorem dX8_finds_18 : decode cX8_finds 18 = .ok (.aload_n 0, 1) := by decide +kernel
theorem dX8_finds_19 : decode cX8_finds 19 = .ok (.getfield 25, 3) := by decide +kernel
theorem dX8_finds_22 : decode cX8_finds 22 = .ok (.iload 4, 2) := by decide +kernel
theorem dX8_finds_24 : decode cX8_finds 24 = .ok (.iload_n 3, 1) := by decide +kernel
theorem dX8_finds_25 : decode cX8_finds 25 = .ok (.iastore, 1) := by decide +kernel
theorem dX8_finds_26 : decode cX8_finds 26 = .ok (.aload_n 0, 1) := by decide +kernel
theorem dX8_finds_27 : decode cX8_finds 27 = .ok (.getfield 28, 3) := by decide +kernel
theorem dX8_finds_30 : decode cX8_finds 30 = .ok (.aload_n 0, 1) := by decide +kernel
theorem dX8_finds_31 : decode cX8_finds 31 = .ok (.getfield 145, 3) := by decide +kernel
theorem dX8_finds_34 : decode cX8_finds 34 = .ok (.iload 4, 2) := by decide +kernel
theorem dX8_finds_36 : decode cX8_finds 36 = .ok (.iastore, 1) := by decide +kernel
theorem dX8_finds_37 : decode cX8_finds 37 = .ok (.aload_n 0, 1) := by decide +kernel
theorem dX8_finds_38 : decode cX8_finds 38 = .ok (.dup, 1) := by decide +kernel
theorem dX8_finds_39 : decode cX8_finds 39 = .ok (.getfield 145, 3) := by decide +kernel
theorem dX8_finds_42 : decode cX8_finds 42 = .ok (.iconst 1, 1) := by decide +kernel
theorem dX8_finds_43 : decode cX8_finds 43 = .ok (.iadd, 1) := by decide +kernel
theorem dX8_finds_44 : decode cX8_finds 44 = .ok (.putfield 145, 3) := by decide +kernel
theorem dX8_finds_47 : decode cX8_finds 47 = .ok (.return_, 1) := by decide +kernel
theorem dX8_stepsFrom_0 : decode cX8_stepsFrom 0 = .ok (.iload 4, 2) := by decide +kernel
theorem dX8_stepsFrom_2 : decode cX8_stepsFrom 2 = .ok (.bipush 8, 2) := by decide +kernel
theorem dX8_stepsFrom_4 : decode cX8_stepsFrom 4 = .ok (.irem, 1) := by decide +kernel
theorem dX8_stepsFrom_5 : decode cX8_stepsFrom 5 = .ok (.istore 7, 2) := by decide +kernel
theorem dX8_stepsFrom_7 : decode cX8_stepsFrom 7 = .ok (.iload 4, 2) := by decide +kernel
theorem dX8_stepsFrom_9 : decode cX8_stepsFrom 9 = .ok (.bipush 8, 2) := by decide +kernel
theorem dX8_stepsFrom_11 : decode cX8_stepsFrom 11 = .ok (.idiv, 1) := by decide +kernel
theorem dX8_stepsFrom_12 : decode cX8_stepsFrom 12 = .ok (.istore 8, 2) := by decide +kernel
theorem dX8_stepsFrom_14 : decode cX8_stepsFrom 14 = .ok (.iload_n 2, 1) := by decide +kernel
theorem dX8_stepsFrom_15 : decode cX8_stepsFrom 15 = .ok (.ifCond .lt 33, 3) := by decide +kernel
theorem dX8_stepsFrom_18 : decode cX8_stepsFrom 18 = .ok (.iload 5, 2) := by decide +kernel
theorem dX8_stepsFrom_20 : decode cX8_stepsFrom 20 = .ok (.iload 7, 2) := by decide +kernel
theorem dX8_stepsFrom_22 : decode cX8_stepsFrom 22 = .ok (.if_icmp .ne 26, 3) := by decide +kernel
theorem dX8_stepsFrom_25 : decode cX8_stepsFrom 25 = .ok (.aload_n 0, 1) := by decide +kernel
theorem dX8_stepsFrom_26 : decode cX8_stepsFrom 26 = .ok (.iload_n 2, 1) := by decide +kernel
theorem dX8_stepsFrom_27 : decode cX8_stepsFrom 27 = .ok (.iload 8, 2) := by decide +kernel
theorem dX8_stepsFrom_29 : decode cX8_stepsFrom 29 = .ok (.invokevirtual 93, 3) := by decide +kernel
theorem dX8_stepsFrom_32 : decode cX8_stepsFrom 32 = .ok (.aload_n 0, 1) := by decide +kernel
theorem dX8_stepsFrom_33 : decode cX8_stepsFrom 33 = .ok (.getfield 9, 3) := by decide +kernel
theorem dX8_stepsFrom_36 : decode cX8_stepsFrom 36 = .ok (.bipush 56, 2) := by decide +kernel
theorem dX8_stepsFrom_38 : decode cX8_stepsFrom 38 = .ok (.iload_n 1, 1) := by decide +kernel
theorem dX8_stepsFrom_39 : decode cX8_stepsFrom 39 = .ok (.iadd, 1) := by decide +kernel
theorem dX8_stepsFrom_40 : decode cX8_stepsFrom 40 = .ok (.iaload, 1) := by decide +kernel
theorem dX8_stepsFrom_41 : decode cX8_stepsFrom 41 = .ok (.if_icmp .gt 7, 3) := by decide +kernel
theorem dX8_stepsFrom_44 : decode cX8_stepsFrom 44 = .ok (.iconst 1, 1) := by decide +kernel
theorem dX8_stepsFrom_45 : decode cX8_stepsFrom 45 = .ok (.goto 4, 3) := by decide +kernel
theorem dX8_stepsFrom_48 : decode cX8_stepsFrom 48 = .ok (.iconst 0, 1) := by decide +kernel
theorem dX8_stepsFrom_49 : decode cX8_stepsFrom 49 = .ok (.istore 9, 2) := by decide +kernel
theorem dX8_stepsFrom_51 : decode cX8_stepsFrom 51 = .ok (.iconst 0, 1) := by decide +kernel
theorem dX8_stepsFrom_52 : decode cX8_stepsFrom 52 = .ok (.istore 10, 2) := by decide +kernel
theorem dX8_stepsFrom_54 : decode cX8_stepsFrom 54 = .ok (.iload 10, 2) := by decide +kernel
theorem dX8_stepsFrom_56 : decode cX8_stepsFrom 56 = .ok (.bipush 8, 2) := by decide +kernel
theorem dX8_stepsFrom_58 : decode cX8_stepsFrom 58 = .ok (.if_icmp .ge 57, 3) := by decide +kernel
theorem dX8_stepsFrom_61 : decode cX8_stepsFrom 61 = .ok (.aload_n 0, 1) := by decide +kernel
theorem dX8_stepsFrom_62 : decode cX8_stepsFrom 62 = .ok (.iload 7, 2) := by decide +kernel
theorem dX8_stepsFrom_64 : decode cX8_stepsFrom 64 = .ok (.iload 10, 2) := by decide +kernel
theorem dX8_stepsFrom_66 : decode cX8_stepsFrom 66 = .ok (.invokevirtual 77, 3) := by decide +kernel
theorem dX8_stepsFrom_69 : decode cX8_stepsFrom 69 = .ok (.ifCond .eq 40, 3) := by decide +kernel
theorem dX8_stepsFrom_72 : decode cX8_stepsFrom 72 = .ok (.aload_n 0, 1) := by decide +kernel
theorem dX8_stepsFrom_73 : decode cX8_stepsFrom 73 = .ok (.bipush 8, 2) := by decide +kernel
theorem dX8_stepsFrom_75 : decode cX8_stepsFrom 75 = .ok (.iload 8, 2) := by decide +kernel
theorem dX8_stepsFrom_77 : decode cX8_stepsFrom 77 = .ok (.imul, 1) := by decide +kernel
theorem dX8_stepsFrom_78 : decode cX8_stepsFrom 78 = .ok (.iload 10, 2) := by decide +kernel
theorem dX8_stepsFrom_80 : decode cX8_stepsFrom 80 = .ok (.iadd, 1) := by decide +kernel
theorem dX8_stepsFrom_81 : decode cX8_stepsFrom 81 = .ok (.iload 5, 2) := by decide +kernel
theorem dX8_stepsFrom_83 : decode cX8_stepsFrom 83 = .ok (.iload 6, 2) := by decide +kernel
theorem dX8_stepsFrom_85 : decode cX8_stepsFrom 85 = .ok (.invokevirtual 149, 3) := by decide +kernel
theorem dX8_stepsFrom_88 : decode cX8_stepsFrom 88 = .ok (.iload 9, 2) := by decide +kernel
theorem dX8_stepsFrom_90 : decode cX8_stepsFrom 90 = .ok (.ifCond .eq 19, 3) := by decide +kernel
theorem dX8_stepsFrom_93 : decode cX8_stepsFrom 93 = .ok (.aload_n 0, 1) := by decide +kernel
theorem dX8_stepsFrom_94 : decode cX8_stepsFrom 94 = .ok (.bipush 8, 2) := by decide +kernel
theorem dX8_stepsFrom_96 : decode cX8_stepsFrom 96 = .ok (.iload 8, 2) := by decide +kernel
theorem dX8_stepsFrom_98 : decode cX8_stepsFrom 98 = .ok (.imul, 1) := by decide +kernel
theorem dX8_stepsFrom_99 : decode cX8_stepsFrom 99 = .ok (.iload 10, 2) := by decide +kernel
theorem dX8_stepsFrom_101 : decode cX8_stepsFrom 101 = .ok (.iadd, 1) := by decide +kernel
theorem dX8_stepsFrom_102 : decode cX8_stepsFrom 102 = .ok (.iload 10, 2) := by decide +kernel
theorem dX8_stepsFrom_104 : decode cX8_stepsFrom 104 = .ok (.iload 6, 2) := by decide +kernel
theorem dX8_stepsFrom_106 : decode cX8_stepsFrom 106 = .ok (.invokevirtual 149, 3) := by decide +kernel
theorem dX8_stepsFrom_109 : decode cX8_stepsFrom 109 = .ok (.iinc 10 1, 3) := by decide +kernel
theorem dX8_stepsFrom_112 : decode cX8_stepsFrom 112 = .ok (.goto (-58), 3) := by decide +kernel
theorem dX8_stepsFrom_115 : decode cX8_stepsFrom 115 = .ok (.iload 7, 2) := by decide +kernel
theorem dX8_stepsFrom_117 : decode cX8_stepsFrom 117 = .ok (.aload_n 0, 1) := by decide +kernel
theorem dX8_stepsFrom_118 : decode cX8_stepsFrom 118 = .ok (.getfield 9, 3) := by decide +kernel
theorem dX8_stepsFrom_121 : decode cX8_stepsFrom 121 = .ok (.bipush 8, 2) := by decide +kernel
theorem dX8_stepsFrom_123 : decode cX8_stepsFrom 123 = .ok (.iaload, 1) := by decide +kernel
theorem dX8_stepsFrom_124 : decode cX8_stepsFrom 124 = .ok (.if_icmp .ne 13, 3) := by decide +kernel
theorem dX8_stepsFrom_127 : decode cX8_stepsFrom 127 = .ok (.iload 8, 2) := by decide +kernel
theorem dX8_stepsFrom_129 : decode cX8_stepsFrom 129 = .ok (.iconst 4, 1) := by decide +kernel
theorem dX8_stepsFrom_130 : decode cX8_stepsFrom 130 = .ok (.if_icmp .ge 7, 3) := by decide +kernel
theorem dX8_stepsFrom_133 : decode cX8_stepsFrom 133 = .ok (.iconst 1, 1) := by decide +kernel
theorem dX8_stepsFrom_134 : decode cX8_stepsFrom 134 = .ok (.goto 4, 3) := by decide +kernel
theorem dX8_stepsFrom_137 : decode cX8_stepsFrom 137 = .ok (.iconst 0, 1) := by decide +kernel
theorem dX8_stepsFrom_138 : decode cX8_stepsFrom 138 = .ok (.istore 10, 2) := by decide +kernel
theorem dX8_stepsFrom_140 : decode cX8_stepsFrom 140 = .ok (.iload 10, 2) := by decide +kernel
theorem dX8_stepsFrom_142 : decode cX8_stepsFrom 142 = .ok (.ifCond .eq 26, 3) := by decide +kernel
theorem dX8_stepsFrom_145 : decode cX8_stepsFrom 145 = .ok (.aload_n 0, 1) := by decide +kernel
theorem dX8_stepsFrom_146 : decode cX8_stepsFrom 146 = .ok (.bipush 8, 2) := by decide +kernel
theorem dX8_stepsFrom_148 : decode cX8_stepsFrom 148 = .ok (.iload 8, 2) := by decide +kernel
theorem dX8_stepsFrom_150 : decode cX8_stepsFrom 150 = .ok (.iconst 1, 1) := by decide +kernel
theorem dX8_stepsFrom_151 : decode cX8_stepsFrom 151 = .ok (.iadd, 1) := by decide +kernel
theorem dX8_stepsFrom_152 : decode cX8_stepsFrom 152 = .ok (.imul, 1) := by decide +kernel
theorem dX8_stepsFrom_153 : decode cX8_stepsFrom 153 = .ok (.aload_n 0, 1) := by decide +kernel
theorem dX8_stepsFrom_154 : decode cX8_stepsFrom 154 = .ok (.getfield 9, 3) := by decide +kernel
theorem dX8_stepsFrom_157 : decode cX8_stepsFrom 157 = .ok (.bipush 9, 2) := by decide +kernel
theorem dX8_stepsFrom_159 : decode cX8_stepsFrom 159 = .ok (.iaload, 1) := by decide +kernel
theorem dX8_stepsFrom_160 : decode cX8_stepsFrom 160 = .ok (.iadd, 1) := by decide +kernel
theorem dX8_stepsFrom_161 : decode cX8_stepsFrom 161 = .ok (.iload 5, 2) := by decide +kernel
theorem dX8_stepsFrom_163 : decode cX8_stepsFrom 163 = .ok (.iload 6, 2) := by decide +kernel
theorem dX8_stepsFrom_165 : decode cX8_stepsFrom 165 = .ok (.invokevirtual 149, 3) := by decide +kernel
theorem dX8_stepsFrom_168 : decode cX8_stepsFrom 168 = .ok (.iload 7, 2) := by decide +kernel
theorem dX8_stepsFrom_170 : decode cX8_stepsFrom 170 = .ok (.aload_n 0, 1) := by decide +kernel
theorem dX8_stepsFrom_171 : decode cX8_stepsFrom 171 = .ok (.getfield 9, 3) := by decide +kernel
theorem dX8_stepsFrom_174 : decode cX8_stepsFrom 174 = .ok (.bipush 9, 2) := by decide +kernel
theorem dX8_stepsFrom_176 : decode cX8_stepsFrom 176 = .ok (.iaload, 1) := by decide +kernel
theorem dX8_stepsFrom_177 : decode cX8_stepsFrom 177 = .ok (.if_icmp .ne 31, 3) := by decide +kernel
theorem dX8_stepsFrom_180 : decode cX8_stepsFrom 180 = .ok (.iload 8, 2) := by decide +kernel
theorem dX8_stepsFrom_182 : decode cX8_stepsFrom 182 = .ok (.ifCond .le 26, 3) := by decide +kernel
theorem dX8_stepsFrom_185 : decode cX8_stepsFrom 185 = .ok (.aload_n 0, 1) := by decide +kernel
theorem dX8_stepsFrom_186 : decode cX8_stepsFrom 186 = .ok (.bipush 8, 2) := by decide +kernel
theorem dX8_stepsFrom_188 : decode cX8_stepsFrom 188 = .ok (.iload 8, 2) := by decide +kernel
theorem dX8_stepsFrom_190 : decode cX8_stepsFrom 190 = .ok (.iconst 1, 1) := by decide +kernel
theorem dX8_stepsFrom_191 : decode cX8_stepsFrom 191 = .ok (.isub, 1) := by decide +kernel
theorem dX8_stepsFrom_192 : decode cX8_stepsFrom 192 = .ok (.imul, 1) := by decide +kernel
theorem dX8_stepsFrom_193 : decode cX8_stepsFrom 193 = .ok (.aload_n 0, 1) := by decide +kernel
theorem dX8_stepsFrom_194 : decode cX8_stepsFrom 194 = .ok (.getfield 9, 3) := by decide +kernel
theorem dX8_stepsFrom_197 : decode cX8_stepsFrom 197 = .ok (.bipush 8, 2) := by decide +kernel
theorem dX8_stepsFrom_199 : decode cX8_stepsFrom 199 = .ok (.iaload, 1) := by decide +kernel
theorem dX8_stepsFrom_200 : decode cX8_stepsFrom 200 = .ok (.iadd, 1) := by decide +kernel
theorem dX8_stepsFrom_201 : decode cX8_stepsFrom 201 = .ok (.iload 5, 2) := by decide +kernel
theorem dX8_stepsFrom_203 : decode cX8_stepsFrom 203 = .ok (.iload 6, 2) := by decide +kernel
theorem dX8_stepsFrom_205 : decode cX8_stepsFrom 205 = .ok (.invokevirtual 149, 3) := by decide +kernel
theorem dX8_stepsFrom_208 : decode cX8_stepsFrom 208 = .ok (.iload_n 3, 1) := by decide +kernel
theorem dX8_stepsFrom_209 : decode cX8_stepsFrom 209 = .ok (.ifCond .eq 37, 3) := by decide +kernel
theorem dX8_stepsFrom_212 : decode cX8_stepsFrom 212 = .ok (.iload_n 2, 1) := by decide +kernel
theorem dX8_stepsFrom_213 : decode cX8_stepsFrom 213 = .ok (.ifCond .lt 33, 3) := by decide +kernel
theorem dX8_stepsFrom_216 : decode cX8_stepsFrom 216 = .ok (.iload 10, 2) := by decide +kernel
theorem dX8_stepsFrom_218 : decode cX8_stepsFrom 218 = .ok (.ifCond .eq 28, 3) := by decide +kernel
theorem dX8_stepsFrom_221 : decode cX8_stepsFrom 221 = .ok (.aload_n 0, 1) := by decide +kernel
theorem dX8_stepsFrom_222 : decode cX8_stepsFrom 222 = .ok (.iload_n 2, 1) := by decide +kernel
theorem dX8_stepsFrom_223 : decode cX8_stepsFrom 223 = .ok (.iload 8, 2) := by decide +kernel
theorem dX8_stepsFrom_225 : decode cX8_stepsFrom 225 = .ok (.iconst 1, 1) := by decide +kernel
theorem dX8_stepsFrom_226 : decode cX8_stepsFrom 226 = .ok (.iadd, 1) := by decide +kernel
theorem dX8_stepsFrom_227 : decode cX8_stepsFrom 227 = .ok (.invokevirtual 93, 3) := by decide +kernel
theorem dX8_stepsFrom_230 : decode cX8_stepsFrom 230 = .ok (.aload_n 0, 1) := by decide +kernel
theorem dX8_stepsFrom_231 : decode cX8_stepsFrom 231 = .ok (.getfield 9, 3) := by decide +kernel
theorem dX8_stepsFrom_234 : decode cX8_stepsFrom 234 = .ok (.bipush 56, 2) := by decide +kernel
theorem dX8_stepsFrom_236 : decode cX8_stepsFrom 236 = .ok (.iload_n 1, 1) := by decide +kernel
theorem dX8_stepsFrom_237 : decode cX8_stepsFrom 237 = .ok (.iadd, 1) := by decide +kernel
theorem dX8_stepsFrom_238 : decode cX8_stepsFrom 238 = .ok (.iaload, 1) := by decide +kernel
theorem dX8_stepsFrom_239 : decode cX8_stepsFrom 239 = .ok (.if_icmp .gt 7, 3) := by decide +kernel
theorem dX8_stepsFrom_242 : decode cX8_stepsFrom 242 = .ok (.iconst 1, 1) := by decide +kernel
theorem dX8_stepsFrom_243 : decode cX8_stepsFrom 243 = .ok (.goto 4, 3) := by decide +kernel
theorem dX8_stepsFrom_246 : decode cX8_stepsFrom 246 = .ok (.iconst 0, 1) := by decide +kernel
theorem dX8_stepsFrom_247 : decode cX8_stepsFrom 247 = .ok (.istore 11, 2) := by decide +kernel
theorem dX8_stepsFrom_249 : decode cX8_stepsFrom 249 = .ok (.iconst 0, 1) := by decide +kernel
theorem dX8_stepsFrom_250 : decode cX8_stepsFrom 250 = .ok (.istore 12, 2) := by decide +kernel
theorem dX8_stepsFrom_252 : decode cX8_stepsFrom 252 = .ok (.iload 12, 2) := by decide +kernel
theorem dX8_stepsFrom_254 : decode cX8_stepsFrom 254 = .ok (.bipush 8, 2) := by decide +kernel
theorem dX8_stepsFrom_256 : decode cX8_stepsFrom 256 = .ok (.if_icmp .ge 24, 3) := by decide +kernel
theorem dX8_stepsFrom_259 : decode cX8_stepsFrom 259 = .ok (.iload 11, 2) := by decide +kernel
theorem dX8_stepsFrom_261 : decode cX8_stepsFrom 261 = .ok (.ifCond .eq 19, 3) := by decide +kernel
theorem dX8_stepsFrom_264 : decode cX8_stepsFrom 264 = .ok (.aload_n 0, 1) := by decide +kernel
theorem dX8_stepsFrom_265 : decode cX8_stepsFrom 265 = .ok (.iload 4, 2) := by decide +kernel
theorem dX8_stepsFrom_267 : decode cX8_stepsFrom 267 = .ok (.iload 12, 2) := by decide +kernel
theorem dX8_stepsFrom_269 : decode cX8_stepsFrom 269 = .ok (.iload 6, 2) := by decide +kernel
theorem dX8_stepsFrom_271 : decode cX8_stepsFrom 271 = .ok (.invokevirtual 149, 3) := by decide +kernel
theorem dX8_stepsFrom_274 : decode cX8_stepsFrom 274 = .ok (.iinc 12 1, 3) := by decide +kernel
theorem dX8_stepsFrom_277 : decode cX8_stepsFrom 277 = .ok (.goto (-25), 3) := by decide +kernel
theorem dX8_stepsFrom_280 : decode cX8_stepsFrom 280 = .ok (.return_, 1) := by decide +kernel
theorem dX8_walksAll_0 : decode cX8_walksAll 0 = .ok (.iconst 0, 1) := by decide +kernel
theorem dX8_walksAll_1 : decode cX8_walksAll 1 = .ok (.istore 4, 2) := by decide +kernel
theorem dX8_walksAll_3 : decode cX8_walksAll 3 = .ok (.iload 4, 2) := by decide +kernel
theorem dX8_walksAll_5 : decode cX8_walksAll 5 = .ok (.sipush 320, 3) := by decide +kernel
theorem dX8_walksAll_8 : decode cX8_walksAll 8 = .ok (.if_icmp .ge 17, 3) := by decide +kernel
theorem dX8_walksAll_11 : decode cX8_walksAll 11 = .ok (.aload_n 0, 1) := by decide +kernel
theorem dX8_walksAll_12 : decode cX8_walksAll 12 = .ok (.getfield 25, 3) := by decide +kernel
theorem dX8_walksAll_15 : decode cX8_walksAll 15 = .ok (.iload 4, 2) := by decide +kernel
theorem dX8_walksAll_17 : decode cX8_walksAll 17 = .ok (.iconst (-1), 1) := by decide +kernel
theorem dX8_walksAll_18 : decode cX8_walksAll 18 = .ok (.iastore, 1) := by decide +kernel
theorem dX8_walksAll_19 : decode cX8_walksAll 19 = .ok (.iinc 4 1, 3) := by decide +kernel
theorem dX8_walksAll_22 : decode cX8_walksAll 22 = .ok (.goto (-19), 3) := by decide +kernel
theorem dX8_walksAll_25 : decode cX8_walksAll 25 = .ok (.aload_n 0, 1) := by decide +kernel
theorem dX8_walksAll_26 : decode cX8_walksAll 26 = .ok (.iconst 0, 1) := by decide +kernel
theorem dX8_walksAll_27 : decode cX8_walksAll 27 = .ok (.putfield 145, 3) := by decide +kernel
theorem dX8_walksAll_30 : decode cX8_walksAll 30 = .ok (.aload_n 0, 1) := by decide +kernel
theorem dX8_walksAll_31 : decode cX8_walksAll 31 = .ok (.iconst 0, 1) := by decide +kernel
theorem dX8_walksAll_32 : decode cX8_walksAll 32 = .ok (.putfield 152, 3) := by decide +kernel
theorem dX8_walksAll_35 : decode cX8_walksAll 35 = .ok (.aload_n 0, 1) := by decide +kernel
theorem dX8_walksAll_36 : decode cX8_walksAll 36 = .ok (.aload_n 0, 1) := by decide +kernel
theorem dX8_walksAll_37 : decode cX8_walksAll 37 = .ok (.getfield 9, 3) := by decide +kernel
theorem dX8_walksAll_40 : decode cX8_walksAll 40 = .ok (.bipush 52, 2) := by decide +kernel
theorem dX8_walksAll_42 : decode cX8_walksAll 42 = .ok (.iload_n 1, 1) := by decide +kernel
theorem dX8_walksAll_43 : decode cX8_walksAll 43 = .ok (.iadd, 1) := by decide +kernel
theorem dX8_walksAll_44 : decode cX8_walksAll 44 = .ok (.iaload, 1) := by decide +kernel
theorem dX8_walksAll_45 : decode cX8_walksAll 45 = .ok (.iload_n 2, 1) := by decide +kernel
theorem dX8_walksAll_46 : decode cX8_walksAll 46 = .ok (.ifCond .ge 7, 3) := by decide +kernel
theorem dX8_walksAll_49 : decode cX8_walksAll 49 = .ok (.iconst 0, 1) := by decide +kernel
theorem dX8_walksAll_50 : decode cX8_walksAll 50 = .ok (.goto 12, 3) := by decide +kernel
theorem dX8_walksAll_53 : decode cX8_walksAll 53 = .ok (.aload_n 0, 1) := by decide +kernel
theorem dX8_walksAll_54 : decode cX8_walksAll 54 = .ok (.getfield 9, 3) := by decide +kernel
theorem dX8_walksAll_57 : decode cX8_walksAll 57 = .ok (.bipush 36, 2) := by decide +kernel
theorem dX8_walksAll_59 : decode cX8_walksAll 59 = .ok (.iload_n 2, 1) := by decide +kernel
theorem dX8_walksAll_60 : decode cX8_walksAll 60 = .ok (.iadd, 1) := by decide +kernel
theorem dX8_walksAll_61 : decode cX8_walksAll 61 = .ok (.iaload, 1) := by decide +kernel
theorem dX8_walksAll_62 : decode cX8_walksAll 62 = .ok (.iconst 0, 1) := by decide +kernel
theorem dX8_walksAll_63 : decode cX8_walksAll 63 = .ok (.invokevirtual 149, 3) := by decide +kernel
theorem dX8_walksAll_66 : decode cX8_walksAll 66 = .ok (.aload_n 0, 1) := by decide +kernel
theorem dX8_walksAll_67 : decode cX8_walksAll 67 = .ok (.getfield 152, 3) := by decide +kernel
theorem dX8_walksAll_70 : decode cX8_walksAll 70 = .ok (.aload_n 0, 1) := by decide +kernel
theorem dX8_walksAll_71 : decode cX8_walksAll 71 = .ok (.getfield 145, 3) := by decide +kernel
theorem dX8_walksAll_74 : decode cX8_walksAll 74 = .ok (.if_icmp .ge 53, 3) := by decide +kernel
theorem dX8_walksAll_77 : decode cX8_walksAll 77 = .ok (.aload_n 0, 1) := by decide +kernel
theorem dX8_walksAll_78 : decode cX8_walksAll 78 = .ok (.getfield 28, 3) := by decide +kernel
theorem dX8_walksAll_81 : decode cX8_walksAll 81 = .ok (.aload_n 0, 1) := by decide +kernel
theorem dX8_walksAll_82 : decode cX8_walksAll 82 = .ok (.getfield 152, 3) := by decide +kernel
theorem dX8_walksAll_85 : decode cX8_walksAll 85 = .ok (.iaload, 1) := by decide +kernel
theorem dX8_walksAll_86 : decode cX8_walksAll 86 = .ok (.istore 4, 2) := by decide +kernel
theorem dX8_walksAll_88 : decode cX8_walksAll 88 = .ok (.aload_n 0, 1) := by decide +kernel
theorem dX8_walksAll_89 : decode cX8_walksAll 89 = .ok (.dup, 1) := by decide +kernel
theorem dX8_walksAll_90 : decode cX8_walksAll 90 = .ok (.getfield 152, 3) := by decide +kernel
theorem dX8_walksAll_93 : decode cX8_walksAll 93 = .ok (.iconst 1, 1) := by decide +kernel
theorem dX8_walksAll_94 : decode cX8_walksAll 94 = .ok (.iadd, 1) := by decide +kernel
theorem dX8_walksAll_95 : decode cX8_walksAll 95 = .ok (.putfield 152, 3) := by decide +kernel
theorem dX8_walksAll_98 : decode cX8_walksAll 98 = .ok (.aload_n 0, 1) := by decide +kernel
theorem dX8_walksAll_99 : decode cX8_walksAll 99 = .ok (.iload_n 1, 1) := by decide +kernel
theorem dX8_walksAll_100 : decode cX8_walksAll 100 = .ok (.iload_n 2, 1) := by decide +kernel
theorem dX8_walksAll_101 : decode cX8_walksAll 101 = .ok (.iload_n 3, 1) := by decide +kernel
theorem dX8_walksAll_102 : decode cX8_walksAll 102 = .ok (.iload 4, 2) := by decide +kernel
theorem dX8_walksAll_104 : decode cX8_walksAll 104 = .ok (.bipush 8, 2) := by decide +kernel
theorem dX8_walksAll_106 : decode cX8_walksAll 106 = .ok (.idiv, 1) := by decide +kernel
theorem dX8_walksAll_107 : decode cX8_walksAll 107 = .ok (.iload 4, 2) := by decide +kernel
theorem dX8_walksAll_109 : decode cX8_walksAll 109 = .ok (.bipush 8, 2) := by decide +kernel
theorem dX8_walksAll_111 : decode cX8_walksAll 111 = .ok (.irem, 1) := by decide +kernel
theorem dX8_walksAll_112 : decode cX8_walksAll 112 = .ok (.aload_n 0, 1) := by decide +kernel
theorem dX8_walksAll_113 : decode cX8_walksAll 113 = .ok (.getfield 25, 3) := by decide +kernel
theorem dX8_walksAll_116 : decode cX8_walksAll 116 = .ok (.iload 4, 2) := by decide +kernel
theorem dX8_walksAll_118 : decode cX8_walksAll 118 = .ok (.iaload, 1) := by decide +kernel
theorem dX8_walksAll_119 : decode cX8_walksAll 119 = .ok (.iconst 1, 1) := by decide +kernel
theorem dX8_walksAll_120 : decode cX8_walksAll 120 = .ok (.iadd, 1) := by decide +kernel
theorem dX8_walksAll_121 : decode cX8_walksAll 121 = .ok (.invokevirtual 155, 3) := by decide +kernel
theorem dX8_walksAll_124 : decode cX8_walksAll 124 = .ok (.goto (-58), 3) := by decide +kernel
theorem dX8_walksAll_127 : decode cX8_walksAll 127 = .ok (.return_, 1) := by decide +kernel
theorem dX8_ways_0 : decode cX8_ways 0 = .ok (.aload_n 0, 1) := by decide +kernel
theorem dX8_ways_1 : decode cX8_ways 1 = .ok (.iload_n 1, 1) := by decide +kernel
theorem dX8_ways_2 : decode cX8_ways 2 = .ok (.invokevirtual 106, 3) := by decide +kernel
theorem dX8_ways_5 : decode cX8_ways 5 = .ok (.ifCond .ne 10, 3) := by decide +kernel
theorem dX8_ways_8 : decode cX8_ways 8 = .ok (.aload_n 0, 1) := by decide +kernel
theorem dX8_ways_9 : decode cX8_ways 9 = .ok (.iconst 0, 1) := by decide +kernel
theorem dX8_ways_10 : decode cX8_ways 10 = .ok (.invokevirtual 74, 3) := by decide +kernel
theorem dX8_ways_13 : decode cX8_ways 13 = .ok (.i2l, 1) := by decide +kernel
theorem dX8_ways_14 : decode cX8_ways 14 = .ok (.lreturn, 1) := by decide +kernel
theorem dX8_ways_15 : decode cX8_ways 15 = .ok (.aload_n 0, 1) := by decide +kernel
theorem dX8_ways_16 : decode cX8_ways 16 = .ok (.iload_n 1, 1) := by decide +kernel
theorem dX8_ways_17 : decode cX8_ways 17 = .ok (.iconst (-1), 1) := by decide +kernel
theorem dX8_ways_18 : decode cX8_ways 18 = .ok (.iconst 0, 1) := by decide +kernel
theorem dX8_ways_19 : decode cX8_ways 19 = .ok (.invokevirtual 159, 3) := by decide +kernel
theorem dX8_ways_22 : decode cX8_ways 22 = .ok (.lconst 0, 1) := by decide +kernel
theorem dX8_ways_23 : decode cX8_ways 23 = .ok (.lstore_n 2, 1) := by decide +kernel
theorem dX8_ways_24 : decode cX8_ways 24 = .ok (.iconst 0, 1) := by decide +kernel
theorem dX8_ways_25 : decode cX8_ways 25 = .ok (.istore 4, 2) := by decide +kernel
theorem dX8_ways_27 : decode cX8_ways 27 = .ok (.iload 4, 2) := by decide +kernel
theorem dX8_ways_29 : decode cX8_ways 29 = .ok (.bipush 40, 2) := by decide +kernel
theorem dX8_ways_31 : decode cX8_ways 31 = .ok (.if_icmp .ge 33, 3) := by decide +kernel
theorem dX8_ways_34 : decode cX8_ways 34 = .ok (.lload_n 2, 1) := by decide +kernel
theorem dX8_ways_35 : decode cX8_ways 35 = .ok (.aload_n 0, 1) := by decide +kernel
theorem dX8_ways_36 : decode cX8_ways 36 = .ok (.getfield 25, 3) := by decide +kernel
theorem dX8_ways_39 : decode cX8_ways 39 = .ok (.bipush 8, 2) := by decide +kernel
theorem dX8_ways_41 : decode cX8_ways 41 = .ok (.iload 4, 2) := by decide +kernel
theorem dX8_ways_43 : decode cX8_ways 43 = .ok (.imul, 1) := by decide +kernel
theorem dX8_ways_44 : decode cX8_ways 44 = .ok (.iaload, 1) := by decide +kernel
theorem dX8_ways_45 : decode cX8_ways 45 = .ok (.ifCond .ge 7, 3) := by decide +kernel
theorem dX8_ways_48 : decode cX8_ways 48 = .ok (.lconst 0, 1) := by decide +kernel
theorem dX8_ways_49 : decode cX8_ways 49 = .ok (.goto 7, 3) := by decide +kernel
theorem dX8_ways_52 : decode cX8_ways 52 = .ok (.lconst 1, 1) := by decide +kernel
theorem dX8_ways_53 : decode cX8_ways 53 = .ok (.iload 4, 2) := by decide +kernel
theorem dX8_ways_55 : decode cX8_ways 55 = .ok (.lshl, 1) := by decide +kernel
theorem dX8_ways_56 : decode cX8_ways 56 = .ok (.lor, 1) := by decide +kernel
theorem dX8_ways_57 : decode cX8_ways 57 = .ok (.lstore_n 2, 1) := by decide +kernel
theorem dX8_ways_58 : decode cX8_ways 58 = .ok (.iinc 4 1, 3) := by decide +kernel
theorem dX8_ways_61 : decode cX8_ways 61 = .ok (.goto (-34), 3) := by decide +kernel
theorem dX8_ways_64 : decode cX8_ways 64 = .ok (.lload_n 2, 1) := by decide +kernel
theorem dX8_ways_65 : decode cX8_ways 65 = .ok (.lreturn, 1) := by decide +kernel
theorem dX8_orNone_0 : decode cX8_orNone 0 = .ok (.iload_n 1, 1) := by decide +kernel
theorem dX8_orNone_1 : decode cX8_orNone 1 = .ok (.ifCond .ge 11, 3) := by decide +kernel
theorem dX8_orNone_4 : decode cX8_orNone 4 = .ok (.aload_n 0, 1) := by decide +kernel
theorem dX8_orNone_5 : decode cX8_orNone 5 = .ok (.iconst 3, 1) := by decide +kernel
theorem dX8_orNone_6 : decode cX8_orNone 6 = .ok (.invokevirtual 74, 3) := by decide +kernel
theorem dX8_orNone_9 : decode cX8_orNone 9 = .ok (.goto 4, 3) := by decide +kernel
theorem dX8_orNone_12 : decode cX8_orNone 12 = .ok (.iload_n 1, 1) := by decide +kernel
theorem dX8_orNone_13 : decode cX8_orNone 13 = .ok (.ireturn, 1) := by decide +kernel
theorem dX8_far_0 : decode cX8_far 0 = .ok (.aload_n 0, 1) := by decide +kernel
theorem dX8_far_1 : decode cX8_far 1 = .ok (.iload_n 1, 1) := by decide +kernel
theorem dX8_far_2 : decode cX8_far 2 = .ok (.invokevirtual 106, 3) := by decide +kernel
theorem dX8_far_5 : decode cX8_far 5 = .ok (.ifCond .eq 10, 3) := by decide +kernel
theorem dX8_far_8 : decode cX8_far 8 = .ok (.iload_n 2, 1) := by decide +kernel
theorem dX8_far_9 : decode cX8_far 9 = .ok (.invokestatic 99, 3) := by decide +kernel
theorem dX8_far_12 : decode cX8_far 12 = .ok (.ifCond .ne 9, 3) := by decide +kernel
theorem dX8_far_15 : decode cX8_far 15 = .ok (.aload_n 0, 1) := by decide +kernel
theorem dX8_far_16 : decode cX8_far 16 = .ok (.iconst 0, 1) := by decide +kernel
theorem dX8_far_17 : decode cX8_far 17 = .ok (.invokevirtual 74, 3) := by decide +kernel
theorem dX8_far_20 : decode cX8_far 20 = .ok (.ireturn, 1) := by decide +kernel
theorem dX8_far_21 : decode cX8_far 21 = .ok (.aload_n 0, 1) := by decide +kernel
theorem dX8_far_22 : decode cX8_far 22 = .ok (.iload_n 1, 1) := by decide +kernel
theorem dX8_far_23 : decode cX8_far 23 = .ok (.iconst (-1), 1) := by decide +kernel
theorem dX8_far_24 : decode cX8_far 24 = .ok (.iconst 0, 1) := by decide +kernel
theorem dX8_far_25 : decode cX8_far 25 = .ok (.invokevirtual 159, 3) := by decide +kernel
theorem dX8_far_28 : decode cX8_far 28 = .ok (.aload_n 0, 1) := by decide +kernel
theorem dX8_far_29 : decode cX8_far 29 = .ok (.aload_n 0, 1) := by decide +kernel
theorem dX8_far_30 : decode cX8_far 30 = .ok (.getfield 25, 3) := by decide +kernel
theorem dX8_far_33 : decode cX8_far 33 = .ok (.bipush 8, 2) := by decide +kernel
theorem dX8_far_35 : decode cX8_far 35 = .ok (.iload_n 2, 1) := by decide +kernel
theorem dX8_far_36 : decode cX8_far 36 = .ok (.imul, 1) := by decide +kernel
theorem dX8_far_37 : decode cX8_far 37 = .ok (.iaload, 1) := by decide +kernel
theorem dX8_far_38 : decode cX8_far 38 = .ok (.invokevirtual 162, 3) := by decide +kernel
theorem dX8_far_41 : decode cX8_far 41 = .ok (.ireturn, 1) := by decide +kernel
theorem dX8_leastFor_0 : decode cX8_leastFor 0 = .ok (.iconst (-1), 1) := by decide +kernel
theorem dX8_leastFor_1 : decode cX8_leastFor 1 = .ok (.istore_n 2, 1) := by decide +kernel
theorem dX8_leastFor_2 : decode cX8_leastFor 2 = .ok (.iconst 0, 1) := by decide +kernel
theorem dX8_leastFor_3 : decode cX8_leastFor 3 = .ok (.istore_n 3, 1) := by decide +kernel
theorem dX8_leastFor_4 : decode cX8_leastFor 4 = .ok (.iload_n 3, 1) := by decide +kernel
theorem dX8_leastFor_5 : decode cX8_leastFor 5 = .ok (.bipush 40, 2) := by decide +kernel
theorem dX8_leastFor_7 : decode cX8_leastFor 7 = .ok (.if_icmp .ge 44, 3) := by decide +kernel
theorem dX8_leastFor_10 : decode cX8_leastFor 10 = .ok (.aload_n 0, 1) := by decide +kernel
theorem dX8_leastFor_11 : decode cX8_leastFor 11 = .ok (.getfield 25, 3) := by decide +kernel
theorem dX8_leastFor_14 : decode cX8_leastFor 14 = .ok (.bipush 8, 2) := by decide +kernel
theorem dX8_leastFor_16 : decode cX8_leastFor 16 = .ok (.iload_n 3, 1) := by decide +kernel
theorem dX8_leastFor_17 : decode cX8_leastFor 17 = .ok (.imul, 1) := by decide +kernel
theorem dX8_leastFor_18 : decode cX8_leastFor 18 = .ok (.iload_n 1, 1) := by decide +kernel
theorem dX8_leastFor_19 : decode cX8_leastFor 19 = .ok (.iadd, 1) := by decide +kernel
theorem dX8_leastFor_20 : decode cX8_leastFor 20 = .ok (.iaload, 1) := by decide +kernel
theorem dX8_leastFor_21 : decode cX8_leastFor 21 = .ok (.istore 4, 2) := by decide +kernel
theorem dX8_leastFor_23 : decode cX8_leastFor 23 = .ok (.iload 4, 2) := by decide +kernel
theorem dX8_leastFor_25 : decode cX8_leastFor 25 = .ok (.ifCond .lt 18, 3) := by decide +kernel
theorem dX8_leastFor_28 : decode cX8_leastFor 28 = .ok (.iload_n 2, 1) := by decide +kernel
theorem dX8_leastFor_29 : decode cX8_leastFor 29 = .ok (.ifCond .lt 9, 3) := by decide +kernel
theorem dX8_leastFor_32 : decode cX8_leastFor 32 = .ok (.iload 4, 2) := by decide +kernel
theorem dX8_leastFor_34 : decode cX8_leastFor 34 = .ok (.iload_n 2, 1) := by decide +kernel
theorem dX8_leastFor_35 : decode cX8_leastFor 35 = .ok (.if_icmp .ge 8, 3) := by decide +kernel
theorem dX8_leastFor_38 : decode cX8_leastFor 38 = .ok (.iload 4, 2) := by decide +kernel
theorem dX8_leastFor_40 : decode cX8_leastFor 40 = .ok (.goto 4, 3) := by decide +kernel
theorem dX8_leastFor_43 : decode cX8_leastFor 43 = .ok (.iload_n 2, 1) := by decide +kernel
theorem dX8_leastFor_44 : decode cX8_leastFor 44 = .ok (.istore_n 2, 1) := by decide +kernel
theorem dX8_leastFor_45 : decode cX8_leastFor 45 = .ok (.iinc 3 1, 3) := by decide +kernel
theorem dX8_leastFor_48 : decode cX8_leastFor 48 = .ok (.goto (-44), 3) := by decide +kernel
theorem dX8_leastFor_51 : decode cX8_leastFor 51 = .ok (.iload_n 2, 1) := by decide +kernel
theorem dX8_leastFor_52 : decode cX8_leastFor 52 = .ok (.ireturn, 1) := by decide +kernel
theorem dX8_stepsOf_0 : decode cX8_stepsOf 0 = .ok (.aload_n 0, 1) := by decide +kernel
theorem dX8_stepsOf_1 : decode cX8_stepsOf 1 = .ok (.iload_n 1, 1) := by decide +kernel
theorem dX8_stepsOf_2 : decode cX8_stepsOf 2 = .ok (.iload_n 2, 1) := by decide +kernel
theorem dX8_stepsOf_3 : decode cX8_stepsOf 3 = .ok (.iconst 1, 1) := by decide +kernel
theorem dX8_stepsOf_4 : decode cX8_stepsOf 4 = .ok (.invokevirtual 159, 3) := by decide +kernel
theorem dX8_stepsOf_7 : decode cX8_stepsOf 7 = .ok (.aload_n 0, 1) := by decide +kernel
theorem dX8_stepsOf_8 : decode cX8_stepsOf 8 = .ok (.iload_n 3, 1) := by decide +kernel
theorem dX8_stepsOf_9 : decode cX8_stepsOf 9 = .ok (.invokevirtual 165, 3) := by decide +kernel
theorem dX8_stepsOf_12 : decode cX8_stepsOf 12 = .ok (.ireturn, 1) := by decide +kernel
theorem dX8_isTask_0 : decode cX8_isTask 0 = .ok (.aload_n 0, 1) := by decide +kernel
theorem dX8_isTask_1 : decode cX8_isTask 1 = .ok (.iload_n 1, 1) := by decide +kernel
theorem dX8_isTask_2 : decode cX8_isTask 2 = .ok (.invokevirtual 106, 3) := by decide +kernel
theorem dX8_isTask_5 : decode cX8_isTask 5 = .ok (.ifCond .eq 22, 3) := by decide +kernel
theorem dX8_isTask_8 : decode cX8_isTask 8 = .ok (.aload_n 0, 1) := by decide +kernel
theorem dX8_isTask_9 : decode cX8_isTask 9 = .ok (.iload_n 2, 1) := by decide +kernel
theorem dX8_isTask_10 : decode cX8_isTask 10 = .ok (.invokevirtual 90, 3) := by decide +kernel
theorem dX8_isTask_13 : decode cX8_isTask 13 = .ok (.ifCond .eq 14, 3) := by decide +kernel
theorem dX8_isTask_16 : decode cX8_isTask 16 = .ok (.iload_n 3, 1) := by decide +kernel
theorem dX8_isTask_17 : decode cX8_isTask 17 = .ok (.invokestatic 70, 3) := by decide +kernel
theorem dX8_isTask_20 : decode cX8_isTask 20 = .ok (.ifCond .eq 7, 3) := by decide +kernel
theorem dX8_isTask_23 : decode cX8_isTask 23 = .ok (.iconst 1, 1) := by decide +kernel
theorem dX8_isTask_24 : decode cX8_isTask 24 = .ok (.goto 4, 3) := by decide +kernel
theorem dX8_isTask_27 : decode cX8_isTask 27 = .ok (.iconst 0, 1) := by decide +kernel
theorem dX8_isTask_28 : decode cX8_isTask 28 = .ok (.ireturn, 1) := by decide +kernel
theorem dX8_task_0 : decode cX8_task 0 = .ok (.aload_n 0, 1) := by decide +kernel
theorem dX8_task_1 : decode cX8_task 1 = .ok (.iload_n 1, 1) := by decide +kernel
theorem dX8_task_2 : decode cX8_task 2 = .ok (.iload_n 2, 1) := by decide +kernel
theorem dX8_task_3 : decode cX8_task 3 = .ok (.iload_n 3, 1) := by decide +kernel
theorem dX8_task_4 : decode cX8_task 4 = .ok (.invokevirtual 168, 3) := by decide +kernel
theorem dX8_task_7 : decode cX8_task 7 = .ok (.ifCond .eq 17, 3) := by decide +kernel
theorem dX8_task_10 : decode cX8_task 10 = .ok (.aload_n 0, 1) := by decide +kernel
theorem dX8_task_11 : decode cX8_task 11 = .ok (.aload_n 0, 1) := by decide +kernel
theorem dX8_task_12 : decode cX8_task 12 = .ok (.iload_n 1, 1) := by decide +kernel
theorem dX8_task_13 : decode cX8_task 13 = .ok (.iload_n 2, 1) := by decide +kernel
theorem dX8_task_14 : decode cX8_task 14 = .ok (.iload_n 3, 1) := by decide +kernel
theorem dX8_task_15 : decode cX8_task 15 = .ok (.invokevirtual 171, 3) := by decide +kernel
theorem dX8_task_18 : decode cX8_task 18 = .ok (.invokevirtual 162, 3) := by decide +kernel
theorem dX8_task_21 : decode cX8_task 21 = .ok (.goto 8, 3) := by decide +kernel
theorem dX8_task_24 : decode cX8_task 24 = .ok (.aload_n 0, 1) := by decide +kernel
theorem dX8_task_25 : decode cX8_task 25 = .ok (.iconst 0, 1) := by decide +kernel
theorem dX8_task_26 : decode cX8_task 26 = .ok (.invokevirtual 74, 3) := by decide +kernel
theorem dX8_task_29 : decode cX8_task 29 = .ok (.ireturn, 1) := by decide +kernel
theorem dX8_begins_0 : decode cX8_begins 0 = .ok (.aload_n 0, 1) := by decide +kernel
theorem dX8_begins_1 : decode cX8_begins 1 = .ok (.iconst (-1), 1) := by decide +kernel
theorem dX8_begins_2 : decode cX8_begins 2 = .ok (.putfield 174, 3) := by decide +kernel
theorem dX8_begins_5 : decode cX8_begins 5 = .ok (.aload_n 0, 1) := by decide +kernel
theorem dX8_begins_6 : decode cX8_begins 6 = .ok (.iconst (-1), 1) := by decide +kernel
theorem dX8_begins_7 : decode cX8_begins 7 = .ok (.putfield 177, 3) := by decide +kernel
theorem dX8_begins_10 : decode cX8_begins 10 = .ok (.return_, 1) := by decide +kernel
theorem dX8_tries_0 : decode cX8_tries 0 = .ok (.iload_n 2, 1) := by decide +kernel
theorem dX8_tries_1 : decode cX8_tries 1 = .ok (.ifCond .lt 28, 3) := by decide +kernel
theorem dX8_tries_4 : decode cX8_tries 4 = .ok (.aload_n 0, 1) := by decide +kernel
theorem dX8_tries_5 : decode cX8_tries 5 = .ok (.getfield 174, 3) := by decide +kernel
theorem dX8_tries_8 : decode cX8_tries 8 = .ok (.ifCond .lt 11, 3) := by decide +kernel
theorem dX8_tries_11 : decode cX8_tries 11 = .ok (.iload_n 2, 1) := by decide +kernel
theorem dX8_tries_12 : decode cX8_tries 12 = .ok (.aload_n 0, 1) := by decide +kernel
theorem dX8_tries_13 : decode cX8_tries 13 = .ok (.getfield 177, 3) := by decide +kernel
theorem dX8_tries_16 : decode cX8_tries 16 = .ok (.if_icmp .ge 13, 3) := by decide +kernel
theorem dX8_tries_19 : decode cX8_tries 19 = .ok (.aload_n 0, 1) := by decide +kernel
theorem dX8_tries_20 : decode cX8_tries 20 = .ok (.iload_n 1, 1) := by decide +kernel
theorem dX8_tries_21 : decode cX8_tries 21 = .ok (.putfield 174, 3) := by decide +kernel
theorem dX8_tries_24 : decode cX8_tries 24 = .ok (.aload_n 0, 1) := by decide +kernel
theorem dX8_tries_25 : decode cX8_tries 25 = .ok (.iload_n 2, 1) := by decide +kernel
theorem dX8_tries_26 : decode cX8_tries 26 = .ok (.putfield 177, 3) := by decide +kernel
theorem dX8_tries_29 : decode cX8_tries 29 = .ok (.return_, 1) := by decide +kernel
theorem dX8_who_0 : decode cX8_who 0 = .ok (.aload_n 0, 1) := by decide +kernel
theorem dX8_who_1 : decode cX8_who 1 = .ok (.iload_n 1, 1) := by decide +kernel
theorem dX8_who_2 : decode cX8_who 2 = .ok (.invokevirtual 90, 3) := by decide +kernel
theorem dX8_who_5 : decode cX8_who 5 = .ok (.ifCond .eq 10, 3) := by decide +kernel
theorem dX8_who_8 : decode cX8_who 8 = .ok (.iload_n 2, 1) := by decide +kernel
theorem dX8_who_9 : decode cX8_who 9 = .ok (.invokestatic 70, 3) := by decide +kernel
theorem dX8_who_12 : decode cX8_who 12 = .ok (.ifCond .ne 9, 3) := by decide +kernel
theorem dX8_who_15 : decode cX8_who 15 = .ok (.aload_n 0, 1) := by decide +kernel
theorem dX8_who_16 : decode cX8_who 16 = .ok (.iconst 0, 1) := by decide +kernel
theorem dX8_who_17 : decode cX8_who 17 = .ok (.invokevirtual 74, 3) := by decide +kernel
theorem dX8_who_20 : decode cX8_who 20 = .ok (.ireturn, 1) := by decide +kernel
theorem dX8_who_21 : decode cX8_who 21 = .ok (.aload_n 0, 1) := by decide +kernel
theorem dX8_who_22 : decode cX8_who 22 = .ok (.invokevirtual 180, 3) := by decide +kernel
theorem dX8_who_25 : decode cX8_who 25 = .ok (.iconst 0, 1) := by decide +kernel
theorem dX8_who_26 : decode cX8_who 26 = .ok (.istore_n 3, 1) := by decide +kernel
theorem dX8_who_27 : decode cX8_who 27 = .ok (.iload_n 3, 1) := by decide +kernel
theorem dX8_who_28 : decode cX8_who 28 = .ok (.aload_n 0, 1) := by decide +kernel
theorem dX8_who_29 : decode cX8_who 29 = .ok (.getfield 9, 3) := by decide +kernel
theorem dX8_who_32 : decode cX8_who 32 = .ok (.bipush 12, 2) := by decide +kernel
theorem dX8_who_34 : decode cX8_who 34 = .ok (.iaload, 1) := by decide +kernel
theorem dX8_who_35 : decode cX8_who 35 = .ok (.if_icmp .ge 21, 3) := by decide +kernel
theorem dX8_who_38 : decode cX8_who 38 = .ok (.aload_n 0, 1) := by decide +kernel
theorem dX8_who_39 : decode cX8_who 39 = .ok (.iload_n 3, 1) := by decide +kernel
theorem dX8_who_40 : decode cX8_who 40 = .ok (.aload_n 0, 1) := by decide +kernel
theorem dX8_who_41 : decode cX8_who 41 = .ok (.iload_n 3, 1) := by decide +kernel
theorem dX8_who_42 : decode cX8_who 42 = .ok (.iload_n 1, 1) := by decide +kernel
theorem dX8_who_43 : decode cX8_who 43 = .ok (.iload_n 2, 1) := by decide +kernel
theorem dX8_who_44 : decode cX8_who 44 = .ok (.invokevirtual 171, 3) := by decide +kernel
theorem dX8_who_47 : decode cX8_who 47 = .ok (.invokevirtual 183, 3) := by decide +kernel
theorem dX8_who_50 : decode cX8_who 50 = .ok (.iinc 3 1, 3) := by decide +kernel
theorem dX8_who_53 : decode cX8_who 53 = .ok (.goto (-26), 3) := by decide +kernel
theorem dX8_who_56 : decode cX8_who 56 = .ok (.aload_n 0, 1) := by decide +kernel
theorem dX8_who_57 : decode cX8_who 57 = .ok (.aload_n 0, 1) := by decide +kernel
theorem dX8_who_58 : decode cX8_who 58 = .ok (.getfield 174, 3) := by decide +kernel
theorem dX8_who_61 : decode cX8_who 61 = .ok (.invokevirtual 162, 3) := by decide +kernel
theorem dX8_who_64 : decode cX8_who 64 = .ok (.ireturn, 1) := by decide +kernel
theorem dX8_roomsFor_0 : decode cX8_roomsFor 0 = .ok (.aload_n 0, 1) := by decide +kernel
theorem dX8_roomsFor_1 : decode cX8_roomsFor 1 = .ok (.iload_n 1, 1) := by decide +kernel
theorem dX8_roomsFor_2 : decode cX8_roomsFor 2 = .ok (.iload_n 2, 1) := by decide +kernel
theorem dX8_roomsFor_3 : decode cX8_roomsFor 3 = .ok (.iload_n 3, 1) := by decide +kernel
theorem dX8_roomsFor_4 : decode cX8_roomsFor 4 = .ok (.invokevirtual 159, 3) := by decide +kernel
theorem dX8_roomsFor_7 : decode cX8_roomsFor 7 = .ok (.iconst 0, 1) := by decide +kernel
theorem dX8_roomsFor_8 : decode cX8_roomsFor 8 = .ok (.istore 4, 2) := by decide +kernel
theorem dX8_roomsFor_10 : decode cX8_roomsFor 10 = .ok (.iconst 0, 1) := by decide +kernel
theorem dX8_roomsFor_11 : decode cX8_roomsFor 11 = .ok (.istore 5, 2) := by decide +kernel
theorem dX8_roomsFor_13 : decode cX8_roomsFor 13 = .ok (.iload 5, 2) := by decide +kernel
theorem dX8_roomsFor_15 : decode cX8_roomsFor 15 = .ok (.bipush 8, 2) := by decide +kernel
theorem dX8_roomsFor_17 : decode cX8_roomsFor 17 = .ok (.if_icmp .ge 31, 3) := by decide +kernel
theorem dX8_roomsFor_20 : decode cX8_roomsFor 20 = .ok (.iload 4, 2) := by decide +kernel
theorem dX8_roomsFor_22 : decode cX8_roomsFor 22 = .ok (.aload_n 0, 1) := by decide +kernel
theorem dX8_roomsFor_23 : decode cX8_roomsFor 23 = .ok (.iload 5, 2) := by decide +kernel
theorem dX8_roomsFor_25 : decode cX8_roomsFor 25 = .ok (.invokevirtual 165, 3) := by decide +kernel
theorem dX8_roomsFor_28 : decode cX8_roomsFor 28 = .ok (.ifCond .ge 7, 3) := by decide +kernel
theorem dX8_roomsFor_31 : decode cX8_roomsFor 31 = .ok (.iconst 0, 1) := by decide +kernel
theorem dX8_roomsFor_32 : decode cX8_roomsFor 32 = .ok (.goto 7, 3) := by decide +kernel
theorem dX8_roomsFor_35 : decode cX8_roomsFor 35 = .ok (.iconst 1, 1) := by decide +kernel
theorem dX8_roomsFor_36 : decode cX8_roomsFor 36 = .ok (.iload 5, 2) := by decide +kernel
theorem dX8_roomsFor_38 : decode cX8_roomsFor 38 = .ok (.ishl, 1) := by decide +kernel
theorem dX8_roomsFor_39 : decode cX8_roomsFor 39 = .ok (.ior, 1) := by decide +kernel
theorem dX8_roomsFor_40 : decode cX8_roomsFor 40 = .ok (.istore 4, 2) := by decide +kernel
theorem dX8_roomsFor_42 : decode cX8_roomsFor 42 = .ok (.iinc 5 1, 3) := by decide +kernel
theorem dX8_roomsFor_45 : decode cX8_roomsFor 45 = .ok (.goto (-32), 3) := by decide +kernel
theorem dX8_roomsFor_48 : decode cX8_roomsFor 48 = .ok (.iload 4, 2) := by decide +kernel
theorem dX8_roomsFor_50 : decode cX8_roomsFor 50 = .ok (.ireturn, 1) := by decide +kernel
theorem dX8_can_0 : decode cX8_can 0 = .ok (.aload_n 0, 1) := by decide +kernel
theorem dX8_can_1 : decode cX8_can 1 = .ok (.iload_n 1, 1) := by decide +kernel
theorem dX8_can_2 : decode cX8_can 2 = .ok (.invokevirtual 106, 3) := by decide +kernel
theorem dX8_can_5 : decode cX8_can 5 = .ok (.ifCond .eq 21, 3) := by decide +kernel
theorem dX8_can_8 : decode cX8_can 8 = .ok (.aload_n 0, 1) := by decide +kernel
theorem dX8_can_9 : decode cX8_can 9 = .ok (.iload_n 2, 1) := by decide +kernel
theorem dX8_can_10 : decode cX8_can 10 = .ok (.invokevirtual 90, 3) := by decide +kernel
theorem dX8_can_13 : decode cX8_can 13 = .ok (.ifCond .eq 13, 3) := by decide +kernel
theorem dX8_can_16 : decode cX8_can 16 = .ok (.aload_n 0, 1) := by decide +kernel
theorem dX8_can_17 : decode cX8_can 17 = .ok (.iload_n 1, 1) := by decide +kernel
theorem dX8_can_18 : decode cX8_can 18 = .ok (.iload_n 2, 1) := by decide +kernel
theorem dX8_can_19 : decode cX8_can 19 = .ok (.iconst 1, 1) := by decide +kernel
theorem dX8_can_20 : decode cX8_can 20 = .ok (.invokevirtual 186, 3) := by decide +kernel
theorem dX8_can_23 : decode cX8_can 23 = .ok (.goto 8, 3) := by decide +kernel
theorem dX8_can_26 : decode cX8_can 26 = .ok (.aload_n 0, 1) := by decide +kernel
theorem dX8_can_27 : decode cX8_can 27 = .ok (.iconst 0, 1) := by decide +kernel
theorem dX8_can_28 : decode cX8_can 28 = .ok (.invokevirtual 74, 3) := by decide +kernel
theorem dX8_can_31 : decode cX8_can 31 = .ok (.ireturn, 1) := by decide +kernel
theorem dX8_above__0 : decode cX8_above_ 0 = .ok (.aload_n 0, 1) := by decide +kernel
theorem dX8_above__1 : decode cX8_above_ 1 = .ok (.iload_n 1, 1) := by decide +kernel
theorem dX8_above__2 : decode cX8_above_ 2 = .ok (.invokevirtual 106, 3) := by decide +kernel
theorem dX8_above__5 : decode cX8_above_ 5 = .ok (.ifCond .eq 31, 3) := by decide +kernel
theorem dX8_above__8 : decode cX8_above_ 8 = .ok (.aload_n 0, 1) := by decide +kernel
theorem dX8_above__9 : decode cX8_above_ 9 = .ok (.iload_n 2, 1) := by decide +kernel
theorem dX8_above__10 : decode cX8_above_ 10 = .ok (.invokevirtual 90, 3) := by decide +kernel
theorem dX8_above__13 : decode cX8_above_ 13 = .ok (.ifCond .eq 23, 3) := by decide +kernel
theorem dX8_above__16 : decode cX8_above_ 16 = .ok (.aload_n 0, 1) := by decide +kernel
theorem dX8_above__17 : decode cX8_above_ 17 = .ok (.iload_n 1, 1) := by decide +kernel
theorem dX8_above__18 : decode cX8_above_ 18 = .ok (.iload_n 2, 1) := by decide +kernel
theorem dX8_above__19 : decode cX8_above_ 19 = .ok (.iconst 1, 1) := by decide +kernel
theorem dX8_above__20 : decode cX8_above_ 20 = .ok (.invokevirtual 186, 3) := by decide +kernel
theorem dX8_above__23 : decode cX8_above_ 23 = .ok (.aload_n 0, 1) := by decide +kernel
theorem dX8_above__24 : decode cX8_above_ 24 = .ok (.iload_n 1, 1) := by decide +kernel
theorem dX8_above__25 : decode cX8_above_ 25 = .ok (.iload_n 2, 1) := by decide +kernel
theorem dX8_above__26 : decode cX8_above_ 26 = .ok (.iconst 0, 1) := by decide +kernel
theorem dX8_above__27 : decode cX8_above_ 27 = .ok (.invokevirtual 186, 3) := by decide +kernel
theorem dX8_above__30 : decode cX8_above_ 30 = .ok (.iconst (-1), 1) := by decide +kernel
theorem dX8_above__31 : decode cX8_above_ 31 = .ok (.ixor, 1) := by decide +kernel
theorem dX8_above__32 : decode cX8_above_ 32 = .ok (.iand, 1) := by decide +kernel
theorem dX8_above__33 : decode cX8_above_ 33 = .ok (.goto 8, 3) := by decide +kernel
theorem dX8_above__36 : decode cX8_above_ 36 = .ok (.aload_n 0, 1) := by decide +kernel
theorem dX8_above__37 : decode cX8_above_ 37 = .ok (.iconst 0, 1) := by decide +kernel
theorem dX8_above__38 : decode cX8_above_ 38 = .ok (.invokevirtual 74, 3) := by decide +kernel
theorem dX8_above__41 : decode cX8_above_ 41 = .ok (.ireturn, 1) := by decide +kernel
theorem dX8_strong_0 : decode cX8_strong 0 = .ok (.aload_n 0, 1) := by decide +kernel
theorem dX8_strong_1 : decode cX8_strong 1 = .ok (.iload_n 1, 1) := by decide +kernel
theorem dX8_strong_2 : decode cX8_strong 2 = .ok (.iload_n 2, 1) := by decide +kernel
theorem dX8_strong_3 : decode cX8_strong 3 = .ok (.iload_n 3, 1) := by decide +kernel
theorem dX8_strong_4 : decode cX8_strong 4 = .ok (.invokevirtual 168, 3) := by decide +kernel
theorem dX8_strong_7 : decode cX8_strong 7 = .ok (.ifCond .ne 9, 3) := by decide +kernel
theorem dX8_strong_10 : decode cX8_strong 10 = .ok (.aload_n 0, 1) := by decide +kernel
theorem dX8_strong_11 : decode cX8_strong 11 = .ok (.iconst 0, 1) := by decide +kernel
theorem dX8_strong_12 : decode cX8_strong 12 = .ok (.invokevirtual 74, 3) := by decide +kernel
theorem dX8_strong_15 : decode cX8_strong 15 = .ok (.ireturn, 1) := by decide +kernel
theorem dX8_strong_16 : decode cX8_strong 16 = .ok (.aload_n 0, 1) := by decide +kernel
theorem dX8_strong_17 : decode cX8_strong 17 = .ok (.getfield 9, 3) := by decide +kernel
theorem dX8_strong_20 : decode cX8_strong 20 = .ok (.bipush 56, 2) := by decide +kernel
theorem dX8_strong_22 : decode cX8_strong 22 = .ok (.iload_n 1, 1) := by decide +kernel
theorem dX8_strong_23 : decode cX8_strong 23 = .ok (.iadd, 1) := by decide +kernel
theorem dX8_strong_24 : decode cX8_strong 24 = .ok (.iaload, 1) := by decide +kernel
theorem dX8_strong_25 : decode cX8_strong 25 = .ok (.istore 4, 2) := by decide +kernel
theorem dX8_strong_27 : decode cX8_strong 27 = .ok (.iconst 0, 1) := by decide +kernel
theorem dX8_strong_28 : decode cX8_strong 28 = .ok (.istore 5, 2) := by decide +kernel
theorem dX8_strong_30 : decode cX8_strong 30 = .ok (.aload_n 0, 1) := by decide +kernel
theorem dX8_strong_31 : decode cX8_strong 31 = .ok (.getfield 9, 3) := by decide +kernel
theorem dX8_strong_34 : decode cX8_strong 34 = .ok (.bipush 56, 2) := by decide +kernel
theorem dX8_strong_36 : decode cX8_strong 36 = .ok (.iload_n 1, 1) := by decide +kernel
theorem dX8_strong_37 : decode cX8_strong 37 = .ok (.iadd, 1) := by decide +kernel
theorem dX8_strong_38 : decode cX8_strong 38 = .ok (.iload 5, 2) := by decide +kernel
theorem dX8_strong_40 : decode cX8_strong 40 = .ok (.iastore, 1) := by decide +kernel
theorem dX8_strong_41 : decode cX8_strong 41 = .ok (.iload 5, 2) := by decide +kernel
theorem dX8_strong_43 : decode cX8_strong 43 = .ok (.bipush 60, 2) := by decide +kernel
theorem dX8_strong_45 : decode cX8_strong 45 = .ok (.if_icmp .gt 30, 3) := by decide +kernel
theorem dX8_strong_48 : decode cX8_strong 48 = .ok (.aload_n 0, 1) := by decide +kernel
theorem dX8_strong_49 : decode cX8_strong 49 = .ok (.iload_n 1, 1) := by decide +kernel
theorem dX8_strong_50 : decode cX8_strong 50 = .ok (.iload_n 2, 1) := by decide +kernel
theorem dX8_strong_51 : decode cX8_strong 51 = .ok (.iload_n 3, 1) := by decide +kernel
theorem dX8_strong_52 : decode cX8_strong 52 = .ok (.invokevirtual 171, 3) := by decide +kernel
theorem dX8_strong_55 : decode cX8_strong 55 = .ok (.ifCond .ge 20, 3) := by decide +kernel
theorem dX8_strong_58 : decode cX8_strong 58 = .ok (.iinc 5 1, 3) := by decide +kernel
theorem dX8_strong_61 : decode cX8_strong 61 = .ok (.aload_n 0, 1) := by decide +kernel
theorem dX8_strong_62 : decode cX8_strong 62 = .ok (.getfield 9, 3) := by decide +kernel
theorem dX8_strong_65 : decode cX8_strong 65 = .ok (.bipush 56, 2) := by decide +kernel
theorem dX8_strong_67 : decode cX8_strong 67 = .ok (.iload_n 1, 1) := by decide +kernel
theorem dX8_strong_68 : decode cX8_strong 68 = .ok (.iadd, 1) := by decide +kernel
theorem dX8_strong_69 : decode cX8_strong 69 = .ok (.iload 5, 2) := by decide +kernel
theorem dX8_strong_71 : decode cX8_strong 71 = .ok (.iastore, 1) := by decide +kernel
theorem dX8_strong_72 : decode cX8_strong 72 = .ok (.goto (-31), 3) := by decide +kernel
theorem dX8_strong_75 : decode cX8_strong 75 = .ok (.aload_n 0, 1) := by decide +kernel
theorem dX8_strong_76 : decode cX8_strong 76 = .ok (.getfield 9, 3) := by decide +kernel
theorem dX8_strong_79 : decode cX8_strong 79 = .ok (.bipush 56, 2) := by decide +kernel
theorem dX8_strong_81 : decode cX8_strong 81 = .ok (.iload_n 1, 1) := by decide +kernel
theorem dX8_strong_82 : decode cX8_strong 82 = .ok (.iadd, 1) := by decide +kernel
theorem dX8_strong_83 : decode cX8_strong 83 = .ok (.iload 4, 2) := by decide +kernel
theorem dX8_strong_85 : decode cX8_strong 85 = .ok (.iastore, 1) := by decide +kernel
theorem dX8_strong_86 : decode cX8_strong 86 = .ok (.iload 5, 2) := by decide +kernel
theorem dX8_strong_88 : decode cX8_strong 88 = .ok (.bipush 60, 2) := by decide +kernel
theorem dX8_strong_90 : decode cX8_strong 90 = .ok (.if_icmp .gt 8, 3) := by decide +kernel
theorem dX8_strong_93 : decode cX8_strong 93 = .ok (.iload 5, 2) := by decide +kernel
theorem dX8_strong_95 : decode cX8_strong 95 = .ok (.goto 8, 3) := by decide +kernel
theorem dX8_strong_98 : decode cX8_strong 98 = .ok (.aload_n 0, 1) := by decide +kernel
theorem dX8_strong_99 : decode cX8_strong 99 = .ok (.iconst 3, 1) := by decide +kernel
theorem dX8_strong_100 : decode cX8_strong 100 = .ok (.invokevirtual 74, 3) := by decide +kernel
theorem dX8_strong_103 : decode cX8_strong 103 = .ok (.ireturn, 1) := by decide +kernel
theorem dX8_kindFor_0 : decode cX8_kindFor 0 = .ok (.aload_n 0, 1) := by decide +kernel
theorem dX8_kindFor_1 : decode cX8_kindFor 1 = .ok (.iload_n 1, 1) := by decide +kernel
theorem dX8_kindFor_2 : decode cX8_kindFor 2 = .ok (.iload_n 2, 1) := by decide +kernel
theorem dX8_kindFor_3 : decode cX8_kindFor 3 = .ok (.iload_n 3, 1) := by decide +kernel
theorem dX8_kindFor_4 : decode cX8_kindFor 4 = .ok (.invokevirtual 168, 3) := by decide +kernel
theorem dX8_kindFor_7 : decode cX8_kindFor 7 = .ok (.ifCond .ne 9, 3) := by decide +kernel
theorem dX8_kindFor_10 : decode cX8_kindFor 10 = .ok (.aload_n 0, 1) := by decide +kernel
theorem dX8_kindFor_11 : decode cX8_kindFor 11 = .ok (.iconst 0, 1) := by decide +kernel
theorem dX8_kindFor_12 : decode cX8_kindFor 12 = .ok (.invokevirtual 74, 3) := by decide +kernel
theorem dX8_kindFor_15 : decode cX8_kindFor 15 = .ok (.ireturn, 1) := by decide +kernel
theorem dX8_kindFor_16 : decode cX8_kindFor 16 = .ok (.aload_n 0, 1) := by decide +kernel
theorem dX8_kindFor_17 : decode cX8_kindFor 17 = .ok (.getfield 9, 3) := by decide +kernel
theorem dX8_kindFor_20 : decode cX8_kindFor 20 = .ok (.bipush 28, 2) := by decide +kernel
theorem dX8_kindFor_22 : decode cX8_kindFor 22 = .ok (.iload_n 2, 1) := by decide +kernel
theorem dX8_kindFor_23 : decode cX8_kindFor 23 = .ok (.iadd, 1) := by decide +kernel
theorem dX8_kindFor_24 : decode cX8_kindFor 24 = .ok (.iaload, 1) := by decide +kernel
theorem dX8_kindFor_25 : decode cX8_kindFor 25 = .ok (.istore 4, 2) := by decide +kernel
theorem dX8_kindFor_27 : decode cX8_kindFor 27 = .ok (.aload_n 0, 1) := by decide +kernel
theorem dX8_kindFor_28 : decode cX8_kindFor 28 = .ok (.invokevirtual 180, 3) := by decide +kernel
theorem dX8_kindFor_31 : decode cX8_kindFor 31 = .ok (.iconst 0, 1) := by decide +kernel
theorem dX8_kindFor_32 : decode cX8_kindFor 32 = .ok (.istore 5, 2) := by decide +kernel
theorem dX8_kindFor_34 : decode cX8_kindFor 34 = .ok (.iload 5, 2) := by decide +kernel
theorem dX8_kindFor_36 : decode cX8_kindFor 36 = .ok (.bipush 7, 2) := by decide +kernel
theorem dX8_kindFor_38 : decode cX8_kindFor 38 = .ok (.if_icmp .ge 33, 3) := by decide +kernel
theorem dX8_kindFor_41 : decode cX8_kindFor 41 = .ok (.aload_n 0, 1) := by decide +kernel
theorem dX8_kindFor_42 : decode cX8_kindFor 42 = .ok (.getfield 9, 3) := by decide +kernel
theorem dX8_kindFor_45 : decode cX8_kindFor 45 = .ok (.bipush 28, 2) := by decide +kernel
theorem dX8_kindFor_47 : decode cX8_kindFor 47 = .ok (.iload_n 2, 1) := by decide +kernel
theorem dX8_kindFor_48 : decode cX8_kindFor 48 = .ok (.iadd, 1) := by decide +kernel
theorem dX8_kindFor_49 : decode cX8_kindFor 49 = .ok (.iload 5, 2) := by decide +kernel
theorem dX8_kindFor_51 : decode cX8_kindFor 51 = .ok (.iastore, 1) := by decide +kernel
theorem dX8_kindFor_52 : decode cX8_kindFor 52 = .ok (.aload_n 0, 1) := by decide +kernel
theorem dX8_kindFor_53 : decode cX8_kindFor 53 = .ok (.iload 5, 2) := by decide +kernel
theorem dX8_kindFor_55 : decode cX8_kindFor 55 = .ok (.aload_n 0, 1) := by decide +kernel
theorem dX8_kindFor_56 : decode cX8_kindFor 56 = .ok (.iload_n 1, 1) := by decide +kernel
theorem dX8_kindFor_57 : decode cX8_kindFor 57 = .ok (.iload_n 2, 1) := by decide +kernel
theorem dX8_kindFor_58 : decode cX8_kindFor 58 = .ok (.iload_n 3, 1) := by decide +kernel
theorem dX8_kindFor_59 : decode cX8_kindFor 59 = .ok (.invokevirtual 171, 3) := by decide +kernel
theorem dX8_kindFor_62 : decode cX8_kindFor 62 = .ok (.invokevirtual 183, 3) := by decide +kernel
theorem dX8_kindFor_65 : decode cX8_kindFor 65 = .ok (.iinc 5 1, 3) := by decide +kernel
theorem dX8_kindFor_68 : decode cX8_kindFor 68 = .ok (.goto (-34), 3) := by decide +kernel
theorem dX8_kindFor_71 : decode cX8_kindFor 71 = .ok (.aload_n 0, 1) := by decide +kernel
theorem dX8_kindFor_72 : decode cX8_kindFor 72 = .ok (.getfield 9, 3) := by decide +kernel
theorem dX8_kindFor_75 : decode cX8_kindFor 75 = .ok (.bipush 28, 2) := by decide +kernel
theorem dX8_kindFor_77 : decode cX8_kindFor 77 = .ok (.iload_n 2, 1) := by decide +kernel
theorem dX8_kindFor_78 : decode cX8_kindFor 78 = .ok (.iadd, 1) := by decide +kernel
theorem dX8_kindFor_79 : decode cX8_kindFor 79 = .ok (.iload 4, 2) := by decide +kernel
theorem dX8_kindFor_81 : decode cX8_kindFor 81 = .ok (.iastore, 1) := by decide +kernel
theorem dX8_kindFor_82 : decode cX8_kindFor 82 = .ok (.aload_n 0, 1) := by decide +kernel
theorem dX8_kindFor_83 : decode cX8_kindFor 83 = .ok (.aload_n 0, 1) := by decide +kernel
theorem dX8_kindFor_84 : decode cX8_kindFor 84 = .ok (.getfield 174, 3) := by decide +kernel
theorem dX8_kindFor_87 : decode cX8_kindFor 87 = .ok (.invokevirtual 162, 3) := by decide +kernel
theorem dX8_kindFor_90 : decode cX8_kindFor 90 = .ok (.ireturn, 1) := by decide +kernel
theorem dX8_place_0 : decode cX8_place 0 = .ok (.aload_n 0, 1) := by decide +kernel
theorem dX8_place_1 : decode cX8_place 1 = .ok (.iload_n 1, 1) := by decide +kernel
theorem dX8_place_2 : decode cX8_place 2 = .ok (.iload_n 2, 1) := by decide +kernel
theorem dX8_place_3 : decode cX8_place 3 = .ok (.iload_n 3, 1) := by decide +kernel
theorem dX8_place_4 : decode cX8_place 4 = .ok (.invokevirtual 168, 3) := by decide +kernel
theorem dX8_place_7 : decode cX8_place 7 = .ok (.ifCond .ne 9, 3) := by decide +kernel
theorem dX8_place_10 : decode cX8_place 10 = .ok (.aload_n 0, 1) := by decide +kernel
theorem dX8_place_11 : decode cX8_place 11 = .ok (.iconst 0, 1) := by decide +kernel
theorem dX8_place_12 : decode cX8_place 12 = .ok (.invokevirtual 74, 3) := by decide +kernel
theorem dX8_place_15 : decode cX8_place 15 = .ok (.ireturn, 1) := by decide +kernel
theorem dX8_place_16 : decode cX8_place 16 = .ok (.aload_n 0, 1) := by decide +kernel
theorem dX8_place_17 : decode cX8_place 17 = .ok (.getfield 9, 3) := by decide +kernel
theorem dX8_place_20 : decode cX8_place 20 = .ok (.bipush 8, 2) := by decide +kernel
theorem dX8_place_22 : decode cX8_place 22 = .ok (.iaload, 1) := by decide +kernel
theorem dX8_place_23 : decode cX8_place 23 = .ok (.istore 4, 2) := by decide +kernel
theorem dX8_place_25 : decode cX8_place 25 = .ok (.aload_n 0, 1) := by decide +kernel
theorem dX8_place_26 : decode cX8_place 26 = .ok (.invokevirtual 180, 3) := by decide +kernel
theorem dX8_place_29 : decode cX8_place 29 = .ok (.iconst 0, 1) := by decide +kernel
theorem dX8_place_30 : decode cX8_place 30 = .ok (.istore 5, 2) := by decide +kernel
theorem dX8_place_32 : decode cX8_place 32 = .ok (.iload 5, 2) := by decide +kernel
theorem dX8_place_34 : decode cX8_place 34 = .ok (.bipush 8, 2) := by decide +kernel
theorem dX8_place_36 : decode cX8_place 36 = .ok (.if_icmp .ge 31, 3) := by decide +kernel
theorem dX8_place_39 : decode cX8_place 39 = .ok (.aload_n 0, 1) := by decide +kernel
theorem dX8_place_40 : decode cX8_place 40 = .ok (.getfield 9, 3) := by decide +kernel
theorem dX8_place_43 : decode cX8_place 43 = .ok (.bipush 8, 2) := by decide +kernel
theorem dX8_place_45 : decode cX8_place 45 = .ok (.iload 5, 2) := by decide +kernel
theorem dX8_place_47 : decode cX8_place 47 = .ok (.iastore, 1) := by decide +kernel
theorem dX8_place_48 : decode cX8_place 48 = .ok (.aload_n 0, 1) := by decide +kernel
theorem dX8_place_49 : decode cX8_place 49 = .ok (.iload 5, 2) := by decide +kernel
theorem dX8_place_51 : decode cX8_place 51 = .ok (.aload_n 0, 1) := by decide +kernel
theorem dX8_place_52 : decode cX8_place 52 = .ok (.iload_n 1, 1) := by decide +kernel
theorem dX8_place_53 : decode cX8_place 53 = .ok (.iload_n 2, 1) := by decide +kernel
theorem dX8_place_54 : decode cX8_place 54 = .ok (.iload_n 3, 1) := by decide +kernel
theorem dX8_place_55 : decode cX8_place 55 = .ok (.invokevirtual 171, 3) := by decide +kernel
theorem dX8_place_58 : decode cX8_place 58 = .ok (.invokevirtual 183, 3) := by decide +kernel
theorem dX8_place_61 : decode cX8_place 61 = .ok (.iinc 5 1, 3) := by decide +kernel
theorem dX8_place_64 : decode cX8_place 64 = .ok (.goto (-32), 3) := by decide +kernel
theorem dX8_place_67 : decode cX8_place 67 = .ok (.aload_n 0, 1) := by decide +kernel
theorem dX8_place_68 : decode cX8_place 68 = .ok (.getfield 9, 3) := by decide +kernel
theorem dX8_place_71 : decode cX8_place 71 = .ok (.bipush 8, 2) := by decide +kernel
theorem dX8_place_73 : decode cX8_place 73 = .ok (.iload 4, 2) := by decide +kernel
theorem dX8_place_75 : decode cX8_place 75 = .ok (.iastore, 1) := by decide +kernel
theorem dX8_place_76 : decode cX8_place 76 = .ok (.aload_n 0, 1) := by decide +kernel
theorem dX8_place_77 : decode cX8_place 77 = .ok (.aload_n 0, 1) := by decide +kernel
theorem dX8_place_78 : decode cX8_place 78 = .ok (.getfield 174, 3) := by decide +kernel
theorem dX8_place_81 : decode cX8_place 81 = .ok (.invokevirtual 162, 3) := by decide +kernel
theorem dX8_place_84 : decode cX8_place 84 = .ok (.ireturn, 1) := by decide +kernel
theorem dX8_isSafe_0 : decode cX8_isSafe 0 = .ok (.iconst 0, 1) := by decide +kernel
theorem dX8_isSafe_1 : decode cX8_isSafe 1 = .ok (.istore_n 2, 1) := by decide +kernel
theorem dX8_isSafe_2 : decode cX8_isSafe 2 = .ok (.iload_n 2, 1) := by decide +kernel
theorem dX8_isSafe_3 : decode cX8_isSafe 3 = .ok (.aload_n 0, 1) := by decide +kernel
theorem dX8_isSafe_4 : decode cX8_isSafe 4 = .ok (.getfield 9, 3) := by decide +kernel
theorem dX8_isSafe_7 : decode cX8_isSafe 7 = .ok (.bipush 12, 2) := by decide +kernel
theorem dX8_isSafe_9 : decode cX8_isSafe 9 = .ok (.iaload, 1) := by decide +kernel
theorem dX8_isSafe_10 : decode cX8_isSafe 10 = .ok (.if_icmp .ge 50, 3) := by decide +kernel
theorem dX8_isSafe_13 : decode cX8_isSafe 13 = .ok (.iconst 0, 1) := by decide +kernel
theorem dX8_isSafe_14 : decode cX8_isSafe 14 = .ok (.istore_n 3, 1) := by decide +kernel
theorem dX8_isSafe_15 : decode cX8_isSafe 15 = .ok (.iload_n 3, 1) := by decide +kernel
theorem dX8_isSafe_16 : decode cX8_isSafe 16 = .ok (.aload_n 0, 1) := by decide +kernel
theorem dX8_isSafe_17 : decode cX8_isSafe 17 = .ok (.getfield 9, 3) := by decide +kernel
theorem dX8_isSafe_20 : decode cX8_isSafe 20 = .ok (.bipush 11, 2) := by decide +kernel
theorem dX8_isSafe_22 : decode cX8_isSafe 22 = .ok (.iaload, 1) := by decide +kernel
theorem dX8_isSafe_23 : decode cX8_isSafe 23 = .ok (.if_icmp .ge 31, 3) := by decide +kernel
theorem dX8_isSafe_26 : decode cX8_isSafe 26 = .ok (.aload_n 0, 1) := by decide +kernel
theorem dX8_isSafe_27 : decode cX8_isSafe 27 = .ok (.iload_n 2, 1) := by decide +kernel
theorem dX8_isSafe_28 : decode cX8_isSafe 28 = .ok (.iload_n 3, 1) := by decide +kernel
theorem dX8_isSafe_29 : decode cX8_isSafe 29 = .ok (.iload_n 1, 1) := by decide +kernel
theorem dX8_isSafe_30 : decode cX8_isSafe 30 = .ok (.invokevirtual 129, 3) := by decide +kernel
theorem dX8_isSafe_33 : decode cX8_isSafe 33 = .ok (.ifCond .ne 13, 3) := by decide +kernel
theorem dX8_isSafe_36 : decode cX8_isSafe 36 = .ok (.aload_n 0, 1) := by decide +kernel
theorem dX8_isSafe_37 : decode cX8_isSafe 37 = .ok (.iload_n 2, 1) := by decide +kernel
theorem dX8_isSafe_38 : decode cX8_isSafe 38 = .ok (.iload_n 3, 1) := by decide +kernel
theorem dX8_isSafe_39 : decode cX8_isSafe 39 = .ok (.iload_n 1, 1) := by decide +kernel
theorem dX8_isSafe_40 : decode cX8_isSafe 40 = .ok (.invokevirtual 140, 3) := by decide +kernel
theorem dX8_isSafe_43 : decode cX8_isSafe 43 = .ok (.ifCond .eq 5, 3) := by decide +kernel
theorem dX8_isSafe_46 : decode cX8_isSafe 46 = .ok (.iconst 0, 1) := by decide +kernel
theorem dX8_isSafe_47 : decode cX8_isSafe 47 = .ok (.ireturn, 1) := by decide +kernel
theorem dX8_isSafe_48 : decode cX8_isSafe 48 = .ok (.iinc 3 1, 3) := by decide +kernel
theorem dX8_isSafe_51 : decode cX8_isSafe 51 = .ok (.goto (-36), 3) := by decide +kernel
theorem dX8_isSafe_54 : decode cX8_isSafe 54 = .ok (.iinc 2 1, 3) := by decide +kernel
theorem dX8_isSafe_57 : decode cX8_isSafe 57 = .ok (.goto (-55), 3) := by decide +kernel
theorem dX8_isSafe_60 : decode cX8_isSafe 60 = .ok (.iconst 1, 1) := by decide +kernel
theorem dX8_isSafe_61 : decode cX8_isSafe 61 = .ok (.ireturn, 1) := by decide +kernel
theorem dX8_safe_0 : decode cX8_safe 0 = .ok (.iconst 0, 1) := by decide +kernel
theorem dX8_safe_1 : decode cX8_safe 1 = .ok (.istore_n 1, 1) := by decide +kernel
theorem dX8_safe_2 : decode cX8_safe 2 = .ok (.iconst 0, 1) := by decide +kernel
theorem dX8_safe_3 : decode cX8_safe 3 = .ok (.istore_n 2, 1) := by decide +kernel
theorem dX8_safe_4 : decode cX8_safe 4 = .ok (.iload_n 2, 1) := by decide +kernel
theorem dX8_safe_5 : decode cX8_safe 5 = .ok (.bipush 8, 2) := by decide +kernel
theorem dX8_safe_7 : decode cX8_safe 7 = .ok (.if_icmp .ge 27, 3) := by decide +kernel
theorem dX8_safe_10 : decode cX8_safe 10 = .ok (.iload_n 1, 1) := by decide +kernel
theorem dX8_safe_11 : decode cX8_safe 11 = .ok (.aload_n 0, 1) := by decide +kernel
theorem dX8_safe_12 : decode cX8_safe 12 = .ok (.iload_n 2, 1) := by decide +kernel
theorem dX8_safe_13 : decode cX8_safe 13 = .ok (.invokevirtual 190, 3) := by decide +kernel
theorem dX8_safe_16 : decode cX8_safe 16 = .ok (.ifCond .eq 9, 3) := by decide +kernel
theorem dX8_safe_19 : decode cX8_safe 19 = .ok (.iconst 1, 1) := by decide +kernel
theorem dX8_safe_20 : decode cX8_safe 20 = .ok (.iload_n 2, 1) := by decide +kernel
theorem dX8_safe_21 : decode cX8_safe 21 = .ok (.ishl, 1) := by decide +kernel
theorem dX8_safe_22 : decode cX8_safe 22 = .ok (.goto 4, 3) := by decide +kernel
theorem dX8_safe_25 : decode cX8_safe 25 = .ok (.iconst 0, 1) := by decide +kernel
theorem dX8_safe_26 : decode cX8_safe 26 = .ok (.ior, 1) := by decide +kernel
theorem dX8_safe_27 : decode cX8_safe 27 = .ok (.istore_n 1, 1) := by decide +kernel
theorem dX8_safe_28 : decode cX8_safe 28 = .ok (.iinc 2 1, 3) := by decide +kernel
theorem dX8_safe_31 : decode cX8_safe 31 = .ok (.goto (-27), 3) := by decide +kernel
theorem dX8_safe_34 : decode cX8_safe 34 = .ok (.iload_n 1, 1) := by decide +kernel
theorem dX8_safe_35 : decode cX8_safe 35 = .ok (.ireturn, 1) := by decide +kernel
theorem dX8_selves_0 : decode cX8_selves 0 = .ok (.iconst 0, 1) := by decide +kernel
theorem dX8_selves_1 : decode cX8_selves 1 = .ok (.istore_n 1, 1) := by decide +kernel
theorem dX8_selves_2 : decode cX8_selves 2 = .ok (.iconst 0, 1) := by decide +kernel
theorem dX8_selves_3 : decode cX8_selves 3 = .ok (.istore_n 2, 1) := by decide +kernel
theorem dX8_selves_4 : decode cX8_selves 4 = .ok (.iload_n 2, 1) := by decide +kernel
theorem dX8_selves_5 : decode cX8_selves 5 = .ok (.aload_n 0, 1) := by decide +kernel
theorem dX8_selves_6 : decode cX8_selves 6 = .ok (.getfield 9, 3) := by decide +kernel
theorem dX8_selves_9 : decode cX8_selves 9 = .ok (.bipush 12, 2) := by decide +kernel
theorem dX8_selves_11 : decode cX8_selves 11 = .ok (.iaload, 1) := by decide +kernel
theorem dX8_selves_12 : decode cX8_selves 12 = .ok (.if_icmp .ge 52, 3) := by decide +kernel
theorem dX8_selves_15 : decode cX8_selves 15 = .ok (.iconst 0, 1) := by decide +kernel
theorem dX8_selves_16 : decode cX8_selves 16 = .ok (.istore_n 3, 1) := by decide +kernel
theorem dX8_selves_17 : decode cX8_selves 17 = .ok (.iload_n 3, 1) := by decide +kernel
theorem dX8_selves_18 : decode cX8_selves 18 = .ok (.aload_n 0, 1) := by decide +kernel
theorem dX8_selves_19 : decode cX8_selves 19 = .ok (.getfield 9, 3) := by decide +kernel
theorem dX8_selves_22 : decode cX8_selves 22 = .ok (.bipush 11, 2) := by decide +kernel
theorem dX8_selves_24 : decode cX8_selves 24 = .ok (.iaload, 1) := by decide +kernel
theorem dX8_selves_25 : decode cX8_selves 25 = .ok (.if_icmp .ge 33, 3) := by decide +kernel
theorem dX8_selves_28 : decode cX8_selves 28 = .ok (.iload_n 1, 1) := by decide +kernel
theorem dX8_selves_29 : decode cX8_selves 29 = .ok (.aload_n 0, 1) := by decide +kernel
theorem dX8_selves_30 : decode cX8_selves 30 = .ok (.iload_n 2, 1) := by decide +kernel
theorem dX8_selves_31 : decode cX8_selves 31 = .ok (.iload_n 3, 1) := by decide +kernel
theorem dX8_selves_32 : decode cX8_selves 32 = .ok (.aload_n 0, 1) := by decide +kernel
theorem dX8_selves_33 : decode cX8_selves 33 = .ok (.iload_n 2, 1) := by decide +kernel
theorem dX8_selves_34 : decode cX8_selves 34 = .ok (.invokevirtual 109, 3) := by decide +kernel
theorem dX8_selves_37 : decode cX8_selves 37 = .ok (.invokevirtual 140, 3) := by decide +kernel
theorem dX8_selves_40 : decode cX8_selves 40 = .ok (.ifCond .eq 9, 3) := by decide +kernel
theorem dX8_selves_43 : decode cX8_selves 43 = .ok (.iconst 1, 1) := by decide +kernel
theorem dX8_selves_44 : decode cX8_selves 44 = .ok (.iload_n 2, 1) := by decide +kernel
theorem dX8_selves_45 : decode cX8_selves 45 = .ok (.ishl, 1) := by decide +kernel
theorem dX8_selves_46 : decode cX8_selves 46 = .ok (.goto 4, 3) := by decide +kernel
theorem dX8_selves_49 : decode cX8_selves 49 = .ok (.iconst 0, 1) := by decide +kernel
theorem dX8_selves_50 : decode cX8_selves 50 = .ok (.ior, 1) := by decide +kernel
theorem dX8_selves_51 : decode cX8_selves 51 = .ok (.istore_n 1, 1) := by decide +kernel
theorem dX8_selves_52 : decode cX8_selves 52 = .ok (.iinc 3 1, 3) := by decide +kernel
theorem dX8_selves_55 : decode cX8_selves 55 = .ok (.goto (-38), 3) := by decide +kernel
theorem dX8_selves_58 : decode cX8_selves 58 = .ok (.iinc 2 1, 3) := by decide +kernel
theorem dX8_selves_61 : decode cX8_selves 61 = .ok (.goto (-57), 3) := by decide +kernel
theorem dX8_selves_64 : decode cX8_selves 64 = .ok (.iload_n 1, 1) := by decide +kernel
theorem dX8_selves_65 : decode cX8_selves 65 = .ok (.ireturn, 1) := by decide +kernel
theorem dX8_reaches_0 : decode cX8_reaches 0 = .ok (.aload_n 0, 1) := by decide +kernel
theorem dX8_reaches_1 : decode cX8_reaches 1 = .ok (.iload_n 1, 1) := by decide +kernel
theorem dX8_reaches_2 : decode cX8_reaches 2 = .ok (.iload_n 2, 1) := by decide +kernel
theorem dX8_reaches_3 : decode cX8_reaches 3 = .ok (.bipush 10, 2) := by decide +kernel
theorem dX8_reaches_5 : decode cX8_reaches 5 = .ok (.irem, 1) := by decide +kernel
theorem dX8_reaches_6 : decode cX8_reaches 6 = .ok (.iload_n 2, 1) := by decide +kernel
theorem dX8_reaches_7 : decode cX8_reaches 7 = .ok (.bipush 10, 2) := by decide +kernel
theorem dX8_reaches_9 : decode cX8_reaches 9 = .ok (.idiv, 1) := by decide +kernel
theorem dX8_reaches_10 : decode cX8_reaches 10 = .ok (.invokevirtual 140, 3) := by decide +kernel
theorem dX8_reaches_13 : decode cX8_reaches 13 = .ok (.ifCond .eq 19, 3) := by decide +kernel
theorem dX8_reaches_16 : decode cX8_reaches 16 = .ok (.aload_n 0, 1) := by decide +kernel
theorem dX8_reaches_17 : decode cX8_reaches 17 = .ok (.getfield 9, 3) := by decide +kernel
theorem dX8_reaches_20 : decode cX8_reaches 20 = .ok (.bipush 36, 2) := by decide +kernel
theorem dX8_reaches_22 : decode cX8_reaches 22 = .ok (.iload_n 2, 1) := by decide +kernel
theorem dX8_reaches_23 : decode cX8_reaches 23 = .ok (.bipush 10, 2) := by decide +kernel
theorem dX8_reaches_25 : decode cX8_reaches 25 = .ok (.irem, 1) := by decide +kernel
theorem dX8_reaches_26 : decode cX8_reaches 26 = .ok (.iadd, 1) := by decide +kernel
theorem dX8_reaches_27 : decode cX8_reaches 27 = .ok (.iload_n 2, 1) := by decide +kernel
theorem dX8_reaches_28 : decode cX8_reaches 28 = .ok (.bipush 10, 2) := by decide +kernel
theorem dX8_reaches_30 : decode cX8_reaches 30 = .ok (.idiv, 1) := by decide +kernel
theorem dX8_reaches_31 : decode cX8_reaches 31 = .ok (.iastore, 1) := by decide +kernel
theorem dX8_reaches_32 : decode cX8_reaches 32 = .ok (.return_, 1) := by decide +kernel
theorem dX8_isReach_0 : decode cX8_isReach 0 = .ok (.iload_n 1, 1) := by decide +kernel
theorem dX8_isReach_1 : decode cX8_isReach 1 = .ok (.ifCond .lt 28, 3) := by decide +kernel
theorem dX8_isReach_4 : decode cX8_isReach 4 = .ok (.aload_n 0, 1) := by decide +kernel
theorem dX8_isReach_5 : decode cX8_isReach 5 = .ok (.iload_n 1, 1) := by decide +kernel
theorem dX8_isReach_6 : decode cX8_isReach 6 = .ok (.bipush 10, 2) := by decide +kernel
theorem dX8_isReach_8 : decode cX8_isReach 8 = .ok (.irem, 1) := by decide +kernel
theorem dX8_isReach_9 : decode cX8_isReach 9 = .ok (.invokevirtual 90, 3) := by decide +kernel
theorem dX8_isReach_12 : decode cX8_isReach 12 = .ok (.ifCond .eq 17, 3) := by decide +kernel
theorem dX8_isReach_15 : decode cX8_isReach 15 = .ok (.iload_n 1, 1) := by decide +kernel
theorem dX8_isReach_16 : decode cX8_isReach 16 = .ok (.bipush 10, 2) := by decide +kernel
theorem dX8_isReach_18 : decode cX8_isReach 18 = .ok (.idiv, 1) := by decide +kernel
theorem dX8_isReach_19 : decode cX8_isReach 19 = .ok (.invokestatic 70, 3) := by decide +kernel
theorem dX8_isReach_22 : decode cX8_isReach 22 = .ok (.ifCond .eq 7, 3) := by decide +kernel
theorem dX8_isReach_25 : decode cX8_isReach 25 = .ok (.iconst 1, 1) := by decide +kernel
theorem dX8_isReach_26 : decode cX8_isReach 26 = .ok (.goto 4, 3) := by decide +kernel
theorem dX8_isReach_29 : decode cX8_isReach 29 = .ok (.iconst 0, 1) := by decide +kernel
theorem dX8_isReach_30 : decode cX8_isReach 30 = .ok (.ireturn, 1) := by decide +kernel
theorem dX8_agree_0 : decode cX8_agree 0 = .ok (.aload_n 0, 1) := by decide +kernel
theorem dX8_agree_1 : decode cX8_agree 1 = .ok (.iload_n 1, 1) := by decide +kernel
theorem dX8_agree_2 : decode cX8_agree 2 = .ok (.invokevirtual 106, 3) := by decide +kernel
theorem dX8_agree_5 : decode cX8_agree 5 = .ok (.ifCond .eq 33, 3) := by decide +kernel
theorem dX8_agree_8 : decode cX8_agree 8 = .ok (.aload_n 0, 1) := by decide +kernel
theorem dX8_agree_9 : decode cX8_agree 9 = .ok (.iload_n 3, 1) := by decide +kernel
theorem dX8_agree_10 : decode cX8_agree 10 = .ok (.invokevirtual 106, 3) := by decide +kernel
theorem dX8_agree_13 : decode cX8_agree 13 = .ok (.ifCond .eq 25, 3) := by decide +kernel
theorem dX8_agree_16 : decode cX8_agree 16 = .ok (.iload_n 1, 1) := by decide +kernel
theorem dX8_agree_17 : decode cX8_agree 17 = .ok (.iload_n 3, 1) := by decide +kernel
theorem dX8_agree_18 : decode cX8_agree 18 = .ok (.if_icmp .eq 20, 3) := by decide +kernel
theorem dX8_agree_21 : decode cX8_agree 21 = .ok (.aload_n 0, 1) := by decide +kernel
theorem dX8_agree_22 : decode cX8_agree 22 = .ok (.iload_n 2, 1) := by decide +kernel
theorem dX8_agree_23 : decode cX8_agree 23 = .ok (.invokevirtual 193, 3) := by decide +kernel
theorem dX8_agree_26 : decode cX8_agree 26 = .ok (.ifCond .eq 12, 3) := by decide +kernel
theorem dX8_agree_29 : decode cX8_agree 29 = .ok (.aload_n 0, 1) := by decide +kernel
theorem dX8_agree_30 : decode cX8_agree 30 = .ok (.iload 4, 2) := by decide +kernel
theorem dX8_agree_32 : decode cX8_agree 32 = .ok (.invokevirtual 193, 3) := by decide +kernel
theorem dX8_agree_35 : decode cX8_agree 35 = .ok (.ifCond .ne 9, 3) := by decide +kernel
theorem dX8_agree_38 : decode cX8_agree 38 = .ok (.aload_n 0, 1) := by decide +kernel
theorem dX8_agree_39 : decode cX8_agree 39 = .ok (.iconst 0, 1) := by decide +kernel
theorem dX8_agree_40 : decode cX8_agree 40 = .ok (.invokevirtual 74, 3) := by decide +kernel
theorem dX8_agree_43 : decode cX8_agree 43 = .ok (.ireturn, 1) := by decide +kernel
theorem dX8_agree_44 : decode cX8_agree 44 = .ok (.aload_n 0, 1) := by decide +kernel
theorem dX8_agree_45 : decode cX8_agree 45 = .ok (.invokevirtual 196, 3) := by decide +kernel
theorem dX8_agree_48 : decode cX8_agree 48 = .ok (.aload_n 0, 1) := by decide +kernel
theorem dX8_agree_49 : decode cX8_agree 49 = .ok (.iload_n 1, 1) := by decide +kernel
theorem dX8_agree_50 : decode cX8_agree 50 = .ok (.iload_n 2, 1) := by decide +kernel
theorem dX8_agree_51 : decode cX8_agree 51 = .ok (.invokevirtual 199, 3) := by decide +kernel
theorem dX8_agree_54 : decode cX8_agree 54 = .ok (.aload_n 0, 1) := by decide +kernel
theorem dX8_agree_55 : decode cX8_agree 55 = .ok (.iload_n 3, 1) := by decide +kernel
theorem dX8_agree_56 : decode cX8_agree 56 = .ok (.iload 4, 2) := by decide +kernel
theorem dX8_agree_58 : decode cX8_agree 58 = .ok (.invokevirtual 199, 3) := by decide +kernel
theorem dX8_agree_61 : decode cX8_agree 61 = .ok (.aload_n 0, 1) := by decide +kernel
theorem dX8_agree_62 : decode cX8_agree 62 = .ok (.getfield 9, 3) := by decide +kernel
theorem dX8_agree_65 : decode cX8_agree 65 = .ok (.bipush 36, 2) := by decide +kernel
theorem dX8_agree_67 : decode cX8_agree 67 = .ok (.iload_n 2, 1) := by decide +kernel
theorem dX8_agree_68 : decode cX8_agree 68 = .ok (.bipush 10, 2) := by decide +kernel
theorem dX8_agree_70 : decode cX8_agree 70 = .ok (.irem, 1) := by decide +kernel
theorem dX8_agree_71 : decode cX8_agree 71 = .ok (.iadd, 1) := by decide +kernel
theorem dX8_agree_72 : decode cX8_agree 72 = .ok (.iaload, 1) := by decide +kernel
theorem dX8_agree_73 : decode cX8_agree 73 = .ok (.istore 5, 2) := by decide +kernel
theorem dX8_agree_75 : decode cX8_agree 75 = .ok (.aload_n 0, 1) := by decide +kernel
theorem dX8_agree_76 : decode cX8_agree 76 = .ok (.getfield 9, 3) := by decide +kernel
theorem dX8_agree_79 : decode cX8_agree 79 = .ok (.bipush 36, 2) := by decide +kernel
theorem dX8_agree_81 : decode cX8_agree 81 = .ok (.iload 4, 2) := by decide +kernel
theorem dX8_agree_83 : decode cX8_agree 83 = .ok (.bipush 10, 2) := by decide +kernel
theorem dX8_agree_85 : decode cX8_agree 85 = .ok (.irem, 1) := by decide +kernel
theorem dX8_agree_86 : decode cX8_agree 86 = .ok (.iadd, 1) := by decide +kernel
theorem dX8_agree_87 : decode cX8_agree 87 = .ok (.iaload, 1) := by decide +kernel
theorem dX8_agree_88 : decode cX8_agree 88 = .ok (.istore 6, 2) := by decide +kernel
theorem dX8_agree_90 : decode cX8_agree 90 = .ok (.aload_n 0, 1) := by decide +kernel
theorem dX8_agree_91 : decode cX8_agree 91 = .ok (.invokevirtual 202, 3) := by decide +kernel
theorem dX8_agree_94 : decode cX8_agree 94 = .ok (.aload_n 0, 1) := by decide +kernel
theorem dX8_agree_95 : decode cX8_agree 95 = .ok (.iload_n 3, 1) := by decide +kernel
theorem dX8_agree_96 : decode cX8_agree 96 = .ok (.iload 4, 2) := by decide +kernel
theorem dX8_agree_98 : decode cX8_agree 98 = .ok (.invokevirtual 199, 3) := by decide +kernel
theorem dX8_agree_101 : decode cX8_agree 101 = .ok (.aload_n 0, 1) := by decide +kernel
theorem dX8_agree_102 : decode cX8_agree 102 = .ok (.iload_n 1, 1) := by decide +kernel
theorem dX8_agree_103 : decode cX8_agree 103 = .ok (.iload_n 2, 1) := by decide +kernel
theorem dX8_agree_104 : decode cX8_agree 104 = .ok (.invokevirtual 199, 3) := by decide +kernel
theorem dX8_agree_107 : decode cX8_agree 107 = .ok (.iload 5, 2) := by decide +kernel
theorem dX8_agree_109 : decode cX8_agree 109 = .ok (.aload_n 0, 1) := by decide +kernel
theorem dX8_agree_110 : decode cX8_agree 110 = .ok (.getfield 9, 3) := by decide +kernel
theorem dX8_agree_113 : decode cX8_agree 113 = .ok (.bipush 36, 2) := by decide +kernel
theorem dX8_agree_115 : decode cX8_agree 115 = .ok (.iload_n 2, 1) := by decide +kernel
theorem dX8_agree_116 : decode cX8_agree 116 = .ok (.bipush 10, 2) := by decide +kernel
theorem dX8_agree_118 : decode cX8_agree 118 = .ok (.irem, 1) := by decide +kernel
theorem dX8_agree_119 : decode cX8_agree 119 = .ok (.iadd, 1) := by decide +kernel
theorem dX8_agree_120 : decode cX8_agree 120 = .ok (.iaload, 1) := by decide +kernel
theorem dX8_agree_121 : decode cX8_agree 121 = .ok (.if_icmp .ne 25, 3) := by decide +kernel
theorem dX8_agree_124 : decode cX8_agree 124 = .ok (.iload 6, 2) := by decide +kernel
theorem dX8_agree_126 : decode cX8_agree 126 = .ok (.aload_n 0, 1) := by decide +kernel
theorem dX8_agree_127 : decode cX8_agree 127 = .ok (.getfield 9, 3) := by decide +kernel
theorem dX8_agree_130 : decode cX8_agree 130 = .ok (.bipush 36, 2) := by decide +kernel
theorem dX8_agree_132 : decode cX8_agree 132 = .ok (.iload 4, 2) := by decide +kernel
theorem dX8_agree_134 : decode cX8_agree 134 = .ok (.bipush 10, 2) := by decide +kernel
theorem dX8_agree_136 : decode cX8_agree 136 = .ok (.irem, 1) := by decide +kernel
theorem dX8_agree_137 : decode cX8_agree 137 = .ok (.iadd, 1) := by decide +kernel
theorem dX8_agree_138 : decode cX8_agree 138 = .ok (.iaload, 1) := by decide +kernel
theorem dX8_agree_139 : decode cX8_agree 139 = .ok (.if_icmp .ne 7, 3) := by decide +kernel
theorem dX8_agree_142 : decode cX8_agree 142 = .ok (.iconst 1, 1) := by decide +kernel
theorem dX8_agree_143 : decode cX8_agree 143 = .ok (.goto 4, 3) := by decide +kernel
theorem dX8_agree_146 : decode cX8_agree 146 = .ok (.iconst 0, 1) := by decide +kernel
theorem dX8_agree_147 : decode cX8_agree 147 = .ok (.istore 7, 2) := by decide +kernel
theorem dX8_agree_149 : decode cX8_agree 149 = .ok (.aload_n 0, 1) := by decide +kernel
theorem dX8_agree_150 : decode cX8_agree 150 = .ok (.invokevirtual 202, 3) := by decide +kernel
theorem dX8_agree_153 : decode cX8_agree 153 = .ok (.iload 7, 2) := by decide +kernel
theorem dX8_agree_155 : decode cX8_agree 155 = .ok (.ifCond .eq 7, 3) := by decide +kernel
theorem dX8_agree_158 : decode cX8_agree 158 = .ok (.iconst 1, 1) := by decide +kernel
theorem dX8_agree_159 : decode cX8_agree 159 = .ok (.goto 4, 3) := by decide +kernel
theorem dX8_agree_162 : decode cX8_agree 162 = .ok (.iconst 0, 1) := by decide +kernel
theorem dX8_agree_163 : decode cX8_agree 163 = .ok (.ireturn, 1) := by decide +kernel
theorem dX8_opens_0 : decode cX8_opens 0 = .ok (.aload_n 0, 1) := by decide +kernel
theorem dX8_opens_1 : decode cX8_opens 1 = .ok (.iload_n 1, 1) := by decide +kernel
theorem dX8_opens_2 : decode cX8_opens 2 = .ok (.iload_n 2, 1) := by decide +kernel
theorem dX8_opens_3 : decode cX8_opens 3 = .ok (.iload_n 3, 1) := by decide +kernel
theorem dX8_opens_4 : decode cX8_opens 4 = .ok (.invokevirtual 168, 3) := by decide +kernel
theorem dX8_opens_7 : decode cX8_opens 7 = .ok (.ifCond .ne 9, 3) := by decide +kernel
theorem dX8_opens_10 : decode cX8_opens 10 = .ok (.aload_n 0, 1) := by decide +kernel
theorem dX8_opens_11 : decode cX8_opens 11 = .ok (.iconst 0, 1) := by decide +kernel
theorem dX8_opens_12 : decode cX8_opens 12 = .ok (.invokevirtual 74, 3) := by decide +kernel
theorem dX8_opens_15 : decode cX8_opens 15 = .ok (.ireturn, 1) := by decide +kernel
theorem dX8_opens_16 : decode cX8_opens 16 = .ok (.aload_n 0, 1) := by decide +kernel
theorem dX8_opens_17 : decode cX8_opens 17 = .ok (.invokevirtual 180, 3) := by decide +kernel
theorem dX8_opens_20 : decode cX8_opens 20 = .ok (.iconst 0, 1) := by decide +kernel
theorem dX8_opens_21 : decode cX8_opens 21 = .ok (.istore 4, 2) := by decide +kernel
theorem dX8_opens_23 : decode cX8_opens 23 = .ok (.iload 4, 2) := by decide +kernel
theorem dX8_opens_25 : decode cX8_opens 25 = .ok (.bipush 8, 2) := by decide +kernel
theorem dX8_opens_27 : decode cX8_opens 27 = .ok (.if_icmp .ge 76, 3) := by decide +kernel
theorem dX8_opens_30 : decode cX8_opens 30 = .ok (.iload 4, 2) := by decide +kernel
theorem dX8_opens_32 : decode cX8_opens 32 = .ok (.iconst 1, 1) := by decide +kernel
theorem dX8_opens_33 : decode cX8_opens 33 = .ok (.iadd, 1) := by decide +kernel
theorem dX8_opens_34 : decode cX8_opens 34 = .ok (.istore 5, 2) := by decide +kernel
theorem dX8_opens_36 : decode cX8_opens 36 = .ok (.iload 5, 2) := by decide +kernel
theorem dX8_opens_38 : decode cX8_opens 38 = .ok (.bipush 8, 2) := by decide +kernel
theorem dX8_opens_40 : decode cX8_opens 40 = .ok (.if_icmp .ge 57, 3) := by decide +kernel
theorem dX8_opens_43 : decode cX8_opens 43 = .ok (.aload_n 0, 1) := by decide +kernel
theorem dX8_opens_44 : decode cX8_opens 44 = .ok (.iload 4, 2) := by decide +kernel
theorem dX8_opens_46 : decode cX8_opens 46 = .ok (.iload 5, 2) := by decide +kernel
theorem dX8_opens_48 : decode cX8_opens 48 = .ok (.invokevirtual 77, 3) := by decide +kernel
theorem dX8_opens_51 : decode cX8_opens 51 = .ok (.ifCond .ne 40, 3) := by decide +kernel
theorem dX8_opens_54 : decode cX8_opens 54 = .ok (.aload_n 0, 1) := by decide +kernel
theorem dX8_opens_55 : decode cX8_opens 55 = .ok (.iload 4, 2) := by decide +kernel
theorem dX8_opens_57 : decode cX8_opens 57 = .ok (.iload 5, 2) := by decide +kernel
theorem dX8_opens_59 : decode cX8_opens 59 = .ok (.iconst 1, 1) := by decide +kernel
theorem dX8_opens_60 : decode cX8_opens 60 = .ok (.invokevirtual 43, 3) := by decide +kernel
theorem dX8_opens_63 : decode cX8_opens 63 = .ok (.aload_n 0, 1) := by decide +kernel
theorem dX8_opens_64 : decode cX8_opens 64 = .ok (.bipush 10, 2) := by decide +kernel
theorem dX8_opens_66 : decode cX8_opens 66 = .ok (.iload 4, 2) := by decide +kernel
theorem dX8_opens_68 : decode cX8_opens 68 = .ok (.imul, 1) := by decide +kernel
theorem dX8_opens_69 : decode cX8_opens 69 = .ok (.iload 5, 2) := by decide +kernel
theorem dX8_opens_71 : decode cX8_opens 71 = .ok (.iadd, 1) := by decide +kernel
theorem dX8_opens_72 : decode cX8_opens 72 = .ok (.aload_n 0, 1) := by decide +kernel
theorem dX8_opens_73 : decode cX8_opens 73 = .ok (.iload_n 1, 1) := by decide +kernel
theorem dX8_opens_74 : decode cX8_opens 74 = .ok (.iload_n 2, 1) := by decide +kernel
theorem dX8_opens_75 : decode cX8_opens 75 = .ok (.iload_n 3, 1) := by decide +kernel
theorem dX8_opens_76 : decode cX8_opens 76 = .ok (.invokevirtual 171, 3) := by decide +kernel
theorem dX8_opens_79 : decode cX8_opens 79 = .ok (.invokevirtual 183, 3) := by decide +kernel
theorem dX8_opens_82 : decode cX8_opens 82 = .ok (.aload_n 0, 1) := by decide +kernel
theorem dX8_opens_83 : decode cX8_opens 83 = .ok (.iload 4, 2) := by decide +kernel
theorem dX8_opens_85 : decode cX8_opens 85 = .ok (.iload 5, 2) := by decide +kernel
theorem dX8_opens_87 : decode cX8_opens 87 = .ok (.iconst 0, 1) := by decide +kernel
theorem dX8_opens_88 : decode cX8_opens 88 = .ok (.invokevirtual 43, 3) := by decide +kernel
theorem dX8_opens_91 : decode cX8_opens 91 = .ok (.iinc 5 1, 3) := by decide +kernel
theorem dX8_opens_94 : decode cX8_opens 94 = .ok (.goto (-58), 3) := by decide +kernel
theorem dX8_opens_97 : decode cX8_opens 97 = .ok (.iinc 4 1, 3) := by decide +kernel
theorem dX8_opens_100 : decode cX8_opens 100 = .ok (.goto (-77), 3) := by decide +kernel
theorem dX8_opens_103 : decode cX8_opens 103 = .ok (.aload_n 0, 1) := by decide +kernel
theorem dX8_opens_104 : decode cX8_opens 104 = .ok (.aload_n 0, 1) := by decide +kernel
theorem dX8_opens_105 : decode cX8_opens 105 = .ok (.getfield 174, 3) := by decide +kernel
theorem dX8_opens_108 : decode cX8_opens 108 = .ok (.invokevirtual 162, 3) := by decide +kernel
theorem dX8_opens_111 : decode cX8_opens 111 = .ok (.ireturn, 1) := by decide +kernel
theorem dX8_power_0 : decode cX8_power 0 = .ok (.lconst 1, 1) := by decide +kernel
theorem dX8_power_1 : decode cX8_power 1 = .ok (.lstore_n 2, 1) := by decide +kernel
theorem dX8_power_2 : decode cX8_power 2 = .ok (.iconst 0, 1) := by decide +kernel
theorem dX8_power_3 : decode cX8_power 3 = .ok (.istore 4, 2) := by decide +kernel
theorem dX8_power_5 : decode cX8_power 5 = .ok (.iload 4, 2) := by decide +kernel
theorem dX8_power_7 : decode cX8_power 7 = .ok (.iload_n 1, 1) := by decide +kernel
theorem dX8_power_8 : decode cX8_power 8 = .ok (.if_icmp .ge 29, 3) := by decide +kernel
theorem dX8_power_11 : decode cX8_power 11 = .ok (.lload_n 2, 1) := by decide +kernel
theorem dX8_power_12 : decode cX8_power 12 = .ok (.ldc2_w 205, 3) := by decide +kernel
theorem dX8_power_15 : decode cX8_power 15 = .ok (.iload_n 0, 1) := by decide +kernel
theorem dX8_power_16 : decode cX8_power 16 = .ok (.i2l, 1) := by decide +kernel
theorem dX8_power_17 : decode cX8_power 17 = .ok (.ldiv, 1) := by decide +kernel
theorem dX8_power_18 : decode cX8_power 18 = .ok (.lcmp, 1) := by decide +kernel
theorem dX8_power_19 : decode cX8_power 19 = .ok (.ifCond .le 7, 3) := by decide +kernel
theorem dX8_power_22 : decode cX8_power 22 = .ok (.ldc2_w 207, 3) := by decide +kernel
theorem dX8_power_25 : decode cX8_power 25 = .ok (.lreturn, 1) := by decide +kernel
theorem dX8_power_26 : decode cX8_power 26 = .ok (.lload_n 2, 1) := by decide +kernel
theorem dX8_power_27 : decode cX8_power 27 = .ok (.iload_n 0, 1) := by decide +kernel
theorem dX8_power_28 : decode cX8_power 28 = .ok (.i2l, 1) := by decide +kernel
theorem dX8_power_29 : decode cX8_power 29 = .ok (.lmul, 1) := by decide +kernel
theorem dX8_power_30 : decode cX8_power 30 = .ok (.lstore_n 2, 1) := by decide +kernel
theorem dX8_power_31 : decode cX8_power 31 = .ok (.iinc 4 1, 3) := by decide +kernel
theorem dX8_power_34 : decode cX8_power 34 = .ok (.goto (-29), 3) := by decide +kernel
theorem dX8_power_37 : decode cX8_power 37 = .ok (.lload_n 2, 1) := by decide +kernel
theorem dX8_power_38 : decode cX8_power 38 = .ok (.lreturn, 1) := by decide +kernel
theorem dX8_isHouses_0 : decode cX8_isHouses 0 = .ok (.iload_n 0, 1) := by decide +kernel
theorem dX8_isHouses_1 : decode cX8_isHouses 1 = .ok (.i2l, 1) := by decide +kernel
theorem dX8_isHouses_2 : decode cX8_isHouses 2 = .ok (.lconst 1, 1) := by decide +kernel
theorem dX8_isHouses_3 : decode cX8_isHouses 3 = .ok (.ldc2_w 209, 3) := by decide +kernel
theorem dX8_isHouses_6 : decode cX8_isHouses 6 = .ok (.invokestatic 54, 3) := by decide +kernel
theorem dX8_isHouses_9 : decode cX8_isHouses 9 = .ok (.ifCond .eq 18, 3) := by decide +kernel
theorem dX8_isHouses_12 : decode cX8_isHouses 12 = .ok (.iload_n 1, 1) := by decide +kernel
theorem dX8_isHouses_13 : decode cX8_isHouses 13 = .ok (.i2l, 1) := by decide +kernel
theorem dX8_isHouses_14 : decode cX8_isHouses 14 = .ok (.lconst 0, 1) := by decide +kernel
theorem dX8_isHouses_15 : decode cX8_isHouses 15 = .ok (.iload_n 2, 1) := by decide +kernel
theorem dX8_isHouses_16 : decode cX8_isHouses 16 = .ok (.i2l, 1) := by decide +kernel
theorem dX8_isHouses_17 : decode cX8_isHouses 17 = .ok (.invokestatic 54, 3) := by decide +kernel
theorem dX8_isHouses_20 : decode cX8_isHouses 20 = .ok (.ifCond .eq 7, 3) := by decide +kernel
theorem dX8_isHouses_23 : decode cX8_isHouses 23 = .ok (.iconst 1, 1) := by decide +kernel
theorem dX8_isHouses_24 : decode cX8_isHouses 24 = .ok (.goto 4, 3) := by decide +kernel
theorem dX8_isHouses_27 : decode cX8_isHouses 27 = .ok (.iconst 0, 1) := by decide +kernel
theorem dX8_isHouses_28 : decode cX8_isHouses 28 = .ok (.ireturn, 1) := by decide +kernel
theorem dX8_copies_0 : decode cX8_copies 0 = .ok (.iload_n 1, 1) := by decide +kernel
theorem dX8_copies_1 : decode cX8_copies 1 = .ok (.iload_n 2, 1) := by decide +kernel
theorem dX8_copies_2 : decode cX8_copies 2 = .ok (.bipush 62, 2) := by decide +kernel
theorem dX8_copies_4 : decode cX8_copies 4 = .ok (.invokestatic 211, 3) := by decide +kernel
theorem dX8_copies_7 : decode cX8_copies 7 = .ok (.ifCond .ne 10, 3) := by decide +kernel
theorem dX8_copies_10 : decode cX8_copies 10 = .ok (.aload_n 0, 1) := by decide +kernel
theorem dX8_copies_11 : decode cX8_copies 11 = .ok (.iconst 0, 1) := by decide +kernel
theorem dX8_copies_12 : decode cX8_copies 12 = .ok (.invokevirtual 74, 3) := by decide +kernel
theorem dX8_copies_15 : decode cX8_copies 15 = .ok (.i2l, 1) := by decide +kernel
theorem dX8_copies_16 : decode cX8_copies 16 = .ok (.lreturn, 1) := by decide +kernel
theorem dX8_copies_17 : decode cX8_copies 17 = .ok (.iload_n 1, 1) := by decide +kernel
theorem dX8_copies_18 : decode cX8_copies 18 = .ok (.iload_n 2, 1) := by decide +kernel
theorem dX8_copies_19 : decode cX8_copies 19 = .ok (.invokestatic 214, 3) := by decide +kernel
theorem dX8_copies_22 : decode cX8_copies 22 = .ok (.lstore_n 3, 1) := by decide +kernel
theorem dX8_copies_23 : decode cX8_copies 23 = .ok (.lload_n 3, 1) := by decide +kernel
theorem dX8_copies_24 : decode cX8_copies 24 = .ok (.lconst 0, 1) := by decide +kernel
theorem dX8_copies_25 : decode cX8_copies 25 = .ok (.lcmp, 1) := by decide +kernel
theorem dX8_copies_26 : decode cX8_copies 26 = .ok (.ifCond .ge 13, 3) := by decide +kernel
theorem dX8_copies_29 : decode cX8_copies 29 = .ok (.aload_n 0, 1) := by decide +kernel
theorem dX8_copies_30 : decode cX8_copies 30 = .ok (.bipush 6, 2) := by decide +kernel
theorem dX8_copies_32 : decode cX8_copies 32 = .ok (.invokevirtual 74, 3) := by decide +kernel
theorem dX8_copies_35 : decode cX8_copies 35 = .ok (.i2l, 1) := by decide +kernel
theorem dX8_copies_36 : decode cX8_copies 36 = .ok (.goto 4, 3) := by decide +kernel
theorem dX8_copies_39 : decode cX8_copies 39 = .ok (.lload_n 3, 1) := by decide +kernel
theorem dX8_copies_40 : decode cX8_copies 40 = .ok (.lreturn, 1) := by decide +kernel
theorem dX8_all_0 : decode cX8_all 0 = .ok (.iload_n 1, 1) := by decide +kernel
theorem dX8_all_1 : decode cX8_all 1 = .ok (.iload_n 2, 1) := by decide +kernel
theorem dX8_all_2 : decode cX8_all 2 = .ok (.bipush 62, 2) := by decide +kernel
theorem dX8_all_4 : decode cX8_all 4 = .ok (.invokestatic 211, 3) := by decide +kernel
theorem dX8_all_7 : decode cX8_all 7 = .ok (.ifCond .ne 10, 3) := by decide +kernel
theorem dX8_all_10 : decode cX8_all 10 = .ok (.aload_n 0, 1) := by decide +kernel
theorem dX8_all_11 : decode cX8_all 11 = .ok (.iconst 0, 1) := by decide +kernel
theorem dX8_all_12 : decode cX8_all 12 = .ok (.invokevirtual 74, 3) := by decide +kernel
theorem dX8_all_15 : decode cX8_all 15 = .ok (.i2l, 1) := by decide +kernel
theorem dX8_all_16 : decode cX8_all 16 = .ok (.lreturn, 1) := by decide +kernel
theorem dX8_all_17 : decode cX8_all 17 = .ok (.lconst 0, 1) := by decide +kernel
theorem dX8_all_18 : decode cX8_all 18 = .ok (.lstore_n 3, 1) := by decide +kernel
theorem dX8_all_19 : decode cX8_all 19 = .ok (.iconst 0, 1) := by decide +kernel
theorem dX8_all_20 : decode cX8_all 20 = .ok (.istore 5, 2) := by decide +kernel
theorem dX8_all_22 : decode cX8_all 22 = .ok (.iload 5, 2) := by decide +kernel
theorem dX8_all_24 : decode cX8_all 24 = .ok (.iload_n 2, 1) := by decide +kernel
theorem dX8_all_25 : decode cX8_all 25 = .ok (.if_icmp .gt 48, 3) := by decide +kernel
theorem dX8_all_28 : decode cX8_all 28 = .ok (.iload_n 1, 1) := by decide +kernel
theorem dX8_all_29 : decode cX8_all 29 = .ok (.iload 5, 2) := by decide +kernel
theorem dX8_all_31 : decode cX8_all 31 = .ok (.invokestatic 214, 3) := by decide +kernel
theorem dX8_all_34 : decode cX8_all 34 = .ok (.lstore 6, 2) := by decide +kernel
theorem dX8_all_36 : decode cX8_all 36 = .ok (.lload 6, 2) := by decide +kernel
theorem dX8_all_38 : decode cX8_all 38 = .ok (.lconst 0, 1) := by decide +kernel
theorem dX8_all_39 : decode cX8_all 39 = .ok (.lcmp, 1) := by decide +kernel
theorem dX8_all_40 : decode cX8_all 40 = .ok (.ifCond .lt 14, 3) := by decide +kernel
theorem dX8_all_43 : decode cX8_all 43 = .ok (.lload 6, 2) := by decide +kernel
theorem dX8_all_45 : decode cX8_all 45 = .ok (.ldc2_w 205, 3) := by decide +kernel
theorem dX8_all_48 : decode cX8_all 48 = .ok (.lload_n 3, 1) := by decide +kernel
theorem dX8_all_49 : decode cX8_all 49 = .ok (.lsub, 1) := by decide +kernel
theorem dX8_all_50 : decode cX8_all 50 = .ok (.lcmp, 1) := by decide +kernel
theorem dX8_all_51 : decode cX8_all 51 = .ok (.ifCond .le 11, 3) := by decide +kernel
theorem dX8_all_54 : decode cX8_all 54 = .ok (.aload_n 0, 1) := by decide +kernel
theorem dX8_all_55 : decode cX8_all 55 = .ok (.bipush 6, 2) := by decide +kernel
theorem dX8_all_57 : decode cX8_all 57 = .ok (.invokevirtual 74, 3) := by decide +kernel
theorem dX8_all_60 : decode cX8_all 60 = .ok (.i2l, 1) := by decide +kernel
theorem dX8_all_61 : decode cX8_all 61 = .ok (.lreturn, 1) := by decide +kernel
theorem dX8_all_62 : decode cX8_all 62 = .ok (.lload_n 3, 1) := by decide +kernel
theorem dX8_all_63 : decode cX8_all 63 = .ok (.lload 6, 2) := by decide +kernel
theorem dX8_all_65 : decode cX8_all 65 = .ok (.ladd, 1) := by decide +kernel
theorem dX8_all_66 : decode cX8_all 66 = .ok (.lstore_n 3, 1) := by decide +kernel
theorem dX8_all_67 : decode cX8_all 67 = .ok (.iinc 5 1, 3) := by decide +kernel
theorem dX8_all_70 : decode cX8_all 70 = .ok (.goto (-48), 3) := by decide +kernel
theorem dX8_all_73 : decode cX8_all 73 = .ok (.lload_n 3, 1) := by decide +kernel
theorem dX8_all_74 : decode cX8_all 74 = .ok (.lreturn, 1) := by decide +kernel
theorem dX8_divisor_0 : decode cX8_divisor 0 = .ok (.lload_n 0, 1) := by decide +kernel
theorem dX8_divisor_1 : decode cX8_divisor 1 = .ok (.lstore 4, 2) := by decide +kernel
theorem dX8_divisor_3 : decode cX8_divisor 3 = .ok (.lload_n 2, 1) := by decide +kernel
theorem dX8_divisor_4 : decode cX8_divisor 4 = .ok (.lstore 6, 2) := by decide +kernel
theorem dX8_divisor_6 : decode cX8_divisor 6 = .ok (.lload 6, 2) := by decide +kernel
theorem dX8_divisor_8 : decode cX8_divisor 8 = .ok (.lconst 0, 1) := by decide +kernel
theorem dX8_divisor_9 : decode cX8_divisor 9 = .ok (.lcmp, 1) := by decide +kernel
theorem dX8_divisor_10 : decode cX8_divisor 10 = .ok (.ifCond .eq 21, 3) := by decide +kernel
theorem dX8_divisor_13 : decode cX8_divisor 13 = .ok (.lload 4, 2) := by decide +kernel
theorem dX8_divisor_15 : decode cX8_divisor 15 = .ok (.lload 6, 2) := by decide +kernel
theorem dX8_divisor_17 : decode cX8_divisor 17 = .ok (.lrem, 1) := by decide +kernel
theorem dX8_divisor_18 : decode cX8_divisor 18 = .ok (.lstore 8, 2) := by decide +kernel
theorem dX8_divisor_20 : decode cX8_divisor 20 = .ok (.lload 6, 2) := by decide +kernel
theorem dX8_divisor_22 : decode cX8_divisor 22 = .ok (.lstore 4, 2) := by decide +kernel
theorem dX8_divisor_24 : decode cX8_divisor 24 = .ok (.lload 8, 2) := by decide +kernel
theorem dX8_divisor_26 : decode cX8_divisor 26 = .ok (.lstore 6, 2) := by decide +kernel
theorem dX8_divisor_28 : decode cX8_divisor 28 = .ok (.goto (-22), 3) := by decide +kernel
theorem dX8_divisor_31 : decode cX8_divisor 31 = .ok (.lload 4, 2) := by decide +kernel
theorem dX8_divisor_33 : decode cX8_divisor 33 = .ok (.lreturn, 1) := by decide +kernel
theorem dX8_weight_0 : decode cX8_weight 0 = .ok (.iload_n 1, 1) := by decide +kernel
theorem dX8_weight_1 : decode cX8_weight 1 = .ok (.iload_n 2, 1) := by decide +kernel
theorem dX8_weight_2 : decode cX8_weight 2 = .ok (.bipush 30, 2) := by decide +kernel
theorem dX8_weight_4 : decode cX8_weight 4 = .ok (.invokestatic 211, 3) := by decide +kernel
theorem dX8_weight_7 : decode cX8_weight 7 = .ok (.ifCond .eq 13, 3) := by decide +kernel
theorem dX8_weight_10 : decode cX8_weight 10 = .ok (.iload_n 3, 1) := by decide +kernel
theorem dX8_weight_11 : decode cX8_weight 11 = .ok (.i2l, 1) := by decide +kernel
theorem dX8_weight_12 : decode cX8_weight 12 = .ok (.lconst 0, 1) := by decide +kernel
theorem dX8_weight_13 : decode cX8_weight 13 = .ok (.lconst 1, 1) := by decide +kernel
theorem dX8_weight_14 : decode cX8_weight 14 = .ok (.invokestatic 54, 3) := by decide +kernel
theorem dX8_weight_17 : decode cX8_weight 17 = .ok (.ifCond .ne 10, 3) := by decide +kernel
theorem dX8_weight_20 : decode cX8_weight 20 = .ok (.aload_n 0, 1) := by decide +kernel
theorem dX8_weight_21 : decode cX8_weight 21 = .ok (.iconst 0, 1) := by decide +kernel
theorem dX8_weight_22 : decode cX8_weight 22 = .ok (.invokevirtual 74, 3) := by decide +kernel
theorem dX8_weight_25 : decode cX8_weight 25 = .ok (.i2l, 1) := by decide +kernel
theorem dX8_weight_26 : decode cX8_weight 26 = .ok (.lreturn, 1) := by decide +kernel
theorem dX8_weight_27 : decode cX8_weight 27 = .ok (.lconst 1, 1) := by decide +kernel
theorem dX8_weight_28 : decode cX8_weight 28 = .ok (.lstore 4, 2) := by decide +kernel
theorem dX8_weight_30 : decode cX8_weight 30 = .ok (.lconst 1, 1) := by decide +kernel
theorem dX8_weight_31 : decode cX8_weight 31 = .ok (.lstore 6, 2) := by decide +kernel
theorem dX8_weight_33 : decode cX8_weight 33 = .ok (.iconst 1, 1) := by decide +kernel
theorem dX8_weight_34 : decode cX8_weight 34 = .ok (.istore 8, 2) := by decide +kernel
theorem dX8_weight_36 : decode cX8_weight 36 = .ok (.iload 8, 2) := by decide +kernel
theorem dX8_weight_38 : decode cX8_weight 38 = .ok (.iload_n 2, 1) := by decide +kernel
theorem dX8_weight_39 : decode cX8_weight 39 = .ok (.if_icmp .gt 80, 3) := by decide +kernel
theorem dX8_weight_42 : decode cX8_weight 42 = .ok (.lload 4, 2) := by decide +kernel
theorem dX8_weight_44 : decode cX8_weight 44 = .ok (.iload_n 1, 1) := by decide +kernel
theorem dX8_weight_45 : decode cX8_weight 45 = .ok (.i2l, 1) := by decide +kernel
theorem dX8_weight_46 : decode cX8_weight 46 = .ok (.lmul, 1) := by decide +kernel
theorem dX8_weight_47 : decode cX8_weight 47 = .ok (.ldc2_w 218, 3) := by decide +kernel
theorem dX8_weight_50 : decode cX8_weight 50 = .ok (.lload 6, 2) := by decide +kernel
theorem dX8_weight_52 : decode cX8_weight 52 = .ok (.lmul, 1) := by decide +kernel
theorem dX8_weight_53 : decode cX8_weight 53 = .ok (.ladd, 1) := by decide +kernel
theorem dX8_weight_54 : decode cX8_weight 54 = .ok (.lstore 9, 2) := by decide +kernel
theorem dX8_weight_56 : decode cX8_weight 56 = .ok (.ldc2_w 218, 3) := by decide +kernel
theorem dX8_weight_59 : decode cX8_weight 59 = .ok (.lload 6, 2) := by decide +kernel
theorem dX8_weight_61 : decode cX8_weight 61 = .ok (.lmul, 1) := by decide +kernel
theorem dX8_weight_62 : decode cX8_weight 62 = .ok (.lstore 11, 2) := by decide +kernel
theorem dX8_weight_64 : decode cX8_weight 64 = .ok (.lload 9, 2) := by decide +kernel
theorem dX8_weight_66 : decode cX8_weight 66 = .ok (.lload 11, 2) := by decide +kernel
theorem dX8_weight_68 : decode cX8_weight 68 = .ok (.invokestatic 220, 3) := by decide +kernel
theorem dX8_weight_71 : decode cX8_weight 71 = .ok (.lstore 13, 2) := by decide +kernel
theorem dX8_weight_73 : decode cX8_weight 73 = .ok (.lload 9, 2) := by decide +kernel
theorem dX8_weight_75 : decode cX8_weight 75 = .ok (.lload 13, 2) := by decide +kernel
theorem dX8_weight_77 : decode cX8_weight 77 = .ok (.ldiv, 1) := by decide +kernel
theorem dX8_weight_78 : decode cX8_weight 78 = .ok (.lstore 4, 2) := by decide +kernel
theorem dX8_weight_80 : decode cX8_weight 80 = .ok (.lload 11, 2) := by decide +kernel
theorem dX8_weight_82 : decode cX8_weight 82 = .ok (.lload 13, 2) := by decide +kernel
theorem dX8_weight_84 : decode cX8_weight 84 = .ok (.ldiv, 1) := by decide +kernel
theorem dX8_weight_85 : decode cX8_weight 85 = .ok (.lstore 6, 2) := by decide +kernel
theorem dX8_weight_87 : decode cX8_weight 87 = .ok (.lload 4, 2) := by decide +kernel
theorem dX8_weight_89 : decode cX8_weight 89 = .ok (.ldc2_w 224, 3) := by decide +kernel
theorem dX8_weight_92 : decode cX8_weight 92 = .ok (.lcmp, 1) := by decide +kernel
theorem dX8_weight_93 : decode cX8_weight 93 = .ok (.ifCond .gt 12, 3) := by decide +kernel
theorem dX8_weight_96 : decode cX8_weight 96 = .ok (.lload 6, 2) := by decide +kernel
theorem dX8_weight_98 : decode cX8_weight 98 = .ok (.ldc2_w 224, 3) := by decide +kernel
theorem dX8_weight_101 : decode cX8_weight 101 = .ok (.lcmp, 1) := by decide +kernel
theorem dX8_weight_102 : decode cX8_weight 102 = .ok (.ifCond .le 11, 3) := by decide +kernel
theorem dX8_weight_105 : decode cX8_weight 105 = .ok (.aload_n 0, 1) := by decide +kernel
theorem dX8_weight_106 : decode cX8_weight 106 = .ok (.bipush 6, 2) := by decide +kernel
theorem dX8_weight_108 : decode cX8_weight 108 = .ok (.invokevirtual 74, 3) := by decide +kernel
theorem dX8_weight_111 : decode cX8_weight 111 = .ok (.i2l, 1) := by decide +kernel
theorem dX8_weight_112 : decode cX8_weight 112 = .ok (.lreturn, 1) := by decide +kernel
theorem dX8_weight_113 : decode cX8_weight 113 = .ok (.iinc 8 1, 3) := by decide +kernel
theorem dX8_weight_116 : decode cX8_weight 116 = .ok (.goto (-80), 3) := by decide +kernel
theorem dX8_weight_119 : decode cX8_weight 119 = .ok (.iload_n 3, 1) := by decide +kernel
theorem dX8_weight_120 : decode cX8_weight 120 = .ok (.ifCond .ne 8, 3) := by decide +kernel
theorem dX8_weight_123 : decode cX8_weight 123 = .ok (.lload 4, 2) := by decide +kernel
theorem dX8_weight_125 : decode cX8_weight 125 = .ok (.goto 5, 3) := by decide +kernel
theorem dX8_weight_128 : decode cX8_weight 128 = .ok (.lload 6, 2) := by decide +kernel
theorem dX8_weight_130 : decode cX8_weight 130 = .ok (.lreturn, 1) := by decide +kernel
end
section
theorem dX8_deep_0 : decode cX8_deep 0 = .ok (.iload_n 1, 1) := by decide +kernel
theorem dX8_deep_1 : decode cX8_deep 1 = .ok (.i2l, 1) := by decide +kernel
theorem dX8_deep_2 : decode cX8_deep 2 = .ok (.lconst 1, 1) := by decide +kernel
theorem dX8_deep_3 : decode cX8_deep 3 = .ok (.ldc2_w 209, 3) := by decide +kernel
theorem dX8_deep_6 : decode cX8_deep 6 = .ok (.invokestatic 54, 3) := by decide +kernel
theorem dX8_deep_9 : decode cX8_deep 9 = .ok (.ifCond .eq 15, 3) := by decide +kernel
theorem dX8_deep_12 : decode cX8_deep 12 = .ok (.iload_n 2, 1) := by decide +kernel
theorem dX8_deep_13 : decode cX8_deep 13 = .ok (.i2l, 1) := by decide +kernel
theorem dX8_deep_14 : decode cX8_deep 14 = .ok (.lconst 1, 1) := by decide +kernel
theorem dX8_deep_15 : decode cX8_deep 15 = .ok (.ldc2_w 226, 3) := by decide +kernel
theorem dX8_deep_18 : decode cX8_deep 18 = .ok (.invokestatic 54, 3) := by decide +kernel
theorem dX8_deep_21 : decode cX8_deep 21 = .ok (.ifCond .ne 9, 3) := by decide +kernel
theorem dX8_deep_24 : decode cX8_deep 24 = .ok (.aload_n 0, 1) := by decide +kernel
theorem dX8_deep_25 : decode cX8_deep 25 = .ok (.iconst 0, 1) := by decide +kernel
theorem dX8_deep_26 : decode cX8_deep 26 = .ok (.invokevirtual 74, 3) := by decide +kernel
theorem dX8_deep_29 : decode cX8_deep 29 = .ok (.ireturn, 1) := by decide +kernel
theorem dX8_deep_30 : decode cX8_deep 30 = .ok (.iconst 0, 1) := by decide +kernel
theorem dX8_deep_31 : decode cX8_deep 31 = .ok (.istore_n 3, 1) := by decide +kernel
theorem dX8_deep_32 : decode cX8_deep 32 = .ok (.iload_n 3, 1) := by decide +kernel
theorem dX8_deep_33 : decode cX8_deep 33 = .ok (.bipush 62, 2) := by decide +kernel
theorem dX8_deep_35 : decode cX8_deep 35 = .ok (.if_icmp .gt 30, 3) := by decide +kernel
theorem dX8_deep_38 : decode cX8_deep 38 = .ok (.iload_n 1, 1) := by decide +kernel
theorem dX8_deep_39 : decode cX8_deep 39 = .ok (.iload_n 3, 1) := by decide +kernel
theorem dX8_deep_40 : decode cX8_deep 40 = .ok (.invokestatic 214, 3) := by decide +kernel
theorem dX8_deep_43 : decode cX8_deep 43 = .ok (.lconst 0, 1) := by decide +kernel
theorem dX8_deep_44 : decode cX8_deep 44 = .ok (.lcmp, 1) := by decide +kernel
theorem dX8_deep_45 : decode cX8_deep 45 = .ok (.ifCond .lt 20, 3) := by decide +kernel
theorem dX8_deep_48 : decode cX8_deep 48 = .ok (.iload_n 1, 1) := by decide +kernel
theorem dX8_deep_49 : decode cX8_deep 49 = .ok (.iload_n 3, 1) := by decide +kernel
theorem dX8_deep_50 : decode cX8_deep 50 = .ok (.invokestatic 214, 3) := by decide +kernel
theorem dX8_deep_53 : decode cX8_deep 53 = .ok (.iload_n 2, 1) := by decide +kernel
theorem dX8_deep_54 : decode cX8_deep 54 = .ok (.i2l, 1) := by decide +kernel
theorem dX8_deep_55 : decode cX8_deep 55 = .ok (.lcmp, 1) := by decide +kernel
theorem dX8_deep_56 : decode cX8_deep 56 = .ok (.ifCond .ge 9, 3) := by decide +kernel
theorem dX8_deep_59 : decode cX8_deep 59 = .ok (.iinc 3 1, 3) := by decide +kernel
theorem dX8_deep_62 : decode cX8_deep 62 = .ok (.goto (-30), 3) := by decide +kernel
theorem dX8_deep_65 : decode cX8_deep 65 = .ok (.iload_n 3, 1) := by decide +kernel
theorem dX8_deep_66 : decode cX8_deep 66 = .ok (.bipush 62, 2) := by decide +kernel
theorem dX8_deep_68 : decode cX8_deep 68 = .ok (.if_icmp .gt 7, 3) := by decide +kernel
theorem dX8_deep_71 : decode cX8_deep 71 = .ok (.iload_n 3, 1) := by decide +kernel
theorem dX8_deep_72 : decode cX8_deep 72 = .ok (.goto 8, 3) := by decide +kernel
theorem dX8_deep_75 : decode cX8_deep 75 = .ok (.aload_n 0, 1) := by decide +kernel
theorem dX8_deep_76 : decode cX8_deep 76 = .ok (.iconst 3, 1) := by decide +kernel
theorem dX8_deep_77 : decode cX8_deep 77 = .ok (.invokevirtual 74, 3) := by decide +kernel
theorem dX8_deep_80 : decode cX8_deep 80 = .ok (.ireturn, 1) := by decide +kernel
theorem dX8_draw_0 : decode cX8_draw 0 = .ok (.aload_n 0, 1) := by decide +kernel
theorem dX8_draw_1 : decode cX8_draw 1 = .ok (.getfield 9, 3) := by decide +kernel
theorem dX8_draw_4 : decode cX8_draw 4 = .ok (.bipush 16, 2) := by decide +kernel
theorem dX8_draw_6 : decode cX8_draw 6 = .ok (.aload_n 0, 1) := by decide +kernel
theorem dX8_draw_7 : decode cX8_draw 7 = .ok (.getfield 9, 3) := by decide +kernel
theorem dX8_draw_10 : decode cX8_draw 10 = .ok (.bipush 16, 2) := by decide +kernel
theorem dX8_draw_12 : decode cX8_draw 12 = .ok (.iaload, 1) := by decide +kernel
theorem dX8_draw_13 : decode cX8_draw 13 = .ok (.ldc 228, 2) := by decide +kernel
theorem dX8_draw_15 : decode cX8_draw 15 = .ok (.imul, 1) := by decide +kernel
theorem dX8_draw_16 : decode cX8_draw 16 = .ok (.sipush 12345, 3) := by decide +kernel
theorem dX8_draw_19 : decode cX8_draw 19 = .ok (.iadd, 1) := by decide +kernel
theorem dX8_draw_20 : decode cX8_draw 20 = .ok (.iastore, 1) := by decide +kernel
theorem dX8_draw_21 : decode cX8_draw 21 = .ok (.aload_n 0, 1) := by decide +kernel
theorem dX8_draw_22 : decode cX8_draw 22 = .ok (.getfield 9, 3) := by decide +kernel
theorem dX8_draw_25 : decode cX8_draw 25 = .ok (.bipush 16, 2) := by decide +kernel
theorem dX8_draw_27 : decode cX8_draw 27 = .ok (.iaload, 1) := by decide +kernel
theorem dX8_draw_28 : decode cX8_draw 28 = .ok (.bipush 8, 2) := by decide +kernel
theorem dX8_draw_30 : decode cX8_draw 30 = .ok (.iushr, 1) := by decide +kernel
theorem dX8_draw_31 : decode cX8_draw 31 = .ok (.ireturn, 1) := by decide +kernel
theorem dX8_dayOf_0 : decode cX8_dayOf 0 = .ok (.aload_n 0, 1) := by decide +kernel
theorem dX8_dayOf_1 : decode cX8_dayOf 1 = .ok (.invokevirtual 229, 3) := by decide +kernel
theorem dX8_dayOf_4 : decode cX8_dayOf 4 = .ok (.bipush 8, 2) := by decide +kernel
theorem dX8_dayOf_6 : decode cX8_dayOf 6 = .ok (.irem, 1) := by decide +kernel
theorem dX8_dayOf_7 : decode cX8_dayOf 7 = .ok (.istore_n 2, 1) := by decide +kernel
theorem dX8_dayOf_8 : decode cX8_dayOf 8 = .ok (.aload_n 0, 1) := by decide +kernel
theorem dX8_dayOf_9 : decode cX8_dayOf 9 = .ok (.iload_n 1, 1) := by decide +kernel
theorem dX8_dayOf_10 : decode cX8_dayOf 10 = .ok (.iload_n 2, 1) := by decide +kernel
theorem dX8_dayOf_11 : decode cX8_dayOf 11 = .ok (.invokevirtual 112, 3) := by decide +kernel
theorem dX8_dayOf_14 : decode cX8_dayOf 14 = .ok (.ifCond .eq 14, 3) := by decide +kernel
theorem dX8_dayOf_17 : decode cX8_dayOf 17 = .ok (.aload_n 0, 1) := by decide +kernel
theorem dX8_dayOf_18 : decode cX8_dayOf 18 = .ok (.iload_n 1, 1) := by decide +kernel
theorem dX8_dayOf_19 : decode cX8_dayOf 19 = .ok (.aload_n 0, 1) := by decide +kernel
theorem dX8_dayOf_20 : decode cX8_dayOf 20 = .ok (.iload_n 1, 1) := by decide +kernel
theorem dX8_dayOf_21 : decode cX8_dayOf 21 = .ok (.invokevirtual 115, 3) := by decide +kernel
theorem dX8_dayOf_24 : decode cX8_dayOf 24 = .ok (.iload_n 2, 1) := by decide +kernel
theorem dX8_dayOf_25 : decode cX8_dayOf 25 = .ok (.invokevirtual 118, 3) := by decide +kernel
theorem dX8_dayOf_28 : decode cX8_dayOf 28 = .ok (.aload_n 0, 1) := by decide +kernel
theorem dX8_dayOf_29 : decode cX8_dayOf 29 = .ok (.getfield 9, 3) := by decide +kernel
theorem dX8_dayOf_32 : decode cX8_dayOf 32 = .ok (.bipush 11, 2) := by decide +kernel
theorem dX8_dayOf_34 : decode cX8_dayOf 34 = .ok (.iaload, 1) := by decide +kernel
theorem dX8_dayOf_35 : decode cX8_dayOf 35 = .ok (.ifCond .eq 11, 3) := by decide +kernel
theorem dX8_dayOf_38 : decode cX8_dayOf 38 = .ok (.aload_n 0, 1) := by decide +kernel
theorem dX8_dayOf_39 : decode cX8_dayOf 39 = .ok (.iload_n 1, 1) := by decide +kernel
theorem dX8_dayOf_40 : decode cX8_dayOf 40 = .ok (.invokevirtual 121, 3) := by decide +kernel
theorem dX8_dayOf_43 : decode cX8_dayOf 43 = .ok (.ifCond .ne 4, 3) := by decide +kernel
theorem dX8_dayOf_46 : decode cX8_dayOf 46 = .ok (.return_, 1) := by decide +kernel
theorem dX8_dayOf_47 : decode cX8_dayOf 47 = .ok (.aload_n 0, 1) := by decide +kernel
theorem dX8_dayOf_48 : decode cX8_dayOf 48 = .ok (.invokevirtual 229, 3) := by decide +kernel
theorem dX8_dayOf_51 : decode cX8_dayOf 51 = .ok (.aload_n 0, 1) := by decide +kernel
theorem dX8_dayOf_52 : decode cX8_dayOf 52 = .ok (.getfield 9, 3) := by decide +kernel
theorem dX8_dayOf_55 : decode cX8_dayOf 55 = .ok (.bipush 11, 2) := by decide +kernel
theorem dX8_dayOf_57 : decode cX8_dayOf 57 = .ok (.iaload, 1) := by decide +kernel
theorem dX8_dayOf_58 : decode cX8_dayOf 58 = .ok (.irem, 1) := by decide +kernel
theorem dX8_dayOf_59 : decode cX8_dayOf 59 = .ok (.istore_n 3, 1) := by decide +kernel
theorem dX8_dayOf_60 : decode cX8_dayOf 60 = .ok (.aload_n 0, 1) := by decide +kernel
theorem dX8_dayOf_61 : decode cX8_dayOf 61 = .ok (.invokevirtual 229, 3) := by decide +kernel
theorem dX8_dayOf_64 : decode cX8_dayOf 64 = .ok (.bipush 8, 2) := by decide +kernel
theorem dX8_dayOf_66 : decode cX8_dayOf 66 = .ok (.irem, 1) := by decide +kernel
theorem dX8_dayOf_67 : decode cX8_dayOf 67 = .ok (.istore 4, 2) := by decide +kernel
theorem dX8_dayOf_69 : decode cX8_dayOf 69 = .ok (.aload_n 0, 1) := by decide +kernel
theorem dX8_dayOf_70 : decode cX8_dayOf 70 = .ok (.invokevirtual 229, 3) := by decide +kernel
theorem dX8_dayOf_73 : decode cX8_dayOf 73 = .ok (.bipush 100, 2) := by decide +kernel
theorem dX8_dayOf_75 : decode cX8_dayOf 75 = .ok (.irem, 1) := by decide +kernel
theorem dX8_dayOf_76 : decode cX8_dayOf 76 = .ok (.aload_n 0, 1) := by decide +kernel
theorem dX8_dayOf_77 : decode cX8_dayOf 77 = .ok (.getfield 9, 3) := by decide +kernel
theorem dX8_dayOf_80 : decode cX8_dayOf 80 = .ok (.bipush 10, 2) := by decide +kernel
theorem dX8_dayOf_82 : decode cX8_dayOf 82 = .ok (.iaload, 1) := by decide +kernel
theorem dX8_dayOf_83 : decode cX8_dayOf 83 = .ok (.if_icmp .ge 13, 3) := by decide +kernel
theorem dX8_dayOf_86 : decode cX8_dayOf 86 = .ok (.iload 4, 2) := by decide +kernel
theorem dX8_dayOf_88 : decode cX8_dayOf 88 = .ok (.iconst 1, 1) := by decide +kernel
theorem dX8_dayOf_89 : decode cX8_dayOf 89 = .ok (.iadd, 1) := by decide +kernel
theorem dX8_dayOf_90 : decode cX8_dayOf 90 = .ok (.bipush 8, 2) := by decide +kernel
theorem dX8_dayOf_92 : decode cX8_dayOf 92 = .ok (.irem, 1) := by decide +kernel
theorem dX8_dayOf_93 : decode cX8_dayOf 93 = .ok (.goto 5, 3) := by decide +kernel
theorem dX8_dayOf_96 : decode cX8_dayOf 96 = .ok (.iload 4, 2) := by decide +kernel
theorem dX8_dayOf_98 : decode cX8_dayOf 98 = .ok (.istore 4, 2) := by decide +kernel
theorem dX8_dayOf_100 : decode cX8_dayOf 100 = .ok (.aload_n 0, 1) := by decide +kernel
theorem dX8_dayOf_101 : decode cX8_dayOf 101 = .ok (.iload_n 1, 1) := by decide +kernel
theorem dX8_dayOf_102 : decode cX8_dayOf 102 = .ok (.iload_n 3, 1) := by decide +kernel
theorem dX8_dayOf_103 : decode cX8_dayOf 103 = .ok (.iload 4, 2) := by decide +kernel
theorem dX8_dayOf_105 : decode cX8_dayOf 105 = .ok (.invokevirtual 140, 3) := by decide +kernel
theorem dX8_dayOf_108 : decode cX8_dayOf 108 = .ok (.ifCond .eq 20, 3) := by decide +kernel
theorem dX8_dayOf_111 : decode cX8_dayOf 111 = .ok (.aload_n 0, 1) := by decide +kernel
theorem dX8_dayOf_112 : decode cX8_dayOf 112 = .ok (.iload_n 1, 1) := by decide +kernel
theorem dX8_dayOf_113 : decode cX8_dayOf 113 = .ok (.iload_n 3, 1) := by decide +kernel
theorem dX8_dayOf_114 : decode cX8_dayOf 114 = .ok (.iload 4, 2) := by decide +kernel
theorem dX8_dayOf_116 : decode cX8_dayOf 116 = .ok (.aload_n 0, 1) := by decide +kernel
theorem dX8_dayOf_117 : decode cX8_dayOf 117 = .ok (.iload 4, 2) := by decide +kernel
theorem dX8_dayOf_119 : decode cX8_dayOf 119 = .ok (.iconst (-1), 1) := by decide +kernel
theorem dX8_dayOf_120 : decode cX8_dayOf 120 = .ok (.invokevirtual 133, 3) := by decide +kernel
theorem dX8_dayOf_123 : decode cX8_dayOf 123 = .ok (.invokevirtual 136, 3) := by decide +kernel
theorem dX8_dayOf_126 : decode cX8_dayOf 126 = .ok (.istore 5, 2) := by decide +kernel
theorem dX8_dayOf_128 : decode cX8_dayOf 128 = .ok (.return_, 1) := by decide +kernel
theorem dX8_aDay_0 : decode cX8_aDay 0 = .ok (.iconst 0, 1) := by decide +kernel
theorem dX8_aDay_1 : decode cX8_aDay 1 = .ok (.istore_n 1, 1) := by decide +kernel
theorem dX8_aDay_2 : decode cX8_aDay 2 = .ok (.iload_n 1, 1) := by decide +kernel
theorem dX8_aDay_3 : decode cX8_aDay 3 = .ok (.aload_n 0, 1) := by decide +kernel
theorem dX8_aDay_4 : decode cX8_aDay 4 = .ok (.getfield 9, 3) := by decide +kernel
theorem dX8_aDay_7 : decode cX8_aDay 7 = .ok (.bipush 12, 2) := by decide +kernel
theorem dX8_aDay_9 : decode cX8_aDay 9 = .ok (.iaload, 1) := by decide +kernel
theorem dX8_aDay_10 : decode cX8_aDay 10 = .ok (.if_icmp .ge 14, 3) := by decide +kernel
theorem dX8_aDay_13 : decode cX8_aDay 13 = .ok (.aload_n 0, 1) := by decide +kernel
theorem dX8_aDay_14 : decode cX8_aDay 14 = .ok (.iload_n 1, 1) := by decide +kernel
theorem dX8_aDay_15 : decode cX8_aDay 15 = .ok (.invokevirtual 233, 3) := by decide +kernel
theorem dX8_aDay_18 : decode cX8_aDay 18 = .ok (.iinc 1 1, 3) := by decide +kernel
theorem dX8_aDay_21 : decode cX8_aDay 21 = .ok (.goto (-19), 3) := by decide +kernel
theorem dX8_aDay_24 : decode cX8_aDay 24 = .ok (.aload_n 0, 1) := by decide +kernel
theorem dX8_aDay_25 : decode cX8_aDay 25 = .ok (.getfield 9, 3) := by decide +kernel
theorem dX8_aDay_28 : decode cX8_aDay 28 = .ok (.bipush 15, 2) := by decide +kernel
theorem dX8_aDay_30 : decode cX8_aDay 30 = .ok (.dup2, 1) := by decide +kernel
theorem dX8_aDay_31 : decode cX8_aDay 31 = .ok (.iaload, 1) := by decide +kernel
theorem dX8_aDay_32 : decode cX8_aDay 32 = .ok (.iconst 1, 1) := by decide +kernel
theorem dX8_aDay_33 : decode cX8_aDay 33 = .ok (.iadd, 1) := by decide +kernel
theorem dX8_aDay_34 : decode cX8_aDay 34 = .ok (.iastore, 1) := by decide +kernel
theorem dX8_aDay_35 : decode cX8_aDay 35 = .ok (.return_, 1) := by decide +kernel
theorem dX8_daysGo_0 : decode cX8_daysGo 0 = .ok (.aload_n 0, 1) := by decide +kernel
theorem dX8_daysGo_1 : decode cX8_daysGo 1 = .ok (.getfield 9, 3) := by decide +kernel
theorem dX8_daysGo_4 : decode cX8_daysGo 4 = .ok (.bipush 14, 2) := by decide +kernel
theorem dX8_daysGo_6 : decode cX8_daysGo 6 = .ok (.iaload, 1) := by decide +kernel
theorem dX8_daysGo_7 : decode cX8_daysGo 7 = .ok (.istore_n 2, 1) := by decide +kernel
theorem dX8_daysGo_8 : decode cX8_daysGo 8 = .ok (.iconst 0, 1) := by decide +kernel
theorem dX8_daysGo_9 : decode cX8_daysGo 9 = .ok (.istore_n 3, 1) := by decide +kernel
theorem dX8_daysGo_10 : decode cX8_daysGo 10 = .ok (.iload_n 3, 1) := by decide +kernel
theorem dX8_daysGo_11 : decode cX8_daysGo 11 = .ok (.iload_n 1, 1) := by decide +kernel
theorem dX8_daysGo_12 : decode cX8_daysGo 12 = .ok (.if_icmp .ge 13, 3) := by decide +kernel
theorem dX8_daysGo_15 : decode cX8_daysGo 15 = .ok (.aload_n 0, 1) := by decide +kernel
theorem dX8_daysGo_16 : decode cX8_daysGo 16 = .ok (.invokevirtual 237, 3) := by decide +kernel
theorem dX8_daysGo_19 : decode cX8_daysGo 19 = .ok (.iinc 3 1, 3) := by decide +kernel
theorem dX8_daysGo_22 : decode cX8_daysGo 22 = .ok (.goto (-12), 3) := by decide +kernel
theorem dX8_daysGo_25 : decode cX8_daysGo 25 = .ok (.aload_n 0, 1) := by decide +kernel
theorem dX8_daysGo_26 : decode cX8_daysGo 26 = .ok (.getfield 9, 3) := by decide +kernel
theorem dX8_daysGo_29 : decode cX8_daysGo 29 = .ok (.bipush 14, 2) := by decide +kernel
theorem dX8_daysGo_31 : decode cX8_daysGo 31 = .ok (.iaload, 1) := by decide +kernel
theorem dX8_daysGo_32 : decode cX8_daysGo 32 = .ok (.iload_n 2, 1) := by decide +kernel
theorem dX8_daysGo_33 : decode cX8_daysGo 33 = .ok (.isub, 1) := by decide +kernel
theorem dX8_daysGo_34 : decode cX8_daysGo 34 = .ok (.ireturn, 1) := by decide +kernel
theorem dX8_days_0 : decode cX8_days 0 = .ok (.iload_n 1, 1) := by decide +kernel
theorem dX8_days_1 : decode cX8_days 1 = .ok (.i2l, 1) := by decide +kernel
theorem dX8_days_2 : decode cX8_days 2 = .ok (.lconst 1, 1) := by decide +kernel
theorem dX8_days_3 : decode cX8_days 3 = .ok (.ldc2_w 97, 3) := by decide +kernel
theorem dX8_days_6 : decode cX8_days 6 = .ok (.invokestatic 54, 3) := by decide +kernel
theorem dX8_days_9 : decode cX8_days 9 = .ok (.ifCond .ne 9, 3) := by decide +kernel
theorem dX8_days_12 : decode cX8_days 12 = .ok (.aload_n 0, 1) := by decide +kernel
theorem dX8_days_13 : decode cX8_days 13 = .ok (.iconst 0, 1) := by decide +kernel
theorem dX8_days_14 : decode cX8_days 14 = .ok (.invokevirtual 74, 3) := by decide +kernel
theorem dX8_days_17 : decode cX8_days 17 = .ok (.ireturn, 1) := by decide +kernel
theorem dX8_days_18 : decode cX8_days 18 = .ok (.aload_n 0, 1) := by decide +kernel
theorem dX8_days_19 : decode cX8_days 19 = .ok (.getfield 9, 3) := by decide +kernel
theorem dX8_days_22 : decode cX8_days 22 = .ok (.bipush 15, 2) := by decide +kernel
theorem dX8_days_24 : decode cX8_days 24 = .ok (.iaload, 1) := by decide +kernel
theorem dX8_days_25 : decode cX8_days 25 = .ok (.iload_n 1, 1) := by decide +kernel
theorem dX8_days_26 : decode cX8_days 26 = .ok (.iadd, 1) := by decide +kernel
theorem dX8_days_27 : decode cX8_days 27 = .ok (.sipush 9999, 3) := by decide +kernel
theorem dX8_days_30 : decode cX8_days 30 = .ok (.if_icmp .le 11, 3) := by decide +kernel
theorem dX8_days_33 : decode cX8_days 33 = .ok (.aload_n 0, 1) := by decide +kernel
theorem dX8_days_34 : decode cX8_days 34 = .ok (.iconst 4, 1) := by decide +kernel
theorem dX8_days_35 : decode cX8_days 35 = .ok (.invokevirtual 74, 3) := by decide +kernel
theorem dX8_days_38 : decode cX8_days 38 = .ok (.goto 8, 3) := by decide +kernel
theorem dX8_days_41 : decode cX8_days 41 = .ok (.aload_n 0, 1) := by decide +kernel
theorem dX8_days_42 : decode cX8_days 42 = .ok (.iload_n 1, 1) := by decide +kernel
theorem dX8_days_43 : decode cX8_days 43 = .ok (.invokevirtual 240, 3) := by decide +kernel
theorem dX8_days_46 : decode cX8_days 46 = .ok (.ireturn, 1) := by decide +kernel
theorem dX8_ahead_0 : decode cX8_ahead 0 = .ok (.iload_n 1, 1) := by decide +kernel
theorem dX8_ahead_1 : decode cX8_ahead 1 = .ok (.i2l, 1) := by decide +kernel
theorem dX8_ahead_2 : decode cX8_ahead 2 = .ok (.lconst 0, 1) := by decide +kernel
theorem dX8_ahead_3 : decode cX8_ahead 3 = .ok (.ldc2_w 97, 3) := by decide +kernel
theorem dX8_ahead_6 : decode cX8_ahead 6 = .ok (.invokestatic 54, 3) := by decide +kernel
theorem dX8_ahead_9 : decode cX8_ahead 9 = .ok (.ifCond .eq 17, 3) := by decide +kernel
theorem dX8_ahead_12 : decode cX8_ahead 12 = .ok (.iload_n 2, 1) := by decide +kernel
theorem dX8_ahead_13 : decode cX8_ahead 13 = .ok (.ifCond .eq 19, 3) := by decide +kernel
theorem dX8_ahead_16 : decode cX8_ahead 16 = .ok (.aload_n 0, 1) := by decide +kernel
theorem dX8_ahead_17 : decode cX8_ahead 17 = .ok (.iload_n 2, 1) := by decide +kernel
theorem dX8_ahead_18 : decode cX8_ahead 18 = .ok (.iconst 1, 1) := by decide +kernel
theorem dX8_ahead_19 : decode cX8_ahead 19 = .ok (.isub, 1) := by decide +kernel
theorem dX8_ahead_20 : decode cX8_ahead 20 = .ok (.invokevirtual 90, 3) := by decide +kernel
theorem dX8_ahead_23 : decode cX8_ahead 23 = .ok (.ifCond .ne 9, 3) := by decide +kernel
theorem dX8_ahead_26 : decode cX8_ahead 26 = .ok (.aload_n 0, 1) := by decide +kernel
theorem dX8_ahead_27 : decode cX8_ahead 27 = .ok (.iconst 0, 1) := by decide +kernel
theorem dX8_ahead_28 : decode cX8_ahead 28 = .ok (.invokevirtual 74, 3) := by decide +kernel
theorem dX8_ahead_31 : decode cX8_ahead 31 = .ok (.ireturn, 1) := by decide +kernel
theorem dX8_ahead_32 : decode cX8_ahead 32 = .ok (.aload_n 0, 1) := by decide +kernel
theorem dX8_ahead_33 : decode cX8_ahead 33 = .ok (.getfield 9, 3) := by decide +kernel
theorem dX8_ahead_36 : decode cX8_ahead 36 = .ok (.bipush 15, 2) := by decide +kernel
theorem dX8_ahead_38 : decode cX8_ahead 38 = .ok (.iaload, 1) := by decide +kernel
theorem dX8_ahead_39 : decode cX8_ahead 39 = .ok (.iload_n 1, 1) := by decide +kernel
theorem dX8_ahead_40 : decode cX8_ahead 40 = .ok (.iadd, 1) := by decide +kernel
theorem dX8_ahead_41 : decode cX8_ahead 41 = .ok (.sipush 9999, 3) := by decide +kernel
theorem dX8_ahead_44 : decode cX8_ahead 44 = .ok (.if_icmp .le 9, 3) := by decide +kernel
theorem dX8_ahead_47 : decode cX8_ahead 47 = .ok (.aload_n 0, 1) := by decide +kernel
theorem dX8_ahead_48 : decode cX8_ahead 48 = .ok (.iconst 4, 1) := by decide +kernel
theorem dX8_ahead_49 : decode cX8_ahead 49 = .ok (.invokevirtual 74, 3) := by decide +kernel
theorem dX8_ahead_52 : decode cX8_ahead 52 = .ok (.ireturn, 1) := by decide +kernel
theorem dX8_ahead_53 : decode cX8_ahead 53 = .ok (.aload_n 0, 1) := by decide +kernel
theorem dX8_ahead_54 : decode cX8_ahead 54 = .ok (.invokevirtual 196, 3) := by decide +kernel
theorem dX8_ahead_57 : decode cX8_ahead 57 = .ok (.aload_n 0, 1) := by decide +kernel
theorem dX8_ahead_58 : decode cX8_ahead 58 = .ok (.iload_n 1, 1) := by decide +kernel
theorem dX8_ahead_59 : decode cX8_ahead 59 = .ok (.invokevirtual 240, 3) := by decide +kernel
theorem dX8_ahead_62 : decode cX8_ahead 62 = .ok (.istore_n 3, 1) := by decide +kernel
theorem dX8_ahead_63 : decode cX8_ahead 63 = .ok (.iload_n 2, 1) := by decide +kernel
theorem dX8_ahead_64 : decode cX8_ahead 64 = .ok (.ifCond .ne 7, 3) := by decide +kernel
theorem dX8_ahead_67 : decode cX8_ahead 67 = .ok (.iload_n 3, 1) := by decide +kernel
theorem dX8_ahead_68 : decode cX8_ahead 68 = .ok (.goto 14, 3) := by decide +kernel
theorem dX8_ahead_71 : decode cX8_ahead 71 = .ok (.aload_n 0, 1) := by decide +kernel
theorem dX8_ahead_72 : decode cX8_ahead 72 = .ok (.getfield 9, 3) := by decide +kernel
theorem dX8_ahead_75 : decode cX8_ahead 75 = .ok (.bipush 36, 2) := by decide +kernel
theorem dX8_ahead_77 : decode cX8_ahead 77 = .ok (.iload_n 2, 1) := by decide +kernel
theorem dX8_ahead_78 : decode cX8_ahead 78 = .ok (.iadd, 1) := by decide +kernel
theorem dX8_ahead_79 : decode cX8_ahead 79 = .ok (.iconst 1, 1) := by decide +kernel
theorem dX8_ahead_80 : decode cX8_ahead 80 = .ok (.isub, 1) := by decide +kernel
theorem dX8_ahead_81 : decode cX8_ahead 81 = .ok (.iaload, 1) := by decide +kernel
theorem dX8_ahead_82 : decode cX8_ahead 82 = .ok (.istore 4, 2) := by decide +kernel
theorem dX8_ahead_84 : decode cX8_ahead 84 = .ok (.aload_n 0, 1) := by decide +kernel
theorem dX8_ahead_85 : decode cX8_ahead 85 = .ok (.invokevirtual 202, 3) := by decide +kernel
theorem dX8_ahead_88 : decode cX8_ahead 88 = .ok (.iload 4, 2) := by decide +kernel
theorem dX8_ahead_90 : decode cX8_ahead 90 = .ok (.ireturn, 1) := by decide +kernel
theorem dX8_when_0 : decode cX8_when 0 = .ok (.aload_n 0, 1) := by decide +kernel
theorem dX8_when_1 : decode cX8_when 1 = .ok (.iload_n 1, 1) := by decide +kernel
theorem dX8_when_2 : decode cX8_when 2 = .ok (.invokevirtual 90, 3) := by decide +kernel
theorem dX8_when_5 : decode cX8_when 5 = .ok (.ifCond .eq 10, 3) := by decide +kernel
theorem dX8_when_8 : decode cX8_when 8 = .ok (.iload_n 2, 1) := by decide +kernel
theorem dX8_when_9 : decode cX8_when 9 = .ok (.invokestatic 70, 3) := by decide +kernel
theorem dX8_when_12 : decode cX8_when 12 = .ok (.ifCond .ne 9, 3) := by decide +kernel
theorem dX8_when_15 : decode cX8_when 15 = .ok (.aload_n 0, 1) := by decide +kernel
theorem dX8_when_16 : decode cX8_when 16 = .ok (.iconst 0, 1) := by decide +kernel
theorem dX8_when_17 : decode cX8_when 17 = .ok (.invokevirtual 74, 3) := by decide +kernel
theorem dX8_when_20 : decode cX8_when 20 = .ok (.ireturn, 1) := by decide +kernel
theorem dX8_when_21 : decode cX8_when 21 = .ok (.aload_n 0, 1) := by decide +kernel
theorem dX8_when_22 : decode cX8_when 22 = .ok (.getfield 9, 3) := by decide +kernel
theorem dX8_when_25 : decode cX8_when 25 = .ok (.bipush 15, 2) := by decide +kernel
theorem dX8_when_27 : decode cX8_when 27 = .ok (.iaload, 1) := by decide +kernel
theorem dX8_when_28 : decode cX8_when 28 = .ok (.sipush 9939, 3) := by decide +kernel
theorem dX8_when_31 : decode cX8_when 31 = .ok (.if_icmp .le 9, 3) := by decide +kernel
theorem dX8_when_34 : decode cX8_when 34 = .ok (.aload_n 0, 1) := by decide +kernel
theorem dX8_when_35 : decode cX8_when 35 = .ok (.iconst 4, 1) := by decide +kernel
theorem dX8_when_36 : decode cX8_when 36 = .ok (.invokevirtual 74, 3) := by decide +kernel
theorem dX8_when_39 : decode cX8_when 39 = .ok (.ireturn, 1) := by decide +kernel
theorem dX8_when_40 : decode cX8_when 40 = .ok (.aload_n 0, 1) := by decide +kernel
theorem dX8_when_41 : decode cX8_when 41 = .ok (.invokevirtual 196, 3) := by decide +kernel
theorem dX8_when_44 : decode cX8_when 44 = .ok (.iconst 0, 1) := by decide +kernel
theorem dX8_when_45 : decode cX8_when 45 = .ok (.istore_n 3, 1) := by decide +kernel
theorem dX8_when_46 : decode cX8_when 46 = .ok (.iload_n 3, 1) := by decide +kernel
theorem dX8_when_47 : decode cX8_when 47 = .ok (.bipush 60, 2) := by decide +kernel
theorem dX8_when_49 : decode cX8_when 49 = .ok (.if_icmp .gt 26, 3) := by decide +kernel
theorem dX8_when_52 : decode cX8_when 52 = .ok (.aload_n 0, 1) := by decide +kernel
theorem dX8_when_53 : decode cX8_when 53 = .ok (.getfield 9, 3) := by decide +kernel
theorem dX8_when_56 : decode cX8_when 56 = .ok (.bipush 36, 2) := by decide +kernel
theorem dX8_when_58 : decode cX8_when 58 = .ok (.iload_n 1, 1) := by decide +kernel
theorem dX8_when_59 : decode cX8_when 59 = .ok (.iadd, 1) := by decide +kernel
theorem dX8_when_60 : decode cX8_when 60 = .ok (.iaload, 1) := by decide +kernel
theorem dX8_when_61 : decode cX8_when 61 = .ok (.iload_n 2, 1) := by decide +kernel
theorem dX8_when_62 : decode cX8_when 62 = .ok (.if_icmp .eq 13, 3) := by decide +kernel
theorem dX8_when_65 : decode cX8_when 65 = .ok (.aload_n 0, 1) := by decide +kernel
theorem dX8_when_66 : decode cX8_when 66 = .ok (.invokevirtual 237, 3) := by decide +kernel
theorem dX8_when_69 : decode cX8_when 69 = .ok (.iinc 3 1, 3) := by decide +kernel
theorem dX8_when_72 : decode cX8_when 72 = .ok (.goto (-26), 3) := by decide +kernel
theorem dX8_when_75 : decode cX8_when 75 = .ok (.aload_n 0, 1) := by decide +kernel
theorem dX8_when_76 : decode cX8_when 76 = .ok (.invokevirtual 202, 3) := by decide +kernel
theorem dX8_when_79 : decode cX8_when 79 = .ok (.iload_n 3, 1) := by decide +kernel
theorem dX8_when_80 : decode cX8_when 80 = .ok (.bipush 60, 2) := by decide +kernel
theorem dX8_when_82 : decode cX8_when 82 = .ok (.if_icmp .gt 7, 3) := by decide +kernel
theorem dX8_when_85 : decode cX8_when 85 = .ok (.iload_n 3, 1) := by decide +kernel
theorem dX8_when_86 : decode cX8_when 86 = .ok (.goto 8, 3) := by decide +kernel
theorem dX8_when_89 : decode cX8_when 89 = .ok (.aload_n 0, 1) := by decide +kernel
theorem dX8_when_90 : decode cX8_when 90 = .ok (.iconst 3, 1) := by decide +kernel
theorem dX8_when_91 : decode cX8_when 91 = .ok (.invokevirtual 74, 3) := by decide +kernel
theorem dX8_when_94 : decode cX8_when 94 = .ok (.ireturn, 1) := by decide +kernel
theorem dX8_seed_0 : decode cX8_seed 0 = .ok (.aload_n 0, 1) := by decide +kernel
theorem dX8_seed_1 : decode cX8_seed 1 = .ok (.getfield 9, 3) := by decide +kernel
theorem dX8_seed_4 : decode cX8_seed 4 = .ok (.bipush 16, 2) := by decide +kernel
theorem dX8_seed_6 : decode cX8_seed 6 = .ok (.iaload, 1) := by decide +kernel
theorem dX8_seed_7 : decode cX8_seed 7 = .ok (.istore_n 2, 1) := by decide +kernel
theorem dX8_seed_8 : decode cX8_seed 8 = .ok (.aload_n 0, 1) := by decide +kernel
theorem dX8_seed_9 : decode cX8_seed 9 = .ok (.getfield 9, 3) := by decide +kernel
theorem dX8_seed_12 : decode cX8_seed 12 = .ok (.bipush 16, 2) := by decide +kernel
theorem dX8_seed_14 : decode cX8_seed 14 = .ok (.iload_n 1, 1) := by decide +kernel
theorem dX8_seed_15 : decode cX8_seed 15 = .ok (.iastore, 1) := by decide +kernel
theorem dX8_seed_16 : decode cX8_seed 16 = .ok (.iload_n 2, 1) := by decide +kernel
theorem dX8_seed_17 : decode cX8_seed 17 = .ok (.ireturn, 1) := by decide +kernel
theorem dX8_feed_0 : decode cX8_feed 0 = .ok (.iload_n 2, 1) := by decide +kernel
theorem dX8_feed_1 : decode cX8_feed 1 = .ok (.i2l, 1) := by decide +kernel
theorem dX8_feed_2 : decode cX8_feed 2 = .ok (.lconst 1, 1) := by decide +kernel
theorem dX8_feed_3 : decode cX8_feed 3 = .ok (.ldc2_w 143, 3) := by decide +kernel
theorem dX8_feed_6 : decode cX8_feed 6 = .ok (.invokestatic 54, 3) := by decide +kernel
theorem dX8_feed_9 : decode cX8_feed 9 = .ok (.ifCond .ne 9, 3) := by decide +kernel
theorem dX8_feed_12 : decode cX8_feed 12 = .ok (.aload_n 0, 1) := by decide +kernel
theorem dX8_feed_13 : decode cX8_feed 13 = .ok (.iconst 0, 1) := by decide +kernel
theorem dX8_feed_14 : decode cX8_feed 14 = .ok (.invokevirtual 74, 3) := by decide +kernel
theorem dX8_feed_17 : decode cX8_feed 17 = .ok (.ireturn, 1) := by decide +kernel
theorem dX8_feed_18 : decode cX8_feed 18 = .ok (.aload_n 0, 1) := by decide +kernel
theorem dX8_feed_19 : decode cX8_feed 19 = .ok (.getfield 243, 3) := by decide +kernel
theorem dX8_feed_22 : decode cX8_feed 22 = .ok (.iload_n 2, 1) := by decide +kernel
theorem dX8_feed_23 : decode cX8_feed 23 = .ok (.iadd, 1) := by decide +kernel
theorem dX8_feed_24 : decode cX8_feed 24 = .ok (.bipush 120, 2) := by decide +kernel
theorem dX8_feed_26 : decode cX8_feed 26 = .ok (.if_icmp .le 9, 3) := by decide +kernel
theorem dX8_feed_29 : decode cX8_feed 29 = .ok (.aload_n 0, 1) := by decide +kernel
theorem dX8_feed_30 : decode cX8_feed 30 = .ok (.iconst 1, 1) := by decide +kernel
theorem dX8_feed_31 : decode cX8_feed 31 = .ok (.invokevirtual 74, 3) := by decide +kernel
theorem dX8_feed_34 : decode cX8_feed 34 = .ok (.ireturn, 1) := by decide +kernel
theorem dX8_feed_35 : decode cX8_feed 35 = .ok (.bipush 8, 2) := by decide +kernel
theorem dX8_feed_37 : decode cX8_feed 37 = .ok (.iload_n 2, 1) := by decide +kernel
theorem dX8_feed_38 : decode cX8_feed 38 = .ok (.imul, 1) := by decide +kernel
theorem dX8_feed_39 : decode cX8_feed 39 = .ok (.bipush 8, 2) := by decide +kernel
theorem dX8_feed_41 : decode cX8_feed 41 = .ok (.isub, 1) := by decide +kernel
theorem dX8_feed_42 : decode cX8_feed 42 = .ok (.istore_n 3, 1) := by decide +kernel
theorem dX8_feed_43 : decode cX8_feed 43 = .ok (.iload_n 3, 1) := by decide +kernel
theorem dX8_feed_44 : decode cX8_feed 44 = .ok (.ifCond .lt 35, 3) := by decide +kernel
theorem dX8_feed_47 : decode cX8_feed 47 = .ok (.aload_n 0, 1) := by decide +kernel
theorem dX8_feed_48 : decode cX8_feed 48 = .ok (.getfield 19, 3) := by decide +kernel
theorem dX8_feed_51 : decode cX8_feed 51 = .ok (.aload_n 0, 1) := by decide +kernel
theorem dX8_feed_52 : decode cX8_feed 52 = .ok (.getfield 243, 3) := by decide +kernel
theorem dX8_feed_55 : decode cX8_feed 55 = .ok (.iload_n 1, 1) := by decide +kernel
theorem dX8_feed_56 : decode cX8_feed 56 = .ok (.iload_n 3, 1) := by decide +kernel
theorem dX8_feed_57 : decode cX8_feed 57 = .ok (.ishr, 1) := by decide +kernel
theorem dX8_feed_58 : decode cX8_feed 58 = .ok (.sipush 255, 3) := by decide +kernel
theorem dX8_feed_61 : decode cX8_feed 61 = .ok (.iand, 1) := by decide +kernel
theorem dX8_feed_62 : decode cX8_feed 62 = .ok (.iastore, 1) := by decide +kernel
theorem dX8_feed_63 : decode cX8_feed 63 = .ok (.aload_n 0, 1) := by decide +kernel
theorem dX8_feed_64 : decode cX8_feed 64 = .ok (.dup, 1) := by decide +kernel
theorem dX8_feed_65 : decode cX8_feed 65 = .ok (.getfield 243, 3) := by decide +kernel
theorem dX8_feed_68 : decode cX8_feed 68 = .ok (.iconst 1, 1) := by decide +kernel
theorem dX8_feed_69 : decode cX8_feed 69 = .ok (.iadd, 1) := by decide +kernel
theorem dX8_feed_70 : decode cX8_feed 70 = .ok (.putfield 243, 3) := by decide +kernel
theorem dX8_feed_73 : decode cX8_feed 73 = .ok (.iinc 3 (-8), 3) := by decide +kernel
theorem dX8_feed_76 : decode cX8_feed 76 = .ok (.goto (-33), 3) := by decide +kernel
theorem dX8_feed_79 : decode cX8_feed 79 = .ok (.aload_n 0, 1) := by decide +kernel
theorem dX8_feed_80 : decode cX8_feed 80 = .ok (.getfield 243, 3) := by decide +kernel
theorem dX8_feed_83 : decode cX8_feed 83 = .ok (.ireturn, 1) := by decide +kernel
theorem dX8_wipe_0 : decode cX8_wipe 0 = .ok (.aload_n 0, 1) := by decide +kernel
theorem dX8_wipe_1 : decode cX8_wipe 1 = .ok (.getfield 243, 3) := by decide +kernel
theorem dX8_wipe_4 : decode cX8_wipe 4 = .ok (.istore_n 1, 1) := by decide +kernel
theorem dX8_wipe_5 : decode cX8_wipe 5 = .ok (.aload_n 0, 1) := by decide +kernel
theorem dX8_wipe_6 : decode cX8_wipe 6 = .ok (.iconst 0, 1) := by decide +kernel
theorem dX8_wipe_7 : decode cX8_wipe 7 = .ok (.putfield 243, 3) := by decide +kernel
theorem dX8_wipe_10 : decode cX8_wipe 10 = .ok (.iload_n 1, 1) := by decide +kernel
theorem dX8_wipe_11 : decode cX8_wipe 11 = .ok (.ireturn, 1) := by decide +kernel
theorem dX8_isByte_0 : decode cX8_isByte 0 = .ok (.iload_n 1, 1) := by decide +kernel
theorem dX8_isByte_1 : decode cX8_isByte 1 = .ok (.aload_n 0, 1) := by decide +kernel
theorem dX8_isByte_2 : decode cX8_isByte 2 = .ok (.getfield 243, 3) := by decide +kernel
theorem dX8_isByte_5 : decode cX8_isByte 5 = .ok (.if_icmp .ge 24, 3) := by decide +kernel
theorem dX8_isByte_8 : decode cX8_isByte 8 = .ok (.aload_n 0, 1) := by decide +kernel
theorem dX8_isByte_9 : decode cX8_isByte 9 = .ok (.getfield 19, 3) := by decide +kernel
theorem dX8_isByte_12 : decode cX8_isByte 12 = .ok (.iload_n 1, 1) := by decide +kernel
theorem dX8_isByte_13 : decode cX8_isByte 13 = .ok (.iaload, 1) := by decide +kernel
theorem dX8_isByte_14 : decode cX8_isByte 14 = .ok (.i2l, 1) := by decide +kernel
theorem dX8_isByte_15 : decode cX8_isByte 15 = .ok (.iload_n 2, 1) := by decide +kernel
theorem dX8_isByte_16 : decode cX8_isByte 16 = .ok (.i2l, 1) := by decide +kernel
theorem dX8_isByte_17 : decode cX8_isByte 17 = .ok (.iload_n 3, 1) := by decide +kernel
theorem dX8_isByte_18 : decode cX8_isByte 18 = .ok (.i2l, 1) := by decide +kernel
theorem dX8_isByte_19 : decode cX8_isByte 19 = .ok (.invokestatic 54, 3) := by decide +kernel
theorem dX8_isByte_22 : decode cX8_isByte 22 = .ok (.ifCond .eq 7, 3) := by decide +kernel
theorem dX8_isByte_25 : decode cX8_isByte 25 = .ok (.iconst 1, 1) := by decide +kernel
theorem dX8_isByte_26 : decode cX8_isByte 26 = .ok (.goto 4, 3) := by decide +kernel
theorem dX8_isByte_29 : decode cX8_isByte 29 = .ok (.iconst 0, 1) := by decide +kernel
theorem dX8_isByte_30 : decode cX8_isByte 30 = .ok (.ireturn, 1) := by decide +kernel
theorem dX8_next_0 : decode cX8_next 0 = .ok (.aload_n 0, 1) := by decide +kernel
theorem dX8_next_1 : decode cX8_next 1 = .ok (.aload_n 0, 1) := by decide +kernel
theorem dX8_next_2 : decode cX8_next 2 = .ok (.getfield 246, 3) := by decide +kernel
theorem dX8_next_5 : decode cX8_next 5 = .ok (.putfield 249, 3) := by decide +kernel
theorem dX8_next_8 : decode cX8_next 8 = .ok (.aload_n 0, 1) := by decide +kernel
theorem dX8_next_9 : decode cX8_next 9 = .ok (.aload_n 0, 1) := by decide +kernel
theorem dX8_next_10 : decode cX8_next 10 = .ok (.getfield 249, 3) := by decide +kernel
theorem dX8_next_13 : decode cX8_next 13 = .ok (.bipush 32, 2) := by decide +kernel
theorem dX8_next_15 : decode cX8_next 15 = .ok (.bipush 32, 2) := by decide +kernel
theorem dX8_next_17 : decode cX8_next 17 = .ok (.invokevirtual 252, 3) := by decide +kernel
theorem dX8_next_20 : decode cX8_next 20 = .ok (.ifCond .eq 16, 3) := by decide +kernel
theorem dX8_next_23 : decode cX8_next 23 = .ok (.aload_n 0, 1) := by decide +kernel
theorem dX8_next_24 : decode cX8_next 24 = .ok (.dup, 1) := by decide +kernel
theorem dX8_next_25 : decode cX8_next 25 = .ok (.getfield 249, 3) := by decide +kernel
theorem dX8_next_28 : decode cX8_next 28 = .ok (.iconst 1, 1) := by decide +kernel
theorem dX8_next_29 : decode cX8_next 29 = .ok (.iadd, 1) := by decide +kernel
theorem dX8_next_30 : decode cX8_next 30 = .ok (.putfield 249, 3) := by decide +kernel
theorem dX8_next_33 : decode cX8_next 33 = .ok (.goto (-25), 3) := by decide +kernel
theorem dX8_next_36 : decode cX8_next 36 = .ok (.aload_n 0, 1) := by decide +kernel
theorem dX8_next_37 : decode cX8_next 37 = .ok (.aload_n 0, 1) := by decide +kernel
theorem dX8_next_38 : decode cX8_next 38 = .ok (.getfield 249, 3) := by decide +kernel
theorem dX8_next_41 : decode cX8_next 41 = .ok (.putfield 246, 3) := by decide +kernel
theorem dX8_next_44 : decode cX8_next 44 = .ok (.aload_n 0, 1) := by decide +kernel
theorem dX8_next_45 : decode cX8_next 45 = .ok (.aload_n 0, 1) := by decide +kernel
theorem dX8_next_46 : decode cX8_next 46 = .ok (.getfield 249, 3) := by decide +kernel
theorem dX8_next_49 : decode cX8_next 49 = .ok (.bipush 97, 2) := by decide +kernel
theorem dX8_next_51 : decode cX8_next 51 = .ok (.bipush 122, 2) := by decide +kernel
theorem dX8_next_53 : decode cX8_next 53 = .ok (.invokevirtual 252, 3) := by decide +kernel
theorem dX8_next_56 : decode cX8_next 56 = .ok (.istore_n 1, 1) := by decide +kernel
theorem dX8_next_57 : decode cX8_next 57 = .ok (.aload_n 0, 1) := by decide +kernel
theorem dX8_next_58 : decode cX8_next 58 = .ok (.aload_n 0, 1) := by decide +kernel
theorem dX8_next_59 : decode cX8_next 59 = .ok (.getfield 249, 3) := by decide +kernel
theorem dX8_next_62 : decode cX8_next 62 = .ok (.bipush 48, 2) := by decide +kernel
theorem dX8_next_64 : decode cX8_next 64 = .ok (.bipush 57, 2) := by decide +kernel
theorem dX8_next_66 : decode cX8_next 66 = .ok (.invokevirtual 252, 3) := by decide +kernel
theorem dX8_next_69 : decode cX8_next 69 = .ok (.istore_n 2, 1) := by decide +kernel
theorem dX8_next_70 : decode cX8_next 70 = .ok (.iload_n 1, 1) := by decide +kernel
theorem dX8_next_71 : decode cX8_next 71 = .ok (.ifCond .eq 18, 3) := by decide +kernel
theorem dX8_next_74 : decode cX8_next 74 = .ok (.aload_n 0, 1) := by decide +kernel
theorem dX8_next_75 : decode cX8_next 75 = .ok (.aload_n 0, 1) := by decide +kernel
theorem dX8_next_76 : decode cX8_next 76 = .ok (.getfield 246, 3) := by decide +kernel
theorem dX8_next_79 : decode cX8_next 79 = .ok (.bipush 97, 2) := by decide +kernel
theorem dX8_next_81 : decode cX8_next 81 = .ok (.bipush 122, 2) := by decide +kernel
theorem dX8_next_83 : decode cX8_next 83 = .ok (.invokevirtual 252, 3) := by decide +kernel
theorem dX8_next_86 : decode cX8_next 86 = .ok (.ifCond .ne 22, 3) := by decide +kernel
theorem dX8_next_89 : decode cX8_next 89 = .ok (.iload_n 2, 1) := by decide +kernel
theorem dX8_next_90 : decode cX8_next 90 = .ok (.ifCond .eq 31, 3) := by decide +kernel
theorem dX8_next_93 : decode cX8_next 93 = .ok (.aload_n 0, 1) := by decide +kernel
theorem dX8_next_94 : decode cX8_next 94 = .ok (.aload_n 0, 1) := by decide +kernel
theorem dX8_next_95 : decode cX8_next 95 = .ok (.getfield 246, 3) := by decide +kernel
theorem dX8_next_98 : decode cX8_next 98 = .ok (.bipush 48, 2) := by decide +kernel
theorem dX8_next_100 : decode cX8_next 100 = .ok (.bipush 57, 2) := by decide +kernel
theorem dX8_next_102 : decode cX8_next 102 = .ok (.invokevirtual 252, 3) := by decide +kernel
theorem dX8_next_105 : decode cX8_next 105 = .ok (.ifCond .eq 16, 3) := by decide +kernel
theorem dX8_next_108 : decode cX8_next 108 = .ok (.aload_n 0, 1) := by decide +kernel
theorem dX8_next_109 : decode cX8_next 109 = .ok (.dup, 1) := by decide +kernel
theorem dX8_next_110 : decode cX8_next 110 = .ok (.getfield 246, 3) := by decide +kernel
theorem dX8_next_113 : decode cX8_next 113 = .ok (.iconst 1, 1) := by decide +kernel
theorem dX8_next_114 : decode cX8_next 114 = .ok (.iadd, 1) := by decide +kernel
theorem dX8_next_115 : decode cX8_next 115 = .ok (.putfield 246, 3) := by decide +kernel
theorem dX8_next_118 : decode cX8_next 118 = .ok (.goto (-48), 3) := by decide +kernel
theorem dX8_next_121 : decode cX8_next 121 = .ok (.aload_n 0, 1) := by decide +kernel
theorem dX8_next_122 : decode cX8_next 122 = .ok (.dup, 1) := by decide +kernel
theorem dX8_next_123 : decode cX8_next 123 = .ok (.getfield 246, 3) := by decide +kernel
theorem dX8_next_126 : decode cX8_next 126 = .ok (.iload_n 1, 1) := by decide +kernel
theorem dX8_next_127 : decode cX8_next 127 = .ok (.ifCond .ne 22, 3) := by decide +kernel
theorem dX8_next_130 : decode cX8_next 130 = .ok (.iload_n 2, 1) := by decide +kernel
theorem dX8_next_131 : decode cX8_next 131 = .ok (.ifCond .ne 18, 3) := by decide +kernel
theorem dX8_next_134 : decode cX8_next 134 = .ok (.aload_n 0, 1) := by decide +kernel
theorem dX8_next_135 : decode cX8_next 135 = .ok (.getfield 249, 3) := by decide +kernel
theorem dX8_next_138 : decode cX8_next 138 = .ok (.aload_n 0, 1) := by decide +kernel
theorem dX8_next_139 : decode cX8_next 139 = .ok (.getfield 243, 3) := by decide +kernel
theorem dX8_next_142 : decode cX8_next 142 = .ok (.if_icmp .ge 7, 3) := by decide +kernel
theorem dX8_next_145 : decode cX8_next 145 = .ok (.iconst 1, 1) := by decide +kernel
theorem dX8_next_146 : decode cX8_next 146 = .ok (.goto 4, 3) := by decide +kernel
theorem dX8_next_149 : decode cX8_next 149 = .ok (.iconst 0, 1) := by decide +kernel
theorem dX8_next_150 : decode cX8_next 150 = .ok (.iadd, 1) := by decide +kernel
theorem dX8_next_151 : decode cX8_next 151 = .ok (.putfield 246, 3) := by decide +kernel
theorem dX8_next_154 : decode cX8_next 154 = .ok (.return_, 1) := by decide +kernel
theorem dX8_isWord_0 : decode cX8_isWord 0 = .ok (.aload_n 0, 1) := by decide +kernel
theorem dX8_isWord_1 : decode cX8_isWord 1 = .ok (.getfield 255, 3) := by decide +kernel
theorem dX8_isWord_4 : decode cX8_isWord 4 = .ok (.ifCond .ne 23, 3) := by decide +kernel
theorem dX8_isWord_7 : decode cX8_isWord 7 = .ok (.aload_n 0, 1) := by decide +kernel
theorem dX8_isWord_8 : decode cX8_isWord 8 = .ok (.getfield 246, 3) := by decide +kernel
theorem dX8_isWord_11 : decode cX8_isWord 11 = .ok (.aload_n 0, 1) := by decide +kernel
theorem dX8_isWord_12 : decode cX8_isWord 12 = .ok (.getfield 249, 3) := by decide +kernel
theorem dX8_isWord_15 : decode cX8_isWord 15 = .ok (.isub, 1) := by decide +kernel
theorem dX8_isWord_16 : decode cX8_isWord 16 = .ok (.aload_n 1, 1) := by decide +kernel
theorem dX8_isWord_17 : decode cX8_isWord 17 = .ok (.invokevirtual 259, 3) := by decide +kernel
theorem dX8_isWord_20 : decode cX8_isWord 20 = .ok (.if_icmp .ne 7, 3) := by decide +kernel
theorem dX8_isWord_23 : decode cX8_isWord 23 = .ok (.iconst 1, 1) := by decide +kernel
theorem dX8_isWord_24 : decode cX8_isWord 24 = .ok (.goto 4, 3) := by decide +kernel
theorem dX8_isWord_27 : decode cX8_isWord 27 = .ok (.iconst 0, 1) := by decide +kernel
theorem dX8_isWord_28 : decode cX8_isWord 28 = .ok (.istore_n 2, 1) := by decide +kernel
theorem dX8_isWord_29 : decode cX8_isWord 29 = .ok (.iconst 0, 1) := by decide +kernel
theorem dX8_isWord_30 : decode cX8_isWord 30 = .ok (.istore_n 3, 1) := by decide +kernel
theorem dX8_isWord_31 : decode cX8_isWord 31 = .ok (.iload_n 2, 1) := by decide +kernel
theorem dX8_isWord_32 : decode cX8_isWord 32 = .ok (.ifCond .eq 42, 3) := by decide +kernel
theorem dX8_isWord_35 : decode cX8_isWord 35 = .ok (.iload_n 3, 1) := by decide +kernel
theorem dX8_isWord_36 : decode cX8_isWord 36 = .ok (.aload_n 1, 1) := by decide +kernel
theorem dX8_isWord_37 : decode cX8_isWord 37 = .ok (.invokevirtual 259, 3) := by decide +kernel
theorem dX8_isWord_40 : decode cX8_isWord 40 = .ok (.if_icmp .ge 34, 3) := by decide +kernel
theorem dX8_isWord_43 : decode cX8_isWord 43 = .ok (.aload_n 0, 1) := by decide +kernel
theorem dX8_isWord_44 : decode cX8_isWord 44 = .ok (.getfield 19, 3) := by decide +kernel
theorem dX8_isWord_47 : decode cX8_isWord 47 = .ok (.aload_n 0, 1) := by decide +kernel
theorem dX8_isWord_48 : decode cX8_isWord 48 = .ok (.getfield 249, 3) := by decide +kernel
theorem dX8_isWord_51 : decode cX8_isWord 51 = .ok (.iload_n 3, 1) := by decide +kernel
theorem dX8_isWord_52 : decode cX8_isWord 52 = .ok (.iadd, 1) := by decide +kernel
theorem dX8_isWord_53 : decode cX8_isWord 53 = .ok (.iaload, 1) := by decide +kernel
theorem dX8_isWord_54 : decode cX8_isWord 54 = .ok (.aload_n 1, 1) := by decide +kernel
theorem dX8_isWord_55 : decode cX8_isWord 55 = .ok (.iload_n 3, 1) := by decide +kernel
theorem dX8_isWord_56 : decode cX8_isWord 56 = .ok (.invokevirtual 264, 3) := by decide +kernel
theorem dX8_isWord_59 : decode cX8_isWord 59 = .ok (.if_icmp .ne 7, 3) := by decide +kernel
theorem dX8_isWord_62 : decode cX8_isWord 62 = .ok (.iconst 1, 1) := by decide +kernel
theorem dX8_isWord_63 : decode cX8_isWord 63 = .ok (.goto 4, 3) := by decide +kernel
theorem dX8_isWord_66 : decode cX8_isWord 66 = .ok (.iconst 0, 1) := by decide +kernel
theorem dX8_isWord_67 : decode cX8_isWord 67 = .ok (.istore_n 2, 1) := by decide +kernel
theorem dX8_isWord_68 : decode cX8_isWord 68 = .ok (.iinc 3 1, 3) := by decide +kernel
theorem dX8_isWord_71 : decode cX8_isWord 71 = .ok (.goto (-40), 3) := by decide +kernel
theorem dX8_isWord_74 : decode cX8_isWord 74 = .ok (.iload_n 2, 1) := by decide +kernel
theorem dX8_isWord_75 : decode cX8_isWord 75 = .ok (.ireturn, 1) := by decide +kernel
theorem dX8_takes_0 : decode cX8_takes 0 = .ok (.aload_n 0, 1) := by decide +kernel
theorem dX8_takes_1 : decode cX8_takes 1 = .ok (.aload_n 1, 1) := by decide +kernel
theorem dX8_takes_2 : decode cX8_takes 2 = .ok (.invokevirtual 268, 3) := by decide +kernel
theorem dX8_takes_5 : decode cX8_takes 5 = .ok (.istore_n 2, 1) := by decide +kernel
theorem dX8_takes_6 : decode cX8_takes 6 = .ok (.iload_n 2, 1) := by decide +kernel
theorem dX8_takes_7 : decode cX8_takes 7 = .ok (.ifCond .eq 7, 3) := by decide +kernel
theorem dX8_takes_10 : decode cX8_takes 10 = .ok (.aload_n 0, 1) := by decide +kernel
theorem dX8_takes_11 : decode cX8_takes 11 = .ok (.invokevirtual 272, 3) := by decide +kernel
theorem dX8_takes_14 : decode cX8_takes 14 = .ok (.iload_n 2, 1) := by decide +kernel
theorem dX8_takes_15 : decode cX8_takes 15 = .ok (.ireturn, 1) := by decide +kernel
theorem dX8_numberHere_0 : decode cX8_numberHere 0 = .ok (.aload_n 0, 1) := by decide +kernel
theorem dX8_numberHere_1 : decode cX8_numberHere 1 = .ok (.aload_n 0, 1) := by decide +kernel
theorem dX8_numberHere_2 : decode cX8_numberHere 2 = .ok (.getfield 249, 3) := by decide +kernel
theorem dX8_numberHere_5 : decode cX8_numberHere 5 = .ok (.bipush 48, 2) := by decide +kernel
theorem dX8_numberHere_7 : decode cX8_numberHere 7 = .ok (.bipush 57, 2) := by decide +kernel
theorem dX8_numberHere_9 : decode cX8_numberHere 9 = .ok (.invokevirtual 252, 3) := by decide +kernel
theorem dX8_numberHere_12 : decode cX8_numberHere 12 = .ok (.ifCond .eq 7, 3) := by decide +kernel
theorem dX8_numberHere_15 : decode cX8_numberHere 15 = .ok (.iconst 0, 1) := by decide +kernel
theorem dX8_numberHere_16 : decode cX8_numberHere 16 = .ok (.goto 4, 3) := by decide +kernel
theorem dX8_numberHere_19 : decode cX8_numberHere 19 = .ok (.iconst (-1), 1) := by decide +kernel
theorem dX8_numberHere_20 : decode cX8_numberHere 20 = .ok (.istore_n 1, 1) := by decide +kernel
theorem dX8_numberHere_21 : decode cX8_numberHere 21 = .ok (.aload_n 0, 1) := by decide +kernel
theorem dX8_numberHere_22 : decode cX8_numberHere 22 = .ok (.getfield 249, 3) := by decide +kernel
theorem dX8_numberHere_25 : decode cX8_numberHere 25 = .ok (.istore_n 2, 1) := by decide +kernel
theorem dX8_numberHere_26 : decode cX8_numberHere 26 = .ok (.iload_n 2, 1) := by decide +kernel
theorem dX8_numberHere_27 : decode cX8_numberHere 27 = .ok (.aload_n 0, 1) := by decide +kernel
theorem dX8_numberHere_28 : decode cX8_numberHere 28 = .ok (.getfield 246, 3) := by decide +kernel
theorem dX8_numberHere_31 : decode cX8_numberHere 31 = .ok (.if_icmp .ge 39, 3) := by decide +kernel
theorem dX8_numberHere_34 : decode cX8_numberHere 34 = .ok (.iload_n 1, 1) := by decide +kernel
theorem dX8_numberHere_35 : decode cX8_numberHere 35 = .ok (.ifCond .lt 35, 3) := by decide +kernel
theorem dX8_numberHere_38 : decode cX8_numberHere 38 = .ok (.iload_n 1, 1) := by decide +kernel
theorem dX8_numberHere_39 : decode cX8_numberHere 39 = .ok (.sipush 999, 3) := by decide +kernel
theorem dX8_numberHere_42 : decode cX8_numberHere 42 = .ok (.if_icmp .le 7, 3) := by decide +kernel
theorem dX8_numberHere_45 : decode cX8_numberHere 45 = .ok (.iload_n 1, 1) := by decide +kernel
theorem dX8_numberHere_46 : decode cX8_numberHere 46 = .ok (.goto 17, 3) := by decide +kernel
theorem dX8_numberHere_49 : decode cX8_numberHere 49 = .ok (.bipush 10, 2) := by decide +kernel
theorem dX8_numberHere_51 : decode cX8_numberHere 51 = .ok (.iload_n 1, 1) := by decide +kernel
theorem dX8_numberHere_52 : decode cX8_numberHere 52 = .ok (.imul, 1) := by decide +kernel
theorem dX8_numberHere_53 : decode cX8_numberHere 53 = .ok (.aload_n 0, 1) := by decide +kernel
theorem dX8_numberHere_54 : decode cX8_numberHere 54 = .ok (.getfield 19, 3) := by decide +kernel
theorem dX8_numberHere_57 : decode cX8_numberHere 57 = .ok (.iload_n 2, 1) := by decide +kernel
theorem dX8_numberHere_58 : decode cX8_numberHere 58 = .ok (.iaload, 1) := by decide +kernel
theorem dX8_numberHere_59 : decode cX8_numberHere 59 = .ok (.iadd, 1) := by decide +kernel
theorem dX8_numberHere_60 : decode cX8_numberHere 60 = .ok (.bipush 48, 2) := by decide +kernel
theorem dX8_numberHere_62 : decode cX8_numberHere 62 = .ok (.isub, 1) := by decide +kernel
theorem dX8_numberHere_63 : decode cX8_numberHere 63 = .ok (.istore_n 1, 1) := by decide +kernel
theorem dX8_numberHere_64 : decode cX8_numberHere 64 = .ok (.iinc 2 1, 3) := by decide +kernel
theorem dX8_numberHere_67 : decode cX8_numberHere 67 = .ok (.goto (-41), 3) := by decide +kernel
theorem dX8_numberHere_70 : decode cX8_numberHere 70 = .ok (.iload_n 1, 1) := by decide +kernel
theorem dX8_numberHere_71 : decode cX8_numberHere 71 = .ok (.ireturn, 1) := by decide +kernel
theorem dX8_number_0 : decode cX8_number 0 = .ok (.aload_n 0, 1) := by decide +kernel
theorem dX8_number_1 : decode cX8_number 1 = .ok (.invokevirtual 275, 3) := by decide +kernel
theorem dX8_number_4 : decode cX8_number 4 = .ok (.istore_n 2, 1) := by decide +kernel
theorem dX8_number_5 : decode cX8_number 5 = .ok (.aload_n 0, 1) := by decide +kernel
theorem dX8_number_6 : decode cX8_number 6 = .ok (.aload_n 0, 1) := by decide +kernel
theorem dX8_number_7 : decode cX8_number 7 = .ok (.getfield 255, 3) := by decide +kernel
theorem dX8_number_10 : decode cX8_number 10 = .ok (.ifCond .ne 14, 3) := by decide +kernel
theorem dX8_number_13 : decode cX8_number 13 = .ok (.iload_n 2, 1) := by decide +kernel
theorem dX8_number_14 : decode cX8_number 14 = .ok (.i2l, 1) := by decide +kernel
theorem dX8_number_15 : decode cX8_number 15 = .ok (.lconst 0, 1) := by decide +kernel
theorem dX8_number_16 : decode cX8_number 16 = .ok (.iload_n 1, 1) := by decide +kernel
theorem dX8_number_17 : decode cX8_number 17 = .ok (.i2l, 1) := by decide +kernel
theorem dX8_number_18 : decode cX8_number 18 = .ok (.invokestatic 54, 3) := by decide +kernel
theorem dX8_number_21 : decode cX8_number 21 = .ok (.ifCond .ne 7, 3) := by decide +kernel
theorem dX8_number_24 : decode cX8_number 24 = .ok (.iconst 1, 1) := by decide +kernel
theorem dX8_number_25 : decode cX8_number 25 = .ok (.goto 4, 3) := by decide +kernel
theorem dX8_number_28 : decode cX8_number 28 = .ok (.iconst 0, 1) := by decide +kernel
theorem dX8_number_29 : decode cX8_number 29 = .ok (.putfield 255, 3) := by decide +kernel
theorem dX8_number_32 : decode cX8_number 32 = .ok (.aload_n 0, 1) := by decide +kernel
theorem dX8_number_33 : decode cX8_number 33 = .ok (.getfield 255, 3) := by decide +kernel
theorem dX8_number_36 : decode cX8_number 36 = .ok (.ifCond .ne 7, 3) := by decide +kernel
theorem dX8_number_39 : decode cX8_number 39 = .ok (.aload_n 0, 1) := by decide +kernel
theorem dX8_number_40 : decode cX8_number 40 = .ok (.invokevirtual 272, 3) := by decide +kernel
theorem dX8_number_43 : decode cX8_number 43 = .ok (.iload_n 2, 1) := by decide +kernel
theorem dX8_number_44 : decode cX8_number 44 = .ok (.ireturn, 1) := by decide +kernel
theorem dX8_wordOf_0 : decode cX8_wordOf 0 = .ok (.iload_n 0, 1) := by decide +kernel
theorem dX8_wordOf_1 : decode cX8_wordOf 1 = .ok (.tableswitch 63 0 5 #[39, 43, 47, 51, 55, 59], 39) := by decide +kernel
theorem dX8_wordOf_40 : decode cX8_wordOf 40 = .ok (.ldc_w 278, 3) := by decide +kernel
theorem dX8_wordOf_43 : decode cX8_wordOf 43 = .ok (.areturn, 1) := by decide +kernel
theorem dX8_wordOf_44 : decode cX8_wordOf 44 = .ok (.ldc_w 280, 3) := by decide +kernel
theorem dX8_wordOf_47 : decode cX8_wordOf 47 = .ok (.areturn, 1) := by decide +kernel
theorem dX8_wordOf_48 : decode cX8_wordOf 48 = .ok (.ldc_w 282, 3) := by decide +kernel
theorem dX8_wordOf_51 : decode cX8_wordOf 51 = .ok (.areturn, 1) := by decide +kernel
theorem dX8_wordOf_52 : decode cX8_wordOf 52 = .ok (.ldc_w 284, 3) := by decide +kernel
theorem dX8_wordOf_55 : decode cX8_wordOf 55 = .ok (.areturn, 1) := by decide +kernel
theorem dX8_wordOf_56 : decode cX8_wordOf 56 = .ok (.ldc_w 286, 3) := by decide +kernel
theorem dX8_wordOf_59 : decode cX8_wordOf 59 = .ok (.areturn, 1) := by decide +kernel
theorem dX8_wordOf_60 : decode cX8_wordOf 60 = .ok (.ldc_w 288, 3) := by decide +kernel
theorem dX8_wordOf_63 : decode cX8_wordOf 63 = .ok (.areturn, 1) := by decide +kernel
theorem dX8_wordOf_64 : decode cX8_wordOf 64 = .ok (.ldc_w 290, 3) := by decide +kernel
theorem dX8_wordOf_67 : decode cX8_wordOf 67 = .ok (.areturn, 1) := by decide +kernel
theorem dX8_kindHere_0 : decode cX8_kindHere 0 = .ok (.bipush 6, 2) := by decide +kernel
theorem dX8_kindHere_2 : decode cX8_kindHere 2 = .ok (.istore_n 1, 1) := by decide +kernel
theorem dX8_kindHere_3 : decode cX8_kindHere 3 = .ok (.iload_n 1, 1) := by decide +kernel
theorem dX8_kindHere_4 : decode cX8_kindHere 4 = .ok (.ifCond .lt 20, 3) := by decide +kernel
theorem dX8_kindHere_7 : decode cX8_kindHere 7 = .ok (.aload_n 0, 1) := by decide +kernel
theorem dX8_kindHere_8 : decode cX8_kindHere 8 = .ok (.iload_n 1, 1) := by decide +kernel
theorem dX8_kindHere_9 : decode cX8_kindHere 9 = .ok (.invokestatic 292, 3) := by decide +kernel
theorem dX8_kindHere_12 : decode cX8_kindHere 12 = .ok (.invokevirtual 268, 3) := by decide +kernel
theorem dX8_kindHere_15 : decode cX8_kindHere 15 = .ok (.ifCond .ne 9, 3) := by decide +kernel
theorem dX8_kindHere_18 : decode cX8_kindHere 18 = .ok (.iinc 1 (-1), 3) := by decide +kernel
theorem dX8_kindHere_21 : decode cX8_kindHere 21 = .ok (.goto (-18), 3) := by decide +kernel
theorem dX8_kindHere_24 : decode cX8_kindHere 24 = .ok (.iload_n 1, 1) := by decide +kernel
theorem dX8_kindHere_25 : decode cX8_kindHere 25 = .ok (.ireturn, 1) := by decide +kernel
theorem dX8_perhaps_0 : decode cX8_perhaps 0 = .ok (.aload_n 0, 1) := by decide +kernel
theorem dX8_perhaps_1 : decode cX8_perhaps 1 = .ok (.aload_n 1, 1) := by decide +kernel
theorem dX8_perhaps_2 : decode cX8_perhaps 2 = .ok (.invokevirtual 296, 3) := by decide +kernel
theorem dX8_perhaps_5 : decode cX8_perhaps 5 = .ok (.ifCond .ne 6, 3) := by decide +kernel
theorem dX8_perhaps_8 : decode cX8_perhaps 8 = .ok (.iload 4, 2) := by decide +kernel
theorem dX8_perhaps_10 : decode cX8_perhaps 10 = .ok (.ireturn, 1) := by decide +kernel
theorem dX8_perhaps_11 : decode cX8_perhaps 11 = .ok (.aload_n 0, 1) := by decide +kernel
theorem dX8_perhaps_12 : decode cX8_perhaps 12 = .ok (.invokevirtual 275, 3) := by decide +kernel
theorem dX8_perhaps_15 : decode cX8_perhaps 15 = .ok (.istore 5, 2) := by decide +kernel
theorem dX8_perhaps_17 : decode cX8_perhaps 17 = .ok (.aload_n 0, 1) := by decide +kernel
theorem dX8_perhaps_18 : decode cX8_perhaps 18 = .ok (.aload_n 0, 1) := by decide +kernel
theorem dX8_perhaps_19 : decode cX8_perhaps 19 = .ok (.getfield 255, 3) := by decide +kernel
theorem dX8_perhaps_22 : decode cX8_perhaps 22 = .ok (.ifCond .ne 9, 3) := by decide +kernel
theorem dX8_perhaps_25 : decode cX8_perhaps 25 = .ok (.iload 5, 2) := by decide +kernel
theorem dX8_perhaps_27 : decode cX8_perhaps 27 = .ok (.iload_n 2, 1) := by decide +kernel
theorem dX8_perhaps_28 : decode cX8_perhaps 28 = .ok (.if_icmp .ge 7, 3) := by decide +kernel
theorem dX8_perhaps_31 : decode cX8_perhaps 31 = .ok (.iconst 1, 1) := by decide +kernel
theorem dX8_perhaps_32 : decode cX8_perhaps 32 = .ok (.goto 4, 3) := by decide +kernel
theorem dX8_perhaps_35 : decode cX8_perhaps 35 = .ok (.iconst 0, 1) := by decide +kernel
theorem dX8_perhaps_36 : decode cX8_perhaps 36 = .ok (.putfield 255, 3) := by decide +kernel
theorem dX8_perhaps_39 : decode cX8_perhaps 39 = .ok (.aload_n 0, 1) := by decide +kernel
theorem dX8_perhaps_40 : decode cX8_perhaps 40 = .ok (.iload_n 3, 1) := by decide +kernel
theorem dX8_perhaps_41 : decode cX8_perhaps 41 = .ok (.invokevirtual 299, 3) := by decide +kernel
theorem dX8_perhaps_44 : decode cX8_perhaps 44 = .ok (.ireturn, 1) := by decide +kernel
theorem dX8_thingTold_0 : decode cX8_thingTold 0 = .ok (.aload_n 0, 1) := by decide +kernel
theorem dX8_thingTold_1 : decode cX8_thingTold 1 = .ok (.aload_n 0, 1) := by decide +kernel
theorem dX8_thingTold_2 : decode cX8_thingTold 2 = .ok (.getfield 9, 3) := by decide +kernel
theorem dX8_thingTold_5 : decode cX8_thingTold 5 = .ok (.bipush 11, 2) := by decide +kernel
theorem dX8_thingTold_7 : decode cX8_thingTold 7 = .ok (.iaload, 1) := by decide +kernel
theorem dX8_thingTold_8 : decode cX8_thingTold 8 = .ok (.bipush 8, 2) := by decide +kernel
theorem dX8_thingTold_10 : decode cX8_thingTold 10 = .ok (.if_icmp .ne 7, 3) := by decide +kernel
theorem dX8_thingTold_13 : decode cX8_thingTold 13 = .ok (.iconst 1, 1) := by decide +kernel
theorem dX8_thingTold_14 : decode cX8_thingTold 14 = .ok (.goto 4, 3) := by decide +kernel
theorem dX8_thingTold_17 : decode cX8_thingTold 17 = .ok (.iconst 0, 1) := by decide +kernel
theorem dX8_thingTold_18 : decode cX8_thingTold 18 = .ok (.putfield 255, 3) := by decide +kernel
theorem dX8_thingTold_21 : decode cX8_thingTold 21 = .ok (.aload_n 0, 1) := by decide +kernel
theorem dX8_thingTold_22 : decode cX8_thingTold 22 = .ok (.getfield 255, 3) := by decide +kernel
theorem dX8_thingTold_25 : decode cX8_thingTold 25 = .ok (.ifCond .eq 4, 3) := by decide +kernel
theorem dX8_thingTold_28 : decode cX8_thingTold 28 = .ok (.return_, 1) := by decide +kernel
theorem dX8_thingTold_29 : decode cX8_thingTold 29 = .ok (.aload_n 0, 1) := by decide +kernel
theorem dX8_thingTold_30 : decode cX8_thingTold 30 = .ok (.invokevirtual 272, 3) := by decide +kernel
theorem dX8_thingTold_33 : decode cX8_thingTold 33 = .ok (.aload_n 0, 1) := by decide +kernel
theorem dX8_thingTold_34 : decode cX8_thingTold 34 = .ok (.ldc_w 301, 3) := by decide +kernel
theorem dX8_thingTold_37 : decode cX8_thingTold 37 = .ok (.iconst 0, 1) := by decide +kernel
theorem dX8_thingTold_38 : decode cX8_thingTold 38 = .ok (.bipush 7, 2) := by decide +kernel
theorem dX8_thingTold_40 : decode cX8_thingTold 40 = .ok (.iconst 0, 1) := by decide +kernel
theorem dX8_thingTold_41 : decode cX8_thingTold 41 = .ok (.invokevirtual 303, 3) := by decide +kernel
theorem dX8_thingTold_44 : decode cX8_thingTold 44 = .ok (.istore_n 2, 1) := by decide +kernel
theorem dX8_thingTold_45 : decode cX8_thingTold 45 = .ok (.aload_n 0, 1) := by decide +kernel
theorem dX8_thingTold_46 : decode cX8_thingTold 46 = .ok (.ldc_w 307, 3) := by decide +kernel
theorem dX8_thingTold_49 : decode cX8_thingTold 49 = .ok (.iconst 1, 1) := by decide +kernel
theorem dX8_thingTold_50 : decode cX8_thingTold 50 = .ok (.bipush 60, 2) := by decide +kernel
theorem dX8_thingTold_52 : decode cX8_thingTold 52 = .ok (.bipush 8, 2) := by decide +kernel
theorem dX8_thingTold_54 : decode cX8_thingTold 54 = .ok (.invokevirtual 303, 3) := by decide +kernel
theorem dX8_thingTold_57 : decode cX8_thingTold 57 = .ok (.istore_n 3, 1) := by decide +kernel
theorem dX8_thingTold_58 : decode cX8_thingTold 58 = .ok (.aload_n 0, 1) := by decide +kernel
theorem dX8_thingTold_59 : decode cX8_thingTold 59 = .ok (.getfield 255, 3) := by decide +kernel
theorem dX8_thingTold_62 : decode cX8_thingTold 62 = .ok (.ifCond .ne 10, 3) := by decide +kernel
theorem dX8_thingTold_65 : decode cX8_thingTold 65 = .ok (.aload_n 0, 1) := by decide +kernel
theorem dX8_thingTold_66 : decode cX8_thingTold 66 = .ok (.iload_n 1, 1) := by decide +kernel
theorem dX8_thingTold_67 : decode cX8_thingTold 67 = .ok (.iload_n 2, 1) := by decide +kernel
theorem dX8_thingTold_68 : decode cX8_thingTold 68 = .ok (.iload_n 3, 1) := by decide +kernel
theorem dX8_thingTold_69 : decode cX8_thingTold 69 = .ok (.invokevirtual 86, 3) := by decide +kernel
theorem dX8_thingTold_72 : decode cX8_thingTold 72 = .ok (.return_, 1) := by decide +kernel
theorem dX8_oneTold_0 : decode cX8_oneTold 0 = .ok (.aload_n 0, 1) := by decide +kernel
theorem dX8_oneTold_1 : decode cX8_oneTold 1 = .ok (.aload_n 0, 1) := by decide +kernel
theorem dX8_oneTold_2 : decode cX8_oneTold 2 = .ok (.getfield 9, 3) := by decide +kernel
theorem dX8_oneTold_5 : decode cX8_oneTold 5 = .ok (.bipush 12, 2) := by decide +kernel
theorem dX8_oneTold_7 : decode cX8_oneTold 7 = .ok (.iaload, 1) := by decide +kernel
theorem dX8_oneTold_8 : decode cX8_oneTold 8 = .ok (.iconst 4, 1) := by decide +kernel
theorem dX8_oneTold_9 : decode cX8_oneTold 9 = .ok (.if_icmp .ne 7, 3) := by decide +kernel
theorem dX8_oneTold_12 : decode cX8_oneTold 12 = .ok (.iconst 1, 1) := by decide +kernel
theorem dX8_oneTold_13 : decode cX8_oneTold 13 = .ok (.goto 4, 3) := by decide +kernel
theorem dX8_oneTold_16 : decode cX8_oneTold 16 = .ok (.iconst 0, 1) := by decide +kernel
theorem dX8_oneTold_17 : decode cX8_oneTold 17 = .ok (.putfield 255, 3) := by decide +kernel
theorem dX8_oneTold_20 : decode cX8_oneTold 20 = .ok (.aload_n 0, 1) := by decide +kernel
theorem dX8_oneTold_21 : decode cX8_oneTold 21 = .ok (.getfield 255, 3) := by decide +kernel
theorem dX8_oneTold_24 : decode cX8_oneTold 24 = .ok (.ifCond .eq 4, 3) := by decide +kernel
theorem dX8_oneTold_27 : decode cX8_oneTold 27 = .ok (.return_, 1) := by decide +kernel
theorem dX8_oneTold_28 : decode cX8_oneTold 28 = .ok (.aload_n 0, 1) := by decide +kernel
theorem dX8_oneTold_29 : decode cX8_oneTold 29 = .ok (.invokevirtual 272, 3) := by decide +kernel
theorem dX8_oneTold_32 : decode cX8_oneTold 32 = .ok (.aload_n 0, 1) := by decide +kernel
theorem dX8_oneTold_33 : decode cX8_oneTold 33 = .ok (.ldc_w 301, 3) := by decide +kernel
theorem dX8_oneTold_36 : decode cX8_oneTold 36 = .ok (.iconst 0, 1) := by decide +kernel
theorem dX8_oneTold_37 : decode cX8_oneTold 37 = .ok (.bipush 7, 2) := by decide +kernel
theorem dX8_oneTold_39 : decode cX8_oneTold 39 = .ok (.iconst 0, 1) := by decide +kernel
theorem dX8_oneTold_40 : decode cX8_oneTold 40 = .ok (.invokevirtual 303, 3) := by decide +kernel
theorem dX8_oneTold_43 : decode cX8_oneTold 43 = .ok (.istore_n 1, 1) := by decide +kernel
theorem dX8_oneTold_44 : decode cX8_oneTold 44 = .ok (.aload_n 0, 1) := by decide +kernel
theorem dX8_oneTold_45 : decode cX8_oneTold 45 = .ok (.ldc_w 309, 3) := by decide +kernel
theorem dX8_oneTold_48 : decode cX8_oneTold 48 = .ok (.iconst 0, 1) := by decide +kernel
theorem dX8_oneTold_49 : decode cX8_oneTold 49 = .ok (.iconst 4, 1) := by decide +kernel
theorem dX8_oneTold_50 : decode cX8_oneTold 50 = .ok (.iconst 0, 1) := by decide +kernel
theorem dX8_oneTold_51 : decode cX8_oneTold 51 = .ok (.invokevirtual 303, 3) := by decide +kernel
theorem dX8_oneTold_54 : decode cX8_oneTold 54 = .ok (.istore_n 2, 1) := by decide +kernel
theorem dX8_oneTold_55 : decode cX8_oneTold 55 = .ok (.aload_n 0, 1) := by decide +kernel
theorem dX8_oneTold_56 : decode cX8_oneTold 56 = .ok (.ldc_w 311, 3) := by decide +kernel
theorem dX8_oneTold_59 : decode cX8_oneTold 59 = .ok (.iconst 0, 1) := by decide +kernel
theorem dX8_oneTold_60 : decode cX8_oneTold 60 = .ok (.bipush 60, 2) := by decide +kernel
theorem dX8_oneTold_62 : decode cX8_oneTold 62 = .ok (.bipush 10, 2) := by decide +kernel
theorem dX8_oneTold_64 : decode cX8_oneTold 64 = .ok (.invokevirtual 303, 3) := by decide +kernel
theorem dX8_oneTold_67 : decode cX8_oneTold 67 = .ok (.istore_n 3, 1) := by decide +kernel
theorem dX8_oneTold_68 : decode cX8_oneTold 68 = .ok (.aload_n 0, 1) := by decide +kernel
theorem dX8_oneTold_69 : decode cX8_oneTold 69 = .ok (.getfield 255, 3) := by decide +kernel
theorem dX8_oneTold_72 : decode cX8_oneTold 72 = .ok (.ifCond .ne 14, 3) := by decide +kernel
theorem dX8_oneTold_75 : decode cX8_oneTold 75 = .ok (.aload_n 0, 1) := by decide +kernel
theorem dX8_oneTold_76 : decode cX8_oneTold 76 = .ok (.bipush 8, 2) := by decide +kernel
theorem dX8_oneTold_78 : decode cX8_oneTold 78 = .ok (.iload_n 2, 1) := by decide +kernel
theorem dX8_oneTold_79 : decode cX8_oneTold 79 = .ok (.imul, 1) := by decide +kernel
theorem dX8_oneTold_80 : decode cX8_oneTold 80 = .ok (.iload_n 1, 1) := by decide +kernel
theorem dX8_oneTold_81 : decode cX8_oneTold 81 = .ok (.iadd, 1) := by decide +kernel
theorem dX8_oneTold_82 : decode cX8_oneTold 82 = .ok (.iload_n 3, 1) := by decide +kernel
theorem dX8_oneTold_83 : decode cX8_oneTold 83 = .ok (.invokevirtual 102, 3) := by decide +kernel
theorem dX8_oneTold_86 : decode cX8_oneTold 86 = .ok (.return_, 1) := by decide +kernel
theorem dX8_doorTold_0 : decode cX8_doorTold 0 = .ok (.aload_n 0, 1) := by decide +kernel
theorem dX8_doorTold_1 : decode cX8_doorTold 1 = .ok (.bipush 7, 2) := by decide +kernel
theorem dX8_doorTold_3 : decode cX8_doorTold 3 = .ok (.invokevirtual 299, 3) := by decide +kernel
theorem dX8_doorTold_6 : decode cX8_doorTold 6 = .ok (.istore_n 2, 1) := by decide +kernel
theorem dX8_doorTold_7 : decode cX8_doorTold 7 = .ok (.aload_n 0, 1) := by decide +kernel
theorem dX8_doorTold_8 : decode cX8_doorTold 8 = .ok (.aload_n 0, 1) := by decide +kernel
theorem dX8_doorTold_9 : decode cX8_doorTold 9 = .ok (.getfield 255, 3) := by decide +kernel
theorem dX8_doorTold_12 : decode cX8_doorTold 12 = .ok (.ifCond .ne 11, 3) := by decide +kernel
theorem dX8_doorTold_15 : decode cX8_doorTold 15 = .ok (.aload_n 0, 1) := by decide +kernel
theorem dX8_doorTold_16 : decode cX8_doorTold 16 = .ok (.invokevirtual 275, 3) := by decide +kernel
theorem dX8_doorTold_19 : decode cX8_doorTold 19 = .ok (.iload_n 2, 1) := by decide +kernel
theorem dX8_doorTold_20 : decode cX8_doorTold 20 = .ok (.if_icmp .ne 7, 3) := by decide +kernel
theorem dX8_doorTold_23 : decode cX8_doorTold 23 = .ok (.iconst 1, 1) := by decide +kernel
theorem dX8_doorTold_24 : decode cX8_doorTold 24 = .ok (.goto 4, 3) := by decide +kernel
theorem dX8_doorTold_27 : decode cX8_doorTold 27 = .ok (.iconst 0, 1) := by decide +kernel
theorem dX8_doorTold_28 : decode cX8_doorTold 28 = .ok (.putfield 255, 3) := by decide +kernel
theorem dX8_doorTold_31 : decode cX8_doorTold 31 = .ok (.aload_n 0, 1) := by decide +kernel
theorem dX8_doorTold_32 : decode cX8_doorTold 32 = .ok (.bipush 7, 2) := by decide +kernel
theorem dX8_doorTold_34 : decode cX8_doorTold 34 = .ok (.invokevirtual 299, 3) := by decide +kernel
theorem dX8_doorTold_37 : decode cX8_doorTold 37 = .ok (.istore_n 3, 1) := by decide +kernel
theorem dX8_doorTold_38 : decode cX8_doorTold 38 = .ok (.aload_n 0, 1) := by decide +kernel
theorem dX8_doorTold_39 : decode cX8_doorTold 39 = .ok (.getfield 255, 3) := by decide +kernel
theorem dX8_doorTold_42 : decode cX8_doorTold 42 = .ok (.ifCond .ne 10, 3) := by decide +kernel
theorem dX8_doorTold_45 : decode cX8_doorTold 45 = .ok (.aload_n 0, 1) := by decide +kernel
theorem dX8_doorTold_46 : decode cX8_doorTold 46 = .ok (.iload_n 2, 1) := by decide +kernel
theorem dX8_doorTold_47 : decode cX8_doorTold 47 = .ok (.iload_n 3, 1) := by decide +kernel
theorem dX8_doorTold_48 : decode cX8_doorTold 48 = .ok (.iload_n 1, 1) := by decide +kernel
theorem dX8_doorTold_49 : decode cX8_doorTold 49 = .ok (.invokevirtual 43, 3) := by decide +kernel
theorem dX8_doorTold_52 : decode cX8_doorTold 52 = .ok (.return_, 1) := by decide +kernel
theorem dX8_ruleTold_0 : decode cX8_ruleTold 0 = .ok (.aload_n 0, 1) := by decide +kernel
theorem dX8_ruleTold_1 : decode cX8_ruleTold 1 = .ok (.iload_n 2, 1) := by decide +kernel
theorem dX8_ruleTold_2 : decode cX8_ruleTold 2 = .ok (.invokevirtual 299, 3) := by decide +kernel
theorem dX8_ruleTold_5 : decode cX8_ruleTold 5 = .ok (.istore_n 3, 1) := by decide +kernel
theorem dX8_ruleTold_6 : decode cX8_ruleTold 6 = .ok (.aload_n 0, 1) := by decide +kernel
theorem dX8_ruleTold_7 : decode cX8_ruleTold 7 = .ok (.getfield 9, 3) := by decide +kernel
theorem dX8_ruleTold_10 : decode cX8_ruleTold 10 = .ok (.bipush 8, 2) := by decide +kernel
theorem dX8_ruleTold_12 : decode cX8_ruleTold 12 = .ok (.iload_n 1, 1) := by decide +kernel
theorem dX8_ruleTold_13 : decode cX8_ruleTold 13 = .ok (.iadd, 1) := by decide +kernel
theorem dX8_ruleTold_14 : decode cX8_ruleTold 14 = .ok (.aload_n 0, 1) := by decide +kernel
theorem dX8_ruleTold_15 : decode cX8_ruleTold 15 = .ok (.getfield 255, 3) := by decide +kernel
theorem dX8_ruleTold_18 : decode cX8_ruleTold 18 = .ok (.ifCond .eq 15, 3) := by decide +kernel
theorem dX8_ruleTold_21 : decode cX8_ruleTold 21 = .ok (.aload_n 0, 1) := by decide +kernel
theorem dX8_ruleTold_22 : decode cX8_ruleTold 22 = .ok (.getfield 9, 3) := by decide +kernel
theorem dX8_ruleTold_25 : decode cX8_ruleTold 25 = .ok (.bipush 8, 2) := by decide +kernel
theorem dX8_ruleTold_27 : decode cX8_ruleTold 27 = .ok (.iload_n 1, 1) := by decide +kernel
theorem dX8_ruleTold_28 : decode cX8_ruleTold 28 = .ok (.iadd, 1) := by decide +kernel
theorem dX8_ruleTold_29 : decode cX8_ruleTold 29 = .ok (.iaload, 1) := by decide +kernel
theorem dX8_ruleTold_30 : decode cX8_ruleTold 30 = .ok (.goto 4, 3) := by decide +kernel
theorem dX8_ruleTold_33 : decode cX8_ruleTold 33 = .ok (.iload_n 3, 1) := by decide +kernel
theorem dX8_ruleTold_34 : decode cX8_ruleTold 34 = .ok (.iastore, 1) := by decide +kernel
theorem dX8_ruleTold_35 : decode cX8_ruleTold 35 = .ok (.return_, 1) := by decide +kernel
theorem dX8_item_0 : decode cX8_item 0 = .ok (.aload_n 0, 1) := by decide +kernel
theorem dX8_item_1 : decode cX8_item 1 = .ok (.invokevirtual 313, 3) := by decide +kernel
theorem dX8_item_4 : decode cX8_item 4 = .ok (.istore_n 1, 1) := by decide +kernel
theorem dX8_item_5 : decode cX8_item 5 = .ok (.iload_n 1, 1) := by decide +kernel
theorem dX8_item_6 : decode cX8_item 6 = .ok (.ifCond .lt 11, 3) := by decide +kernel
theorem dX8_item_9 : decode cX8_item 9 = .ok (.aload_n 0, 1) := by decide +kernel
theorem dX8_item_10 : decode cX8_item 10 = .ok (.iload_n 1, 1) := by decide +kernel
theorem dX8_item_11 : decode cX8_item 11 = .ok (.invokevirtual 316, 3) := by decide +kernel
theorem dX8_item_14 : decode cX8_item 14 = .ok (.goto 121, 3) := by decide +kernel
theorem dX8_item_17 : decode cX8_item 17 = .ok (.aload_n 0, 1) := by decide +kernel
theorem dX8_item_18 : decode cX8_item 18 = .ok (.ldc_w 319, 3) := by decide +kernel
theorem dX8_item_21 : decode cX8_item 21 = .ok (.invokevirtual 268, 3) := by decide +kernel
theorem dX8_item_24 : decode cX8_item 24 = .ok (.ifCond .eq 10, 3) := by decide +kernel
theorem dX8_item_27 : decode cX8_item 27 = .ok (.aload_n 0, 1) := by decide +kernel
theorem dX8_item_28 : decode cX8_item 28 = .ok (.invokevirtual 321, 3) := by decide +kernel
theorem dX8_item_31 : decode cX8_item 31 = .ok (.goto 104, 3) := by decide +kernel
theorem dX8_item_34 : decode cX8_item 34 = .ok (.aload_n 0, 1) := by decide +kernel
theorem dX8_item_35 : decode cX8_item 35 = .ok (.ldc_w 324, 3) := by decide +kernel
theorem dX8_item_38 : decode cX8_item 38 = .ok (.invokevirtual 296, 3) := by decide +kernel
theorem dX8_item_41 : decode cX8_item 41 = .ok (.ifCond .eq 11, 3) := by decide +kernel
theorem dX8_item_44 : decode cX8_item 44 = .ok (.aload_n 0, 1) := by decide +kernel
theorem dX8_item_45 : decode cX8_item 45 = .ok (.iconst 1, 1) := by decide +kernel
theorem dX8_item_46 : decode cX8_item 46 = .ok (.invokevirtual 326, 3) := by decide +kernel
theorem dX8_item_49 : decode cX8_item 49 = .ok (.goto 86, 3) := by decide +kernel
theorem dX8_item_52 : decode cX8_item 52 = .ok (.aload_n 0, 1) := by decide +kernel
theorem dX8_item_53 : decode cX8_item 53 = .ok (.ldc_w 330, 3) := by decide +kernel
theorem dX8_item_56 : decode cX8_item 56 = .ok (.invokevirtual 296, 3) := by decide +kernel
theorem dX8_item_59 : decode cX8_item 59 = .ok (.ifCond .eq 11, 3) := by decide +kernel
theorem dX8_item_62 : decode cX8_item 62 = .ok (.aload_n 0, 1) := by decide +kernel
theorem dX8_item_63 : decode cX8_item 63 = .ok (.iconst 0, 1) := by decide +kernel
theorem dX8_item_64 : decode cX8_item 64 = .ok (.invokevirtual 326, 3) := by decide +kernel
theorem dX8_item_67 : decode cX8_item 67 = .ok (.goto 68, 3) := by decide +kernel
theorem dX8_item_70 : decode cX8_item 70 = .ok (.aload_n 0, 1) := by decide +kernel
theorem dX8_item_71 : decode cX8_item 71 = .ok (.ldc_w 332, 3) := by decide +kernel
theorem dX8_item_74 : decode cX8_item 74 = .ok (.invokevirtual 296, 3) := by decide +kernel
theorem dX8_item_77 : decode cX8_item 77 = .ok (.ifCond .eq 13, 3) := by decide +kernel
theorem dX8_item_80 : decode cX8_item 80 = .ok (.aload_n 0, 1) := by decide +kernel
theorem dX8_item_81 : decode cX8_item 81 = .ok (.iconst 0, 1) := by decide +kernel
theorem dX8_item_82 : decode cX8_item 82 = .ok (.bipush 7, 2) := by decide +kernel
theorem dX8_item_84 : decode cX8_item 84 = .ok (.invokevirtual 334, 3) := by decide +kernel
theorem dX8_item_87 : decode cX8_item 87 = .ok (.goto 48, 3) := by decide +kernel
theorem dX8_item_90 : decode cX8_item 90 = .ok (.aload_n 0, 1) := by decide +kernel
theorem dX8_item_91 : decode cX8_item 91 = .ok (.ldc_w 337, 3) := by decide +kernel
theorem dX8_item_94 : decode cX8_item 94 = .ok (.invokevirtual 296, 3) := by decide +kernel
theorem dX8_item_97 : decode cX8_item 97 = .ok (.ifCond .eq 13, 3) := by decide +kernel
theorem dX8_item_100 : decode cX8_item 100 = .ok (.aload_n 0, 1) := by decide +kernel
theorem dX8_item_101 : decode cX8_item 101 = .ok (.iconst 1, 1) := by decide +kernel
theorem dX8_item_102 : decode cX8_item 102 = .ok (.bipush 7, 2) := by decide +kernel
theorem dX8_item_104 : decode cX8_item 104 = .ok (.invokevirtual 334, 3) := by decide +kernel
theorem dX8_item_107 : decode cX8_item 107 = .ok (.goto 28, 3) := by decide +kernel
theorem dX8_item_110 : decode cX8_item 110 = .ok (.aload_n 0, 1) := by decide +kernel
theorem dX8_item_111 : decode cX8_item 111 = .ok (.ldc_w 339, 3) := by decide +kernel
theorem dX8_item_114 : decode cX8_item 114 = .ok (.invokevirtual 296, 3) := by decide +kernel
theorem dX8_item_117 : decode cX8_item 117 = .ok (.ifCond .eq 13, 3) := by decide +kernel
theorem dX8_item_120 : decode cX8_item 120 = .ok (.aload_n 0, 1) := by decide +kernel
theorem dX8_item_121 : decode cX8_item 121 = .ok (.iconst 2, 1) := by decide +kernel
theorem dX8_item_122 : decode cX8_item 122 = .ok (.bipush 100, 2) := by decide +kernel
theorem dX8_item_124 : decode cX8_item 124 = .ok (.invokevirtual 334, 3) := by decide +kernel
theorem dX8_item_127 : decode cX8_item 127 = .ok (.goto 8, 3) := by decide +kernel
theorem dX8_item_130 : decode cX8_item 130 = .ok (.aload_n 0, 1) := by decide +kernel
theorem dX8_item_131 : decode cX8_item 131 = .ok (.iconst 1, 1) := by decide +kernel
theorem dX8_item_132 : decode cX8_item 132 = .ok (.putfield 255, 3) := by decide +kernel
theorem dX8_item_135 : decode cX8_item 135 = .ok (.return_, 1) := by decide +kernel
theorem dX8_text_0 : decode cX8_text 0 = .ok (.aload_n 0, 1) := by decide +kernel
theorem dX8_text_1 : decode cX8_text 1 = .ok (.invokevirtual 196, 3) := by decide +kernel
theorem dX8_text_4 : decode cX8_text 4 = .ok (.aload_n 0, 1) := by decide +kernel
theorem dX8_text_5 : decode cX8_text 5 = .ok (.iconst 0, 1) := by decide +kernel
theorem dX8_text_6 : decode cX8_text 6 = .ok (.putfield 255, 3) := by decide +kernel
theorem dX8_text_9 : decode cX8_text 9 = .ok (.aload_n 0, 1) := by decide +kernel
theorem dX8_text_10 : decode cX8_text 10 = .ok (.iconst 0, 1) := by decide +kernel
theorem dX8_text_11 : decode cX8_text 11 = .ok (.putfield 246, 3) := by decide +kernel
theorem dX8_text_14 : decode cX8_text 14 = .ok (.aload_n 0, 1) := by decide +kernel
theorem dX8_text_15 : decode cX8_text 15 = .ok (.invokevirtual 272, 3) := by decide +kernel
theorem dX8_text_18 : decode cX8_text 18 = .ok (.aload_n 0, 1) := by decide +kernel
theorem dX8_text_19 : decode cX8_text 19 = .ok (.invokevirtual 341, 3) := by decide +kernel
theorem dX8_text_22 : decode cX8_text 22 = .ok (.iconst 1, 1) := by decide +kernel
theorem dX8_text_23 : decode cX8_text 23 = .ok (.istore_n 1, 1) := by decide +kernel
theorem dX8_text_24 : decode cX8_text 24 = .ok (.aload_n 0, 1) := by decide +kernel
theorem dX8_text_25 : decode cX8_text 25 = .ok (.getfield 255, 3) := by decide +kernel
theorem dX8_text_28 : decode cX8_text 28 = .ok (.ifCond .ne 27, 3) := by decide +kernel
theorem dX8_text_31 : decode cX8_text 31 = .ok (.aload_n 0, 1) := by decide +kernel
theorem dX8_text_32 : decode cX8_text 32 = .ok (.ldc_w 344, 3) := by decide +kernel
theorem dX8_text_35 : decode cX8_text 35 = .ok (.invokevirtual 268, 3) := by decide +kernel
theorem dX8_text_38 : decode cX8_text 38 = .ok (.ifCond .eq 17, 3) := by decide +kernel
theorem dX8_text_41 : decode cX8_text 41 = .ok (.aload_n 0, 1) := by decide +kernel
theorem dX8_text_42 : decode cX8_text 42 = .ok (.invokevirtual 272, 3) := by decide +kernel
theorem dX8_text_45 : decode cX8_text 45 = .ok (.aload_n 0, 1) := by decide +kernel
theorem dX8_text_46 : decode cX8_text 46 = .ok (.invokevirtual 341, 3) := by decide +kernel
theorem dX8_text_49 : decode cX8_text 49 = .ok (.iinc 1 1, 3) := by decide +kernel
theorem dX8_text_52 : decode cX8_text 52 = .ok (.goto (-28), 3) := by decide +kernel
theorem dX8_text_55 : decode cX8_text 55 = .ok (.aload_n 0, 1) := by decide +kernel
theorem dX8_text_56 : decode cX8_text 56 = .ok (.aload_n 0, 1) := by decide +kernel
theorem dX8_text_57 : decode cX8_text 57 = .ok (.getfield 255, 3) := by decide +kernel
theorem dX8_text_60 : decode cX8_text 60 = .ok (.ifCond .ne 14, 3) := by decide +kernel
theorem dX8_text_63 : decode cX8_text 63 = .ok (.aload_n 0, 1) := by decide +kernel
theorem dX8_text_64 : decode cX8_text 64 = .ok (.getfield 249, 3) := by decide +kernel
theorem dX8_text_67 : decode cX8_text 67 = .ok (.aload_n 0, 1) := by decide +kernel
theorem dX8_text_68 : decode cX8_text 68 = .ok (.getfield 243, 3) := by decide +kernel
theorem dX8_text_71 : decode cX8_text 71 = .ok (.if_icmp .ge 7, 3) := by decide +kernel
theorem dX8_text_74 : decode cX8_text 74 = .ok (.iconst 1, 1) := by decide +kernel
theorem dX8_text_75 : decode cX8_text 75 = .ok (.goto 4, 3) := by decide +kernel
theorem dX8_text_78 : decode cX8_text 78 = .ok (.iconst 0, 1) := by decide +kernel
theorem dX8_text_79 : decode cX8_text 79 = .ok (.putfield 255, 3) := by decide +kernel
theorem dX8_text_82 : decode cX8_text 82 = .ok (.aload_n 0, 1) := by decide +kernel
theorem dX8_text_83 : decode cX8_text 83 = .ok (.iconst 0, 1) := by decide +kernel
theorem dX8_text_84 : decode cX8_text 84 = .ok (.putfield 243, 3) := by decide +kernel
theorem dX8_text_87 : decode cX8_text 87 = .ok (.aload_n 0, 1) := by decide +kernel
theorem dX8_text_88 : decode cX8_text 88 = .ok (.getfield 255, 3) := by decide +kernel
theorem dX8_text_91 : decode cX8_text 91 = .ok (.ifCond .ne 5, 3) := by decide +kernel
theorem dX8_text_94 : decode cX8_text 94 = .ok (.iload_n 1, 1) := by decide +kernel
theorem dX8_text_95 : decode cX8_text 95 = .ok (.ireturn, 1) := by decide +kernel
theorem dX8_text_96 : decode cX8_text 96 = .ok (.aload_n 0, 1) := by decide +kernel
theorem dX8_text_97 : decode cX8_text 97 = .ok (.invokevirtual 202, 3) := by decide +kernel
theorem dX8_text_100 : decode cX8_text 100 = .ok (.iconst (-1), 1) := by decide +kernel
theorem dX8_text_101 : decode cX8_text 101 = .ok (.aload_n 0, 1) := by decide +kernel
theorem dX8_text_102 : decode cX8_text 102 = .ok (.getfield 249, 3) := by decide +kernel
theorem dX8_text_105 : decode cX8_text 105 = .ok (.isub, 1) := by decide +kernel
theorem dX8_text_106 : decode cX8_text 106 = .ok (.ireturn, 1) := by decide +kernel
theorem dX8_hold_0 : decode cX8_hold 0 = .ok (.iload_n 1, 1) := by decide +kernel
theorem dX8_hold_1 : decode cX8_hold 1 = .ok (.i2l, 1) := by decide +kernel
theorem dX8_hold_2 : decode cX8_hold 2 = .ok (.lconst 0, 1) := by decide +kernel
theorem dX8_hold_3 : decode cX8_hold 3 = .ok (.ldc2_w 209, 3) := by decide +kernel
theorem dX8_hold_6 : decode cX8_hold 6 = .ok (.invokestatic 54, 3) := by decide +kernel
theorem dX8_hold_9 : decode cX8_hold 9 = .ok (.ifCond .eq 24, 3) := by decide +kernel
theorem dX8_hold_12 : decode cX8_hold 12 = .ok (.iload_n 2, 1) := by decide +kernel
theorem dX8_hold_13 : decode cX8_hold 13 = .ok (.i2l, 1) := by decide +kernel
theorem dX8_hold_14 : decode cX8_hold 14 = .ok (.ldc2_w 207, 3) := by decide +kernel
theorem dX8_hold_17 : decode cX8_hold 17 = .ok (.aload_n 0, 1) := by decide +kernel
theorem dX8_hold_18 : decode cX8_hold 18 = .ok (.getfield 9, 3) := by decide +kernel
theorem dX8_hold_21 : decode cX8_hold 21 = .ok (.bipush 11, 2) := by decide +kernel
theorem dX8_hold_23 : decode cX8_hold 23 = .ok (.iaload, 1) := by decide +kernel
theorem dX8_hold_24 : decode cX8_hold 24 = .ok (.iconst 1, 1) := by decide +kernel
theorem dX8_hold_25 : decode cX8_hold 25 = .ok (.isub, 1) := by decide +kernel
theorem dX8_hold_26 : decode cX8_hold 26 = .ok (.i2l, 1) := by decide +kernel
theorem dX8_hold_27 : decode cX8_hold 27 = .ok (.invokestatic 54, 3) := by decide +kernel
theorem dX8_hold_30 : decode cX8_hold 30 = .ok (.ifCond .ne 9, 3) := by decide +kernel
theorem dX8_hold_33 : decode cX8_hold 33 = .ok (.aload_n 0, 1) := by decide +kernel
theorem dX8_hold_34 : decode cX8_hold 34 = .ok (.iconst 0, 1) := by decide +kernel
theorem dX8_hold_35 : decode cX8_hold 35 = .ok (.invokevirtual 74, 3) := by decide +kernel
theorem dX8_hold_38 : decode cX8_hold 38 = .ok (.ireturn, 1) := by decide +kernel
theorem dX8_hold_39 : decode cX8_hold 39 = .ok (.aload_n 0, 1) := by decide +kernel
theorem dX8_hold_40 : decode cX8_hold 40 = .ok (.getfield 9, 3) := by decide +kernel
theorem dX8_hold_43 : decode cX8_hold 43 = .ok (.bipush 18, 2) := by decide +kernel
theorem dX8_hold_45 : decode cX8_hold 45 = .ok (.iload_n 1, 1) := by decide +kernel
theorem dX8_hold_46 : decode cX8_hold 46 = .ok (.iadd, 1) := by decide +kernel
theorem dX8_hold_47 : decode cX8_hold 47 = .ok (.iload_n 2, 1) := by decide +kernel
theorem dX8_hold_48 : decode cX8_hold 48 = .ok (.iastore, 1) := by decide +kernel
theorem dX8_hold_49 : decode cX8_hold 49 = .ok (.iconst 1, 1) := by decide +kernel
theorem dX8_hold_50 : decode cX8_hold 50 = .ok (.ireturn, 1) := by decide +kernel
theorem dX8_as_0 : decode cX8_as 0 = .ok (.iload_n 1, 1) := by decide +kernel
theorem dX8_as_1 : decode cX8_as 1 = .ok (.i2l, 1) := by decide +kernel
theorem dX8_as_2 : decode cX8_as 2 = .ok (.lconst 0, 1) := by decide +kernel
theorem dX8_as_3 : decode cX8_as 3 = .ok (.ldc2_w 209, 3) := by decide +kernel
theorem dX8_as_6 : decode cX8_as 6 = .ok (.invokestatic 54, 3) := by decide +kernel
theorem dX8_as_9 : decode cX8_as 9 = .ok (.ifCond .eq 10, 3) := by decide +kernel
theorem dX8_as_12 : decode cX8_as 12 = .ok (.iload_n 2, 1) := by decide +kernel
theorem dX8_as_13 : decode cX8_as 13 = .ok (.invokestatic 83, 3) := by decide +kernel
theorem dX8_as_16 : decode cX8_as 16 = .ok (.ifCond .ne 9, 3) := by decide +kernel
theorem dX8_as_19 : decode cX8_as 19 = .ok (.aload_n 0, 1) := by decide +kernel
theorem dX8_as_20 : decode cX8_as 20 = .ok (.iconst 0, 1) := by decide +kernel
theorem dX8_as_21 : decode cX8_as 21 = .ok (.invokevirtual 74, 3) := by decide +kernel
theorem dX8_as_24 : decode cX8_as 24 = .ok (.ireturn, 1) := by decide +kernel
theorem dX8_as_25 : decode cX8_as 25 = .ok (.aload_n 0, 1) := by decide +kernel
theorem dX8_as_26 : decode cX8_as 26 = .ok (.getfield 9, 3) := by decide +kernel
theorem dX8_as_29 : decode cX8_as 29 = .ok (.bipush 18, 2) := by decide +kernel
theorem dX8_as_31 : decode cX8_as 31 = .ok (.iload_n 1, 1) := by decide +kernel
theorem dX8_as_32 : decode cX8_as 32 = .ok (.iadd, 1) := by decide +kernel
theorem dX8_as_33 : decode cX8_as 33 = .ok (.iaload, 1) := by decide +kernel
theorem dX8_as_34 : decode cX8_as 34 = .ok (.istore_n 3, 1) := by decide +kernel
theorem dX8_as_35 : decode cX8_as 35 = .ok (.iload_n 3, 1) := by decide +kernel
theorem dX8_as_36 : decode cX8_as 36 = .ok (.ifCond .ge 9, 3) := by decide +kernel
theorem dX8_as_39 : decode cX8_as 39 = .ok (.aload_n 0, 1) := by decide +kernel
theorem dX8_as_40 : decode cX8_as 40 = .ok (.iconst 5, 1) := by decide +kernel
theorem dX8_as_41 : decode cX8_as 41 = .ok (.invokevirtual 74, 3) := by decide +kernel
theorem dX8_as_44 : decode cX8_as 44 = .ok (.ireturn, 1) := by decide +kernel
theorem dX8_as_45 : decode cX8_as 45 = .ok (.aload_n 0, 1) := by decide +kernel
theorem dX8_as_46 : decode cX8_as 46 = .ok (.getfield 9, 3) := by decide +kernel
theorem dX8_as_49 : decode cX8_as 49 = .ok (.bipush 28, 2) := by decide +kernel
theorem dX8_as_51 : decode cX8_as 51 = .ok (.iload_n 3, 1) := by decide +kernel
theorem dX8_as_52 : decode cX8_as 52 = .ok (.iadd, 1) := by decide +kernel
theorem dX8_as_53 : decode cX8_as 53 = .ok (.iaload, 1) := by decide +kernel
theorem dX8_as_54 : decode cX8_as 54 = .ok (.iload_n 2, 1) := by decide +kernel
theorem dX8_as_55 : decode cX8_as 55 = .ok (.invokestatic 346, 3) := by decide +kernel
theorem dX8_as_58 : decode cX8_as 58 = .ok (.ifCond .eq 7, 3) := by decide +kernel
theorem dX8_as_61 : decode cX8_as 61 = .ok (.iload_n 3, 1) := by decide +kernel
theorem dX8_as_62 : decode cX8_as 62 = .ok (.goto 8, 3) := by decide +kernel
theorem dX8_as_65 : decode cX8_as 65 = .ok (.aload_n 0, 1) := by decide +kernel
theorem dX8_as_66 : decode cX8_as 66 = .ok (.iconst 2, 1) := by decide +kernel
theorem dX8_as_67 : decode cX8_as 67 = .ok (.invokevirtual 74, 3) := by decide +kernel
theorem dX8_as_70 : decode cX8_as 70 = .ok (.ireturn, 1) := by decide +kernel
theorem dX8_isSheet_0 : decode cX8_isSheet 0 = .ok (.iload_n 0, 1) := by decide +kernel
theorem dX8_isSheet_1 : decode cX8_isSheet 1 = .ok (.i2l, 1) := by decide +kernel
theorem dX8_isSheet_2 : decode cX8_isSheet 2 = .ok (.lconst 0, 1) := by decide +kernel
theorem dX8_isSheet_3 : decode cX8_isSheet 3 = .ok (.ldc2_w 349, 3) := by decide +kernel
theorem dX8_isSheet_6 : decode cX8_isSheet 6 = .ok (.invokestatic 54, 3) := by decide +kernel
theorem dX8_isSheet_9 : decode cX8_isSheet 9 = .ok (.ireturn, 1) := by decide +kernel
theorem dX8_cut_0 : decode cX8_cut 0 = .ok (.iload_n 1, 1) := by decide +kernel
theorem dX8_cut_1 : decode cX8_cut 1 = .ok (.bipush 8, 2) := by decide +kernel
theorem dX8_cut_3 : decode cX8_cut 3 = .ok (.if_icmp .ne 8, 3) := by decide +kernel
theorem dX8_cut_6 : decode cX8_cut 6 = .ok (.iload_n 0, 1) := by decide +kernel
theorem dX8_cut_7 : decode cX8_cut 7 = .ok (.i2b, 1) := by decide +kernel
theorem dX8_cut_8 : decode cX8_cut 8 = .ok (.goto 15, 3) := by decide +kernel
theorem dX8_cut_11 : decode cX8_cut 11 = .ok (.iload_n 1, 1) := by decide +kernel
theorem dX8_cut_12 : decode cX8_cut 12 = .ok (.bipush 16, 2) := by decide +kernel
theorem dX8_cut_14 : decode cX8_cut 14 = .ok (.if_icmp .ne 8, 3) := by decide +kernel
theorem dX8_cut_17 : decode cX8_cut 17 = .ok (.iload_n 0, 1) := by decide +kernel
theorem dX8_cut_18 : decode cX8_cut 18 = .ok (.i2s, 1) := by decide +kernel
theorem dX8_cut_19 : decode cX8_cut 19 = .ok (.goto 4, 3) := by decide +kernel
theorem dX8_cut_22 : decode cX8_cut 22 = .ok (.iload_n 0, 1) := by decide +kernel
theorem dX8_cut_23 : decode cX8_cut 23 = .ok (.ireturn, 1) := by decide +kernel
theorem dX8_sheet_0 : decode cX8_sheet 0 = .ok (.iload_n 2, 1) := by decide +kernel
theorem dX8_sheet_1 : decode cX8_sheet 1 = .ok (.ifCond .eq 21, 3) := by decide +kernel
theorem dX8_sheet_4 : decode cX8_sheet 4 = .ok (.iload_n 2, 1) := by decide +kernel
theorem dX8_sheet_5 : decode cX8_sheet 5 = .ok (.bipush 8, 2) := by decide +kernel
theorem dX8_sheet_7 : decode cX8_sheet 7 = .ok (.if_icmp .eq 15, 3) := by decide +kernel
theorem dX8_sheet_10 : decode cX8_sheet 10 = .ok (.iload_n 2, 1) := by decide +kernel
theorem dX8_sheet_11 : decode cX8_sheet 11 = .ok (.bipush 16, 2) := by decide +kernel
theorem dX8_sheet_13 : decode cX8_sheet 13 = .ok (.if_icmp .eq 9, 3) := by decide +kernel
theorem dX8_sheet_16 : decode cX8_sheet 16 = .ok (.iload_n 2, 1) := by decide +kernel
theorem dX8_sheet_17 : decode cX8_sheet 17 = .ok (.bipush 32, 2) := by decide +kernel
theorem dX8_sheet_19 : decode cX8_sheet 19 = .ok (.if_icmp .ne 7, 3) := by decide +kernel
theorem dX8_sheet_22 : decode cX8_sheet 22 = .ok (.iconst 1, 1) := by decide +kernel
theorem dX8_sheet_23 : decode cX8_sheet 23 = .ok (.goto 4, 3) := by decide +kernel
theorem dX8_sheet_26 : decode cX8_sheet 26 = .ok (.iconst 0, 1) := by decide +kernel
theorem dX8_sheet_27 : decode cX8_sheet 27 = .ok (.istore 4, 2) := by decide +kernel
theorem dX8_sheet_29 : decode cX8_sheet 29 = .ok (.iload_n 1, 1) := by decide +kernel
theorem dX8_sheet_30 : decode cX8_sheet 30 = .ok (.invokestatic 351, 3) := by decide +kernel
theorem dX8_sheet_33 : decode cX8_sheet 33 = .ok (.ifCond .eq 8, 3) := by decide +kernel
theorem dX8_sheet_36 : decode cX8_sheet 36 = .ok (.iload 4, 2) := by decide +kernel
theorem dX8_sheet_38 : decode cX8_sheet 38 = .ok (.ifCond .ne 9, 3) := by decide +kernel
theorem dX8_sheet_41 : decode cX8_sheet 41 = .ok (.aload_n 0, 1) := by decide +kernel
theorem dX8_sheet_42 : decode cX8_sheet 42 = .ok (.iconst 0, 1) := by decide +kernel
theorem dX8_sheet_43 : decode cX8_sheet 43 = .ok (.invokevirtual 74, 3) := by decide +kernel
theorem dX8_sheet_46 : decode cX8_sheet 46 = .ok (.ireturn, 1) := by decide +kernel
theorem dX8_sheet_47 : decode cX8_sheet 47 = .ok (.iload_n 3, 1) := by decide +kernel
theorem dX8_sheet_48 : decode cX8_sheet 48 = .ok (.ifCond .ge 10, 3) := by decide +kernel
theorem dX8_sheet_51 : decode cX8_sheet 51 = .ok (.aload_n 0, 1) := by decide +kernel
theorem dX8_sheet_52 : decode cX8_sheet 52 = .ok (.bipush 6, 2) := by decide +kernel
theorem dX8_sheet_54 : decode cX8_sheet 54 = .ok (.invokevirtual 74, 3) := by decide +kernel
theorem dX8_sheet_57 : decode cX8_sheet 57 = .ok (.ireturn, 1) := by decide +kernel
theorem dX8_sheet_58 : decode cX8_sheet 58 = .ok (.iload_n 3, 1) := by decide +kernel
theorem dX8_sheet_59 : decode cX8_sheet 59 = .ok (.bipush 40, 2) := by decide +kernel
theorem dX8_sheet_61 : decode cX8_sheet 61 = .ok (.if_icmp .le 9, 3) := by decide +kernel
theorem dX8_sheet_64 : decode cX8_sheet 64 = .ok (.aload_n 0, 1) := by decide +kernel
theorem dX8_sheet_65 : decode cX8_sheet 65 = .ok (.iconst 0, 1) := by decide +kernel
theorem dX8_sheet_66 : decode cX8_sheet 66 = .ok (.invokevirtual 74, 3) := by decide +kernel
theorem dX8_sheet_69 : decode cX8_sheet 69 = .ok (.ireturn, 1) := by decide +kernel
theorem dX8_sheet_70 : decode cX8_sheet 70 = .ok (.aload_n 0, 1) := by decide +kernel
theorem dX8_sheet_71 : decode cX8_sheet 71 = .ok (.getfield 31, 3) := by decide +kernel
theorem dX8_sheet_74 : decode cX8_sheet 74 = .ok (.iload_n 1, 1) := by decide +kernel
theorem dX8_sheet_75 : decode cX8_sheet 75 = .ok (.iload_n 2, 1) := by decide +kernel
theorem dX8_sheet_76 : decode cX8_sheet 76 = .ok (.iastore, 1) := by decide +kernel
theorem dX8_sheet_77 : decode cX8_sheet 77 = .ok (.aload_n 0, 1) := by decide +kernel
theorem dX8_sheet_78 : decode cX8_sheet 78 = .ok (.getfield 34, 3) := by decide +kernel
theorem dX8_sheet_81 : decode cX8_sheet 81 = .ok (.iload_n 1, 1) := by decide +kernel
theorem dX8_sheet_82 : decode cX8_sheet 82 = .ok (.iload_n 2, 1) := by decide +kernel
theorem dX8_sheet_83 : decode cX8_sheet 83 = .ok (.ifCond .ne 7, 3) := by decide +kernel
theorem dX8_sheet_86 : decode cX8_sheet 86 = .ok (.iconst 0, 1) := by decide +kernel
theorem dX8_sheet_87 : decode cX8_sheet 87 = .ok (.goto 4, 3) := by decide +kernel
theorem dX8_sheet_90 : decode cX8_sheet 90 = .ok (.iload_n 3, 1) := by decide +kernel
theorem dX8_sheet_91 : decode cX8_sheet 91 = .ok (.iastore, 1) := by decide +kernel
theorem dX8_sheet_92 : decode cX8_sheet 92 = .ok (.iconst 0, 1) := by decide +kernel
theorem dX8_sheet_93 : decode cX8_sheet 93 = .ok (.istore 5, 2) := by decide +kernel
theorem dX8_sheet_95 : decode cX8_sheet 95 = .ok (.iload 5, 2) := by decide +kernel
theorem dX8_sheet_97 : decode cX8_sheet 97 = .ok (.bipush 40, 2) := by decide +kernel
theorem dX8_sheet_99 : decode cX8_sheet 99 = .ok (.if_icmp .ge 22, 3) := by decide +kernel
theorem dX8_sheet_102 : decode cX8_sheet 102 = .ok (.aload_n 0, 1) := by decide +kernel
theorem dX8_sheet_103 : decode cX8_sheet 103 = .ok (.getfield 37, 3) := by decide +kernel
theorem dX8_sheet_106 : decode cX8_sheet 106 = .ok (.bipush 40, 2) := by decide +kernel
theorem dX8_sheet_108 : decode cX8_sheet 108 = .ok (.iload_n 1, 1) := by decide +kernel
theorem dX8_sheet_109 : decode cX8_sheet 109 = .ok (.imul, 1) := by decide +kernel
theorem dX8_sheet_110 : decode cX8_sheet 110 = .ok (.iload 5, 2) := by decide +kernel
theorem dX8_sheet_112 : decode cX8_sheet 112 = .ok (.iadd, 1) := by decide +kernel
theorem dX8_sheet_113 : decode cX8_sheet 113 = .ok (.iconst 0, 1) := by decide +kernel
theorem dX8_sheet_114 : decode cX8_sheet 114 = .ok (.iastore, 1) := by decide +kernel
theorem dX8_sheet_115 : decode cX8_sheet 115 = .ok (.iinc 5 1, 3) := by decide +kernel
theorem dX8_sheet_118 : decode cX8_sheet 118 = .ok (.goto (-23), 3) := by decide +kernel
theorem dX8_sheet_121 : decode cX8_sheet 121 = .ok (.aload_n 0, 1) := by decide +kernel
theorem dX8_sheet_122 : decode cX8_sheet 122 = .ok (.getfield 34, 3) := by decide +kernel
theorem dX8_sheet_125 : decode cX8_sheet 125 = .ok (.iload_n 1, 1) := by decide +kernel
theorem dX8_sheet_126 : decode cX8_sheet 126 = .ok (.iaload, 1) := by decide +kernel
theorem dX8_sheet_127 : decode cX8_sheet 127 = .ok (.ireturn, 1) := by decide +kernel
theorem dX8_lacksOf_0 : decode cX8_lacksOf 0 = .ok (.iload_n 1, 1) := by decide +kernel
theorem dX8_lacksOf_1 : decode cX8_lacksOf 1 = .ok (.invokestatic 351, 3) := by decide +kernel
theorem dX8_lacksOf_4 : decode cX8_lacksOf 4 = .ok (.ifCond .ne 7, 3) := by decide +kernel
theorem dX8_lacksOf_7 : decode cX8_lacksOf 7 = .ok (.iconst 0, 1) := by decide +kernel
theorem dX8_lacksOf_8 : decode cX8_lacksOf 8 = .ok (.goto 17, 3) := by decide +kernel
theorem dX8_lacksOf_11 : decode cX8_lacksOf 11 = .ok (.aload_n 0, 1) := by decide +kernel
theorem dX8_lacksOf_12 : decode cX8_lacksOf 12 = .ok (.getfield 31, 3) := by decide +kernel
theorem dX8_lacksOf_15 : decode cX8_lacksOf 15 = .ok (.iload_n 1, 1) := by decide +kernel
theorem dX8_lacksOf_16 : decode cX8_lacksOf 16 = .ok (.iaload, 1) := by decide +kernel
theorem dX8_lacksOf_17 : decode cX8_lacksOf 17 = .ok (.ifCond .ne 7, 3) := by decide +kernel
theorem dX8_lacksOf_20 : decode cX8_lacksOf 20 = .ok (.iconst 5, 1) := by decide +kernel
theorem dX8_lacksOf_21 : decode cX8_lacksOf 21 = .ok (.goto 4, 3) := by decide +kernel
theorem dX8_lacksOf_24 : decode cX8_lacksOf 24 = .ok (.iconst (-1), 1) := by decide +kernel
theorem dX8_lacksOf_25 : decode cX8_lacksOf 25 = .ok (.ireturn, 1) := by decide +kernel
theorem dX8_write_0 : decode cX8_write 0 = .ok (.aload_n 0, 1) := by decide +kernel
theorem dX8_write_1 : decode cX8_write 1 = .ok (.iload_n 1, 1) := by decide +kernel
theorem dX8_write_2 : decode cX8_write 2 = .ok (.invokevirtual 354, 3) := by decide +kernel
theorem dX8_write_5 : decode cX8_write 5 = .ok (.istore 4, 2) := by decide +kernel
theorem dX8_write_7 : decode cX8_write 7 = .ok (.iload 4, 2) := by decide +kernel
theorem dX8_write_9 : decode cX8_write 9 = .ok (.ifCond .lt 10, 3) := by decide +kernel
theorem dX8_write_12 : decode cX8_write 12 = .ok (.aload_n 0, 1) := by decide +kernel
theorem dX8_write_13 : decode cX8_write 13 = .ok (.iload 4, 2) := by decide +kernel
theorem dX8_write_15 : decode cX8_write 15 = .ok (.invokevirtual 74, 3) := by decide +kernel
theorem dX8_write_18 : decode cX8_write 18 = .ok (.ireturn, 1) := by decide +kernel
theorem dX8_write_19 : decode cX8_write 19 = .ok (.iload_n 2, 1) := by decide +kernel
theorem dX8_write_20 : decode cX8_write 20 = .ok (.i2l, 1) := by decide +kernel
theorem dX8_write_21 : decode cX8_write 21 = .ok (.lconst 0, 1) := by decide +kernel
theorem dX8_write_22 : decode cX8_write 22 = .ok (.aload_n 0, 1) := by decide +kernel
theorem dX8_write_23 : decode cX8_write 23 = .ok (.getfield 34, 3) := by decide +kernel
theorem dX8_write_26 : decode cX8_write 26 = .ok (.iload_n 1, 1) := by decide +kernel
theorem dX8_write_27 : decode cX8_write 27 = .ok (.iaload, 1) := by decide +kernel
theorem dX8_write_28 : decode cX8_write 28 = .ok (.iconst 1, 1) := by decide +kernel
theorem dX8_write_29 : decode cX8_write 29 = .ok (.isub, 1) := by decide +kernel
theorem dX8_write_30 : decode cX8_write 30 = .ok (.i2l, 1) := by decide +kernel
theorem dX8_write_31 : decode cX8_write 31 = .ok (.invokestatic 54, 3) := by decide +kernel
theorem dX8_write_34 : decode cX8_write 34 = .ok (.ifCond .ne 9, 3) := by decide +kernel
theorem dX8_write_37 : decode cX8_write 37 = .ok (.aload_n 0, 1) := by decide +kernel
theorem dX8_write_38 : decode cX8_write 38 = .ok (.iconst 0, 1) := by decide +kernel
theorem dX8_write_39 : decode cX8_write 39 = .ok (.invokevirtual 74, 3) := by decide +kernel
theorem dX8_write_42 : decode cX8_write 42 = .ok (.ireturn, 1) := by decide +kernel
theorem dX8_write_43 : decode cX8_write 43 = .ok (.aload_n 0, 1) := by decide +kernel
theorem dX8_write_44 : decode cX8_write 44 = .ok (.getfield 37, 3) := by decide +kernel
theorem dX8_write_47 : decode cX8_write 47 = .ok (.bipush 40, 2) := by decide +kernel
theorem dX8_write_49 : decode cX8_write 49 = .ok (.iload_n 1, 1) := by decide +kernel
theorem dX8_write_50 : decode cX8_write 50 = .ok (.imul, 1) := by decide +kernel
theorem dX8_write_51 : decode cX8_write 51 = .ok (.iload_n 2, 1) := by decide +kernel
theorem dX8_write_52 : decode cX8_write 52 = .ok (.iadd, 1) := by decide +kernel
theorem dX8_write_53 : decode cX8_write 53 = .ok (.iload_n 3, 1) := by decide +kernel
theorem dX8_write_54 : decode cX8_write 54 = .ok (.aload_n 0, 1) := by decide +kernel
theorem dX8_write_55 : decode cX8_write 55 = .ok (.getfield 31, 3) := by decide +kernel
theorem dX8_write_58 : decode cX8_write 58 = .ok (.iload_n 1, 1) := by decide +kernel
theorem dX8_write_59 : decode cX8_write 59 = .ok (.iaload, 1) := by decide +kernel
theorem dX8_write_60 : decode cX8_write 60 = .ok (.invokestatic 357, 3) := by decide +kernel
theorem dX8_write_63 : decode cX8_write 63 = .ok (.iastore, 1) := by decide +kernel
theorem dX8_write_64 : decode cX8_write 64 = .ok (.iconst 1, 1) := by decide +kernel
theorem dX8_write_65 : decode cX8_write 65 = .ok (.ireturn, 1) := by decide +kernel
theorem dX8_copy_0 : decode cX8_copy 0 = .ok (.iload_n 1, 1) := by decide +kernel
theorem dX8_copy_1 : decode cX8_copy 1 = .ok (.invokestatic 351, 3) := by decide +kernel
theorem dX8_copy_4 : decode cX8_copy 4 = .ok (.ifCond .eq 10, 3) := by decide +kernel
theorem dX8_copy_7 : decode cX8_copy 7 = .ok (.iload_n 3, 1) := by decide +kernel
theorem dX8_copy_8 : decode cX8_copy 8 = .ok (.invokestatic 351, 3) := by decide +kernel
theorem dX8_copy_11 : decode cX8_copy 11 = .ok (.ifCond .ne 9, 3) := by decide +kernel
theorem dX8_copy_14 : decode cX8_copy 14 = .ok (.aload_n 0, 1) := by decide +kernel
theorem dX8_copy_15 : decode cX8_copy 15 = .ok (.iconst 0, 1) := by decide +kernel
theorem dX8_copy_16 : decode cX8_copy 16 = .ok (.invokevirtual 74, 3) := by decide +kernel
theorem dX8_copy_19 : decode cX8_copy 19 = .ok (.ireturn, 1) := by decide +kernel
theorem dX8_copy_20 : decode cX8_copy 20 = .ok (.aload_n 0, 1) := by decide +kernel
theorem dX8_copy_21 : decode cX8_copy 21 = .ok (.getfield 31, 3) := by decide +kernel
theorem dX8_copy_24 : decode cX8_copy 24 = .ok (.iload_n 1, 1) := by decide +kernel
theorem dX8_copy_25 : decode cX8_copy 25 = .ok (.iaload, 1) := by decide +kernel
theorem dX8_copy_26 : decode cX8_copy 26 = .ok (.ifCond .eq 12, 3) := by decide +kernel
theorem dX8_copy_29 : decode cX8_copy 29 = .ok (.aload_n 0, 1) := by decide +kernel
theorem dX8_copy_30 : decode cX8_copy 30 = .ok (.getfield 31, 3) := by decide +kernel
theorem dX8_copy_33 : decode cX8_copy 33 = .ok (.iload_n 3, 1) := by decide +kernel
theorem dX8_copy_34 : decode cX8_copy 34 = .ok (.iaload, 1) := by decide +kernel
theorem dX8_copy_35 : decode cX8_copy 35 = .ok (.ifCond .ne 9, 3) := by decide +kernel
theorem dX8_copy_38 : decode cX8_copy 38 = .ok (.aload_n 0, 1) := by decide +kernel
theorem dX8_copy_39 : decode cX8_copy 39 = .ok (.iconst 5, 1) := by decide +kernel
theorem dX8_copy_40 : decode cX8_copy 40 = .ok (.invokevirtual 74, 3) := by decide +kernel
theorem dX8_copy_43 : decode cX8_copy 43 = .ok (.ireturn, 1) := by decide +kernel
theorem dX8_copy_44 : decode cX8_copy 44 = .ok (.aload_n 0, 1) := by decide +kernel
theorem dX8_copy_45 : decode cX8_copy 45 = .ok (.getfield 31, 3) := by decide +kernel
theorem dX8_copy_48 : decode cX8_copy 48 = .ok (.iload_n 1, 1) := by decide +kernel
theorem dX8_copy_49 : decode cX8_copy 49 = .ok (.iaload, 1) := by decide +kernel
theorem dX8_copy_50 : decode cX8_copy 50 = .ok (.aload_n 0, 1) := by decide +kernel
theorem dX8_copy_51 : decode cX8_copy 51 = .ok (.getfield 31, 3) := by decide +kernel
theorem dX8_copy_54 : decode cX8_copy 54 = .ok (.iload_n 3, 1) := by decide +kernel
theorem dX8_copy_55 : decode cX8_copy 55 = .ok (.iaload, 1) := by decide +kernel
theorem dX8_copy_56 : decode cX8_copy 56 = .ok (.if_icmp .eq 9, 3) := by decide +kernel
theorem dX8_copy_59 : decode cX8_copy 59 = .ok (.aload_n 0, 1) := by decide +kernel
theorem dX8_copy_60 : decode cX8_copy 60 = .ok (.iconst 2, 1) := by decide +kernel
theorem dX8_copy_61 : decode cX8_copy 61 = .ok (.invokevirtual 74, 3) := by decide +kernel
theorem dX8_copy_64 : decode cX8_copy 64 = .ok (.ireturn, 1) := by decide +kernel
theorem dX8_copy_65 : decode cX8_copy 65 = .ok (.iload 5, 2) := by decide +kernel
theorem dX8_copy_67 : decode cX8_copy 67 = .ok (.ifCond .lt 51, 3) := by decide +kernel
theorem dX8_copy_70 : decode cX8_copy 70 = .ok (.iload_n 2, 1) := by decide +kernel
theorem dX8_copy_71 : decode cX8_copy 71 = .ok (.ifCond .lt 47, 3) := by decide +kernel
theorem dX8_copy_74 : decode cX8_copy 74 = .ok (.iload 4, 2) := by decide +kernel
theorem dX8_copy_76 : decode cX8_copy 76 = .ok (.ifCond .lt 42, 3) := by decide +kernel
theorem dX8_copy_79 : decode cX8_copy 79 = .ok (.iload_n 2, 1) := by decide +kernel
theorem dX8_copy_80 : decode cX8_copy 80 = .ok (.i2l, 1) := by decide +kernel
theorem dX8_copy_81 : decode cX8_copy 81 = .ok (.iload 5, 2) := by decide +kernel
theorem dX8_copy_83 : decode cX8_copy 83 = .ok (.i2l, 1) := by decide +kernel
theorem dX8_copy_84 : decode cX8_copy 84 = .ok (.ladd, 1) := by decide +kernel
theorem dX8_copy_85 : decode cX8_copy 85 = .ok (.aload_n 0, 1) := by decide +kernel
theorem dX8_copy_86 : decode cX8_copy 86 = .ok (.getfield 34, 3) := by decide +kernel
theorem dX8_copy_89 : decode cX8_copy 89 = .ok (.iload_n 1, 1) := by decide +kernel
theorem dX8_copy_90 : decode cX8_copy 90 = .ok (.iaload, 1) := by decide +kernel
theorem dX8_copy_91 : decode cX8_copy 91 = .ok (.i2l, 1) := by decide +kernel
theorem dX8_copy_92 : decode cX8_copy 92 = .ok (.lcmp, 1) := by decide +kernel
theorem dX8_copy_93 : decode cX8_copy 93 = .ok (.ifCond .gt 25, 3) := by decide +kernel
theorem dX8_copy_96 : decode cX8_copy 96 = .ok (.iload 4, 2) := by decide +kernel
theorem dX8_copy_98 : decode cX8_copy 98 = .ok (.i2l, 1) := by decide +kernel
theorem dX8_copy_99 : decode cX8_copy 99 = .ok (.iload 5, 2) := by decide +kernel
theorem dX8_copy_101 : decode cX8_copy 101 = .ok (.i2l, 1) := by decide +kernel
theorem dX8_copy_102 : decode cX8_copy 102 = .ok (.ladd, 1) := by decide +kernel
theorem dX8_copy_103 : decode cX8_copy 103 = .ok (.aload_n 0, 1) := by decide +kernel
theorem dX8_copy_104 : decode cX8_copy 104 = .ok (.getfield 34, 3) := by decide +kernel
theorem dX8_copy_107 : decode cX8_copy 107 = .ok (.iload_n 3, 1) := by decide +kernel
theorem dX8_copy_108 : decode cX8_copy 108 = .ok (.iaload, 1) := by decide +kernel
theorem dX8_copy_109 : decode cX8_copy 109 = .ok (.i2l, 1) := by decide +kernel
theorem dX8_copy_110 : decode cX8_copy 110 = .ok (.lcmp, 1) := by decide +kernel
theorem dX8_copy_111 : decode cX8_copy 111 = .ok (.ifCond .gt 7, 3) := by decide +kernel
theorem dX8_copy_114 : decode cX8_copy 114 = .ok (.iconst 1, 1) := by decide +kernel
theorem dX8_copy_115 : decode cX8_copy 115 = .ok (.goto 4, 3) := by decide +kernel
theorem dX8_copy_118 : decode cX8_copy 118 = .ok (.iconst 0, 1) := by decide +kernel
theorem dX8_copy_119 : decode cX8_copy 119 = .ok (.istore 6, 2) := by decide +kernel
theorem dX8_copy_121 : decode cX8_copy 121 = .ok (.iload 6, 2) := by decide +kernel
theorem dX8_copy_123 : decode cX8_copy 123 = .ok (.ifCond .ne 9, 3) := by decide +kernel
theorem dX8_copy_126 : decode cX8_copy 126 = .ok (.aload_n 0, 1) := by decide +kernel
theorem dX8_copy_127 : decode cX8_copy 127 = .ok (.iconst 0, 1) := by decide +kernel
theorem dX8_copy_128 : decode cX8_copy 128 = .ok (.invokevirtual 74, 3) := by decide +kernel
theorem dX8_copy_131 : decode cX8_copy 131 = .ok (.ireturn, 1) := by decide +kernel
theorem dX8_copy_132 : decode cX8_copy 132 = .ok (.iconst 0, 1) := by decide +kernel
theorem dX8_copy_133 : decode cX8_copy 133 = .ok (.istore 7, 2) := by decide +kernel
theorem dX8_copy_135 : decode cX8_copy 135 = .ok (.iload 7, 2) := by decide +kernel
theorem dX8_copy_137 : decode cX8_copy 137 = .ok (.iload 5, 2) := by decide +kernel
theorem dX8_copy_139 : decode cX8_copy 139 = .ok (.if_icmp .ge 30, 3) := by decide +kernel
theorem dX8_copy_142 : decode cX8_copy 142 = .ok (.aload_n 0, 1) := by decide +kernel
theorem dX8_copy_143 : decode cX8_copy 143 = .ok (.getfield 40, 3) := by decide +kernel
theorem dX8_copy_146 : decode cX8_copy 146 = .ok (.iload 7, 2) := by decide +kernel
theorem dX8_copy_148 : decode cX8_copy 148 = .ok (.aload_n 0, 1) := by decide +kernel
theorem dX8_copy_149 : decode cX8_copy 149 = .ok (.getfield 37, 3) := by decide +kernel
theorem dX8_copy_152 : decode cX8_copy 152 = .ok (.bipush 40, 2) := by decide +kernel
theorem dX8_copy_154 : decode cX8_copy 154 = .ok (.iload_n 1, 1) := by decide +kernel
theorem dX8_copy_155 : decode cX8_copy 155 = .ok (.imul, 1) := by decide +kernel
theorem dX8_copy_156 : decode cX8_copy 156 = .ok (.iload_n 2, 1) := by decide +kernel
theorem dX8_copy_157 : decode cX8_copy 157 = .ok (.iadd, 1) := by decide +kernel
theorem dX8_copy_158 : decode cX8_copy 158 = .ok (.iload 7, 2) := by decide +kernel
theorem dX8_copy_160 : decode cX8_copy 160 = .ok (.iadd, 1) := by decide +kernel
theorem dX8_copy_161 : decode cX8_copy 161 = .ok (.iaload, 1) := by decide +kernel
theorem dX8_copy_162 : decode cX8_copy 162 = .ok (.iastore, 1) := by decide +kernel
theorem dX8_copy_163 : decode cX8_copy 163 = .ok (.iinc 7 1, 3) := by decide +kernel
theorem dX8_copy_166 : decode cX8_copy 166 = .ok (.goto (-31), 3) := by decide +kernel
theorem dX8_copy_169 : decode cX8_copy 169 = .ok (.iconst 0, 1) := by decide +kernel
theorem dX8_copy_170 : decode cX8_copy 170 = .ok (.istore 7, 2) := by decide +kernel
theorem dX8_copy_172 : decode cX8_copy 172 = .ok (.iload 7, 2) := by decide +kernel
theorem dX8_copy_174 : decode cX8_copy 174 = .ok (.iload 5, 2) := by decide +kernel
theorem dX8_copy_176 : decode cX8_copy 176 = .ok (.if_icmp .ge 31, 3) := by decide +kernel
theorem dX8_copy_179 : decode cX8_copy 179 = .ok (.aload_n 0, 1) := by decide +kernel
theorem dX8_copy_180 : decode cX8_copy 180 = .ok (.getfield 37, 3) := by decide +kernel
theorem dX8_copy_183 : decode cX8_copy 183 = .ok (.bipush 40, 2) := by decide +kernel
theorem dX8_copy_185 : decode cX8_copy 185 = .ok (.iload_n 3, 1) := by decide +kernel
theorem dX8_copy_186 : decode cX8_copy 186 = .ok (.imul, 1) := by decide +kernel
theorem dX8_copy_187 : decode cX8_copy 187 = .ok (.iload 4, 2) := by decide +kernel
theorem dX8_copy_189 : decode cX8_copy 189 = .ok (.iadd, 1) := by decide +kernel
theorem dX8_copy_190 : decode cX8_copy 190 = .ok (.iload 7, 2) := by decide +kernel
theorem dX8_copy_192 : decode cX8_copy 192 = .ok (.iadd, 1) := by decide +kernel
theorem dX8_copy_193 : decode cX8_copy 193 = .ok (.aload_n 0, 1) := by decide +kernel
theorem dX8_copy_194 : decode cX8_copy 194 = .ok (.getfield 40, 3) := by decide +kernel
theorem dX8_copy_197 : decode cX8_copy 197 = .ok (.iload 7, 2) := by decide +kernel
theorem dX8_copy_199 : decode cX8_copy 199 = .ok (.iaload, 1) := by decide +kernel
theorem dX8_copy_200 : decode cX8_copy 200 = .ok (.iastore, 1) := by decide +kernel
theorem dX8_copy_201 : decode cX8_copy 201 = .ok (.iinc 7 1, 3) := by decide +kernel
theorem dX8_copy_204 : decode cX8_copy 204 = .ok (.goto (-32), 3) := by decide +kernel
theorem dX8_copy_207 : decode cX8_copy 207 = .ok (.iload 5, 2) := by decide +kernel
theorem dX8_copy_209 : decode cX8_copy 209 = .ok (.ireturn, 1) := by decide +kernel
theorem dX8_load_0 : decode cX8_load 0 = .ok (.aload_n 0, 1) := by decide +kernel
theorem dX8_load_1 : decode cX8_load 1 = .ok (.iload_n 1, 1) := by decide +kernel
theorem dX8_load_2 : decode cX8_load 2 = .ok (.invokevirtual 354, 3) := by decide +kernel
theorem dX8_load_5 : decode cX8_load 5 = .ok (.istore_n 2, 1) := by decide +kernel
theorem dX8_load_6 : decode cX8_load 6 = .ok (.iload_n 2, 1) := by decide +kernel
theorem dX8_load_7 : decode cX8_load 7 = .ok (.ifCond .lt 9, 3) := by decide +kernel
theorem dX8_load_10 : decode cX8_load 10 = .ok (.aload_n 0, 1) := by decide +kernel
theorem dX8_load_11 : decode cX8_load 11 = .ok (.iload_n 2, 1) := by decide +kernel
theorem dX8_load_12 : decode cX8_load 12 = .ok (.invokevirtual 74, 3) := by decide +kernel
theorem dX8_load_15 : decode cX8_load 15 = .ok (.ireturn, 1) := by decide +kernel
theorem dX8_load_16 : decode cX8_load 16 = .ok (.iconst 0, 1) := by decide +kernel
theorem dX8_load_17 : decode cX8_load 17 = .ok (.istore_n 3, 1) := by decide +kernel
theorem dX8_load_18 : decode cX8_load 18 = .ok (.iload_n 3, 1) := by decide +kernel
theorem dX8_load_19 : decode cX8_load 19 = .ok (.aload_n 0, 1) := by decide +kernel
theorem dX8_load_20 : decode cX8_load 20 = .ok (.getfield 34, 3) := by decide +kernel
theorem dX8_load_23 : decode cX8_load 23 = .ok (.iload_n 1, 1) := by decide +kernel
theorem dX8_load_24 : decode cX8_load 24 = .ok (.iaload, 1) := by decide +kernel
theorem dX8_load_25 : decode cX8_load 25 = .ok (.if_icmp .ge 57, 3) := by decide +kernel
theorem dX8_load_28 : decode cX8_load 28 = .ok (.iload_n 3, 1) := by decide +kernel
theorem dX8_load_29 : decode cX8_load 29 = .ok (.aload_n 0, 1) := by decide +kernel
theorem dX8_load_30 : decode cX8_load 30 = .ok (.getfield 9, 3) := by decide +kernel
theorem dX8_load_33 : decode cX8_load 33 = .ok (.bipush 11, 2) := by decide +kernel
theorem dX8_load_35 : decode cX8_load 35 = .ok (.iaload, 1) := by decide +kernel
theorem dX8_load_36 : decode cX8_load 36 = .ok (.if_icmp .ge 46, 3) := by decide +kernel
theorem dX8_load_39 : decode cX8_load 39 = .ok (.aload_n 0, 1) := by decide +kernel
theorem dX8_load_40 : decode cX8_load 40 = .ok (.getfield 37, 3) := by decide +kernel
theorem dX8_load_43 : decode cX8_load 43 = .ok (.bipush 40, 2) := by decide +kernel
theorem dX8_load_45 : decode cX8_load 45 = .ok (.iload_n 1, 1) := by decide +kernel
theorem dX8_load_46 : decode cX8_load 46 = .ok (.imul, 1) := by decide +kernel
theorem dX8_load_47 : decode cX8_load 47 = .ok (.iload_n 3, 1) := by decide +kernel
theorem dX8_load_48 : decode cX8_load 48 = .ok (.iadd, 1) := by decide +kernel
theorem dX8_load_49 : decode cX8_load 49 = .ok (.iaload, 1) := by decide +kernel
theorem dX8_load_50 : decode cX8_load 50 = .ok (.invokestatic 70, 3) := by decide +kernel
theorem dX8_load_53 : decode cX8_load 53 = .ok (.ifCond .eq 29, 3) := by decide +kernel
theorem dX8_load_56 : decode cX8_load 56 = .ok (.aload_n 0, 1) := by decide +kernel
theorem dX8_load_57 : decode cX8_load 57 = .ok (.getfield 9, 3) := by decide +kernel
theorem dX8_load_60 : decode cX8_load 60 = .ok (.bipush 36, 2) := by decide +kernel
theorem dX8_load_62 : decode cX8_load 62 = .ok (.iload_n 3, 1) := by decide +kernel
theorem dX8_load_63 : decode cX8_load 63 = .ok (.iadd, 1) := by decide +kernel
theorem dX8_load_64 : decode cX8_load 64 = .ok (.aload_n 0, 1) := by decide +kernel
theorem dX8_load_65 : decode cX8_load 65 = .ok (.getfield 37, 3) := by decide +kernel
theorem dX8_load_68 : decode cX8_load 68 = .ok (.bipush 40, 2) := by decide +kernel
theorem dX8_load_70 : decode cX8_load 70 = .ok (.iload_n 1, 1) := by decide +kernel
theorem dX8_load_71 : decode cX8_load 71 = .ok (.imul, 1) := by decide +kernel
theorem dX8_load_72 : decode cX8_load 72 = .ok (.iload_n 3, 1) := by decide +kernel
theorem dX8_load_73 : decode cX8_load 73 = .ok (.iadd, 1) := by decide +kernel
theorem dX8_load_74 : decode cX8_load 74 = .ok (.iaload, 1) := by decide +kernel
theorem dX8_load_75 : decode cX8_load 75 = .ok (.iastore, 1) := by decide +kernel
theorem dX8_load_76 : decode cX8_load 76 = .ok (.iinc 3 1, 3) := by decide +kernel
theorem dX8_load_79 : decode cX8_load 79 = .ok (.goto (-61), 3) := by decide +kernel
theorem dX8_load_82 : decode cX8_load 82 = .ok (.iload_n 3, 1) := by decide +kernel
theorem dX8_load_83 : decode cX8_load 83 = .ok (.ireturn, 1) := by decide +kernel
theorem dX8_isStep_0 : decode cX8_isStep 0 = .ok (.iload_n 1, 1) := by decide +kernel
theorem dX8_isStep_1 : decode cX8_isStep 1 = .ok (.bipush 8, 2) := by decide +kernel
theorem dX8_isStep_3 : decode cX8_isStep 3 = .ok (.irem, 1) := by decide +kernel
theorem dX8_isStep_4 : decode cX8_isStep 4 = .ok (.istore_n 3, 1) := by decide +kernel
theorem dX8_isStep_5 : decode cX8_isStep 5 = .ok (.iload_n 1, 1) := by decide +kernel
theorem dX8_isStep_6 : decode cX8_isStep 6 = .ok (.bipush 8, 2) := by decide +kernel
theorem dX8_isStep_8 : decode cX8_isStep 8 = .ok (.idiv, 1) := by decide +kernel
theorem dX8_isStep_9 : decode cX8_isStep 9 = .ok (.istore 4, 2) := by decide +kernel
theorem dX8_isStep_11 : decode cX8_isStep 11 = .ok (.iload_n 2, 1) := by decide +kernel
theorem dX8_isStep_12 : decode cX8_isStep 12 = .ok (.bipush 8, 2) := by decide +kernel
theorem dX8_isStep_14 : decode cX8_isStep 14 = .ok (.idiv, 1) := by decide +kernel
theorem dX8_isStep_15 : decode cX8_isStep 15 = .ok (.iload 4, 2) := by decide +kernel
theorem dX8_isStep_17 : decode cX8_isStep 17 = .ok (.if_icmp .ne 19, 3) := by decide +kernel
theorem dX8_isStep_20 : decode cX8_isStep 20 = .ok (.aload_n 0, 1) := by decide +kernel
theorem dX8_isStep_21 : decode cX8_isStep 21 = .ok (.iload_n 3, 1) := by decide +kernel
theorem dX8_isStep_22 : decode cX8_isStep 22 = .ok (.iload_n 2, 1) := by decide +kernel
theorem dX8_isStep_23 : decode cX8_isStep 23 = .ok (.bipush 8, 2) := by decide +kernel
theorem dX8_isStep_25 : decode cX8_isStep 25 = .ok (.irem, 1) := by decide +kernel
theorem dX8_isStep_26 : decode cX8_isStep 26 = .ok (.invokevirtual 77, 3) := by decide +kernel
theorem dX8_isStep_29 : decode cX8_isStep 29 = .ok (.ifCond .eq 7, 3) := by decide +kernel
theorem dX8_isStep_32 : decode cX8_isStep 32 = .ok (.iconst 1, 1) := by decide +kernel
theorem dX8_isStep_33 : decode cX8_isStep 33 = .ok (.goto 4, 3) := by decide +kernel
theorem dX8_isStep_36 : decode cX8_isStep 36 = .ok (.iconst 0, 1) := by decide +kernel
theorem dX8_isStep_37 : decode cX8_isStep 37 = .ok (.istore 5, 2) := by decide +kernel
theorem dX8_isStep_39 : decode cX8_isStep 39 = .ok (.iload_n 3, 1) := by decide +kernel
theorem dX8_isStep_40 : decode cX8_isStep 40 = .ok (.aload_n 0, 1) := by decide +kernel
theorem dX8_isStep_41 : decode cX8_isStep 41 = .ok (.getfield 9, 3) := by decide +kernel
theorem dX8_isStep_44 : decode cX8_isStep 44 = .ok (.bipush 8, 2) := by decide +kernel
theorem dX8_isStep_46 : decode cX8_isStep 46 = .ok (.iaload, 1) := by decide +kernel
theorem dX8_isStep_47 : decode cX8_isStep 47 = .ok (.if_icmp .ne 32, 3) := by decide +kernel
theorem dX8_isStep_50 : decode cX8_isStep 50 = .ok (.iload 4, 2) := by decide +kernel
theorem dX8_isStep_52 : decode cX8_isStep 52 = .ok (.iconst 4, 1) := by decide +kernel
theorem dX8_isStep_53 : decode cX8_isStep 53 = .ok (.if_icmp .ge 26, 3) := by decide +kernel
theorem dX8_isStep_56 : decode cX8_isStep 56 = .ok (.iload_n 2, 1) := by decide +kernel
theorem dX8_isStep_57 : decode cX8_isStep 57 = .ok (.bipush 8, 2) := by decide +kernel
theorem dX8_isStep_59 : decode cX8_isStep 59 = .ok (.iload 4, 2) := by decide +kernel
theorem dX8_isStep_61 : decode cX8_isStep 61 = .ok (.iconst 1, 1) := by decide +kernel
theorem dX8_isStep_62 : decode cX8_isStep 62 = .ok (.iadd, 1) := by decide +kernel
theorem dX8_isStep_63 : decode cX8_isStep 63 = .ok (.imul, 1) := by decide +kernel
theorem dX8_isStep_64 : decode cX8_isStep 64 = .ok (.aload_n 0, 1) := by decide +kernel
theorem dX8_isStep_65 : decode cX8_isStep 65 = .ok (.getfield 9, 3) := by decide +kernel
theorem dX8_isStep_68 : decode cX8_isStep 68 = .ok (.bipush 9, 2) := by decide +kernel
theorem dX8_isStep_70 : decode cX8_isStep 70 = .ok (.iaload, 1) := by decide +kernel
theorem dX8_isStep_71 : decode cX8_isStep 71 = .ok (.iadd, 1) := by decide +kernel
theorem dX8_isStep_72 : decode cX8_isStep 72 = .ok (.if_icmp .ne 7, 3) := by decide +kernel
theorem dX8_isStep_75 : decode cX8_isStep 75 = .ok (.iconst 1, 1) := by decide +kernel
theorem dX8_isStep_76 : decode cX8_isStep 76 = .ok (.goto 4, 3) := by decide +kernel
theorem dX8_isStep_79 : decode cX8_isStep 79 = .ok (.iconst 0, 1) := by decide +kernel
theorem dX8_isStep_80 : decode cX8_isStep 80 = .ok (.istore 6, 2) := by decide +kernel
theorem dX8_isStep_82 : decode cX8_isStep 82 = .ok (.iload_n 3, 1) := by decide +kernel
theorem dX8_isStep_83 : decode cX8_isStep 83 = .ok (.aload_n 0, 1) := by decide +kernel
theorem dX8_isStep_84 : decode cX8_isStep 84 = .ok (.getfield 9, 3) := by decide +kernel
theorem dX8_isStep_87 : decode cX8_isStep 87 = .ok (.bipush 9, 2) := by decide +kernel
theorem dX8_isStep_89 : decode cX8_isStep 89 = .ok (.iaload, 1) := by decide +kernel
theorem dX8_isStep_90 : decode cX8_isStep 90 = .ok (.if_icmp .ne 31, 3) := by decide +kernel
theorem dX8_isStep_93 : decode cX8_isStep 93 = .ok (.iload 4, 2) := by decide +kernel
theorem dX8_isStep_95 : decode cX8_isStep 95 = .ok (.ifCond .le 26, 3) := by decide +kernel
theorem dX8_isStep_98 : decode cX8_isStep 98 = .ok (.iload_n 2, 1) := by decide +kernel
theorem dX8_isStep_99 : decode cX8_isStep 99 = .ok (.bipush 8, 2) := by decide +kernel
theorem dX8_isStep_101 : decode cX8_isStep 101 = .ok (.iload 4, 2) := by decide +kernel
theorem dX8_isStep_103 : decode cX8_isStep 103 = .ok (.iconst 1, 1) := by decide +kernel
theorem dX8_isStep_104 : decode cX8_isStep 104 = .ok (.isub, 1) := by decide +kernel
theorem dX8_isStep_105 : decode cX8_isStep 105 = .ok (.imul, 1) := by decide +kernel
theorem dX8_isStep_106 : decode cX8_isStep 106 = .ok (.aload_n 0, 1) := by decide +kernel
theorem dX8_isStep_107 : decode cX8_isStep 107 = .ok (.getfield 9, 3) := by decide +kernel
theorem dX8_isStep_110 : decode cX8_isStep 110 = .ok (.bipush 8, 2) := by decide +kernel
theorem dX8_isStep_112 : decode cX8_isStep 112 = .ok (.iaload, 1) := by decide +kernel
theorem dX8_isStep_113 : decode cX8_isStep 113 = .ok (.iadd, 1) := by decide +kernel
theorem dX8_isStep_114 : decode cX8_isStep 114 = .ok (.if_icmp .ne 7, 3) := by decide +kernel
theorem dX8_isStep_117 : decode cX8_isStep 117 = .ok (.iconst 1, 1) := by decide +kernel
theorem dX8_isStep_118 : decode cX8_isStep 118 = .ok (.goto 4, 3) := by decide +kernel
theorem dX8_isStep_121 : decode cX8_isStep 121 = .ok (.iconst 0, 1) := by decide +kernel
theorem dX8_isStep_122 : decode cX8_isStep 122 = .ok (.istore 7, 2) := by decide +kernel
theorem dX8_isStep_124 : decode cX8_isStep 124 = .ok (.iload 5, 2) := by decide +kernel
theorem dX8_isStep_126 : decode cX8_isStep 126 = .ok (.ifCond .ne 13, 3) := by decide +kernel
theorem dX8_isStep_129 : decode cX8_isStep 129 = .ok (.iload 6, 2) := by decide +kernel
theorem dX8_isStep_131 : decode cX8_isStep 131 = .ok (.ifCond .ne 8, 3) := by decide +kernel
theorem dX8_isStep_134 : decode cX8_isStep 134 = .ok (.iload 7, 2) := by decide +kernel
theorem dX8_isStep_136 : decode cX8_isStep 136 = .ok (.ifCond .eq 7, 3) := by decide +kernel
theorem dX8_isStep_139 : decode cX8_isStep 139 = .ok (.iconst 1, 1) := by decide +kernel
theorem dX8_isStep_140 : decode cX8_isStep 140 = .ok (.goto 4, 3) := by decide +kernel
theorem dX8_isStep_143 : decode cX8_isStep 143 = .ok (.iconst 0, 1) := by decide +kernel
theorem dX8_isStep_144 : decode cX8_isStep 144 = .ok (.ireturn, 1) := by decide +kernel
theorem dX8_judge_0 : decode cX8_judge 0 = .ok (.aload_n 0, 1) := by decide +kernel
theorem dX8_judge_1 : decode cX8_judge 1 = .ok (.iload_n 1, 1) := by decide +kernel
theorem dX8_judge_2 : decode cX8_judge 2 = .ok (.invokevirtual 354, 3) := by decide +kernel
theorem dX8_judge_5 : decode cX8_judge 5 = .ok (.istore_n 3, 1) := by decide +kernel
theorem dX8_judge_6 : decode cX8_judge 6 = .ok (.iload_n 3, 1) := by decide +kernel
theorem dX8_judge_7 : decode cX8_judge 7 = .ok (.ifCond .lt 9, 3) := by decide +kernel
theorem dX8_judge_10 : decode cX8_judge 10 = .ok (.aload_n 0, 1) := by decide +kernel
theorem dX8_judge_11 : decode cX8_judge 11 = .ok (.iload_n 3, 1) := by decide +kernel
theorem dX8_judge_12 : decode cX8_judge 12 = .ok (.invokevirtual 74, 3) := by decide +kernel
theorem dX8_judge_15 : decode cX8_judge 15 = .ok (.ireturn, 1) := by decide +kernel
theorem dX8_judge_16 : decode cX8_judge 16 = .ok (.aload_n 0, 1) := by decide +kernel
theorem dX8_judge_17 : decode cX8_judge 17 = .ok (.iload_n 2, 1) := by decide +kernel
theorem dX8_judge_18 : decode cX8_judge 18 = .ok (.invokevirtual 106, 3) := by decide +kernel
theorem dX8_judge_21 : decode cX8_judge 21 = .ok (.ifCond .ne 9, 3) := by decide +kernel
theorem dX8_judge_24 : decode cX8_judge 24 = .ok (.aload_n 0, 1) := by decide +kernel
theorem dX8_judge_25 : decode cX8_judge 25 = .ok (.iconst 0, 1) := by decide +kernel
theorem dX8_judge_26 : decode cX8_judge 26 = .ok (.invokevirtual 74, 3) := by decide +kernel
theorem dX8_judge_29 : decode cX8_judge 29 = .ok (.ireturn, 1) := by decide +kernel
theorem dX8_judge_30 : decode cX8_judge 30 = .ok (.iconst 0, 1) := by decide +kernel
theorem dX8_judge_31 : decode cX8_judge 31 = .ok (.istore 4, 2) := by decide +kernel
theorem dX8_judge_33 : decode cX8_judge 33 = .ok (.iload 4, 2) := by decide +kernel
theorem dX8_judge_35 : decode cX8_judge 35 = .ok (.aload_n 0, 1) := by decide +kernel
theorem dX8_judge_36 : decode cX8_judge 36 = .ok (.getfield 34, 3) := by decide +kernel
theorem dX8_judge_39 : decode cX8_judge 39 = .ok (.iload_n 1, 1) := by decide +kernel
theorem dX8_judge_40 : decode cX8_judge 40 = .ok (.iaload, 1) := by decide +kernel
theorem dX8_judge_41 : decode cX8_judge 41 = .ok (.if_icmp .ge 93, 3) := by decide +kernel
theorem dX8_judge_44 : decode cX8_judge 44 = .ok (.aload_n 0, 1) := by decide +kernel
theorem dX8_judge_45 : decode cX8_judge 45 = .ok (.getfield 37, 3) := by decide +kernel
theorem dX8_judge_48 : decode cX8_judge 48 = .ok (.bipush 40, 2) := by decide +kernel
theorem dX8_judge_50 : decode cX8_judge 50 = .ok (.iload_n 1, 1) := by decide +kernel
theorem dX8_judge_51 : decode cX8_judge 51 = .ok (.imul, 1) := by decide +kernel
theorem dX8_judge_52 : decode cX8_judge 52 = .ok (.iload 4, 2) := by decide +kernel
theorem dX8_judge_54 : decode cX8_judge 54 = .ok (.iadd, 1) := by decide +kernel
theorem dX8_judge_55 : decode cX8_judge 55 = .ok (.iaload, 1) := by decide +kernel
theorem dX8_judge_56 : decode cX8_judge 56 = .ok (.istore 5, 2) := by decide +kernel
theorem dX8_judge_58 : decode cX8_judge 58 = .ok (.iload 5, 2) := by decide +kernel
theorem dX8_judge_60 : decode cX8_judge 60 = .ok (.invokestatic 99, 3) := by decide +kernel
theorem dX8_judge_63 : decode cX8_judge 63 = .ok (.ifCond .eq 52, 3) := by decide +kernel
theorem dX8_judge_66 : decode cX8_judge 66 = .ok (.iload 4, 2) := by decide +kernel
theorem dX8_judge_68 : decode cX8_judge 68 = .ok (.ifCond .ne 20, 3) := by decide +kernel
theorem dX8_judge_71 : decode cX8_judge 71 = .ok (.iload 5, 2) := by decide +kernel
theorem dX8_judge_73 : decode cX8_judge 73 = .ok (.aload_n 0, 1) := by decide +kernel
theorem dX8_judge_74 : decode cX8_judge 74 = .ok (.getfield 9, 3) := by decide +kernel
theorem dX8_judge_77 : decode cX8_judge 77 = .ok (.bipush 52, 2) := by decide +kernel
theorem dX8_judge_79 : decode cX8_judge 79 = .ok (.iload_n 2, 1) := by decide +kernel
theorem dX8_judge_80 : decode cX8_judge 80 = .ok (.iadd, 1) := by decide +kernel
theorem dX8_judge_81 : decode cX8_judge 81 = .ok (.iaload, 1) := by decide +kernel
theorem dX8_judge_82 : decode cX8_judge 82 = .ok (.if_icmp .ne 33, 3) := by decide +kernel
theorem dX8_judge_85 : decode cX8_judge 85 = .ok (.goto 26, 3) := by decide +kernel
theorem dX8_judge_88 : decode cX8_judge 88 = .ok (.aload_n 0, 1) := by decide +kernel
theorem dX8_judge_89 : decode cX8_judge 89 = .ok (.aload_n 0, 1) := by decide +kernel
theorem dX8_judge_90 : decode cX8_judge 90 = .ok (.getfield 37, 3) := by decide +kernel
theorem dX8_judge_93 : decode cX8_judge 93 = .ok (.bipush 40, 2) := by decide +kernel
theorem dX8_judge_95 : decode cX8_judge 95 = .ok (.iload_n 1, 1) := by decide +kernel
theorem dX8_judge_96 : decode cX8_judge 96 = .ok (.imul, 1) := by decide +kernel
theorem dX8_judge_97 : decode cX8_judge 97 = .ok (.iload 4, 2) := by decide +kernel
theorem dX8_judge_99 : decode cX8_judge 99 = .ok (.iadd, 1) := by decide +kernel
theorem dX8_judge_100 : decode cX8_judge 100 = .ok (.iconst 1, 1) := by decide +kernel
theorem dX8_judge_101 : decode cX8_judge 101 = .ok (.isub, 1) := by decide +kernel
theorem dX8_judge_102 : decode cX8_judge 102 = .ok (.iaload, 1) := by decide +kernel
theorem dX8_judge_103 : decode cX8_judge 103 = .ok (.iload 5, 2) := by decide +kernel
theorem dX8_judge_105 : decode cX8_judge 105 = .ok (.invokevirtual 360, 3) := by decide +kernel
theorem dX8_judge_108 : decode cX8_judge 108 = .ok (.ifCond .eq 7, 3) := by decide +kernel
theorem dX8_judge_111 : decode cX8_judge 111 = .ok (.iconst 1, 1) := by decide +kernel
theorem dX8_judge_112 : decode cX8_judge 112 = .ok (.goto 4, 3) := by decide +kernel
theorem dX8_judge_115 : decode cX8_judge 115 = .ok (.iconst 0, 1) := by decide +kernel
theorem dX8_judge_116 : decode cX8_judge 116 = .ok (.istore 6, 2) := by decide +kernel
theorem dX8_judge_118 : decode cX8_judge 118 = .ok (.iload 6, 2) := by decide +kernel
theorem dX8_judge_120 : decode cX8_judge 120 = .ok (.ifCond .ne 8, 3) := by decide +kernel
theorem dX8_judge_123 : decode cX8_judge 123 = .ok (.iconst 1, 1) := by decide +kernel
theorem dX8_judge_124 : decode cX8_judge 124 = .ok (.iload 4, 2) := by decide +kernel
theorem dX8_judge_126 : decode cX8_judge 126 = .ok (.iadd, 1) := by decide +kernel
theorem dX8_judge_127 : decode cX8_judge 127 = .ok (.ireturn, 1) := by decide +kernel
theorem dX8_judge_128 : decode cX8_judge 128 = .ok (.iinc 4 1, 3) := by decide +kernel
theorem dX8_judge_131 : decode cX8_judge 131 = .ok (.goto (-98), 3) := by decide +kernel
theorem dX8_judge_134 : decode cX8_judge 134 = .ok (.iconst 0, 1) := by decide +kernel
theorem dX8_judge_135 : decode cX8_judge 135 = .ok (.ireturn, 1) := by decide +kernel
theorem dX8_image_0 : decode cX8_image 0 = .ok (.aload_n 0, 1) := by decide +kernel
theorem dX8_image_1 : decode cX8_image 1 = .ok (.getfield 9, 3) := by decide +kernel
theorem dX8_image_4 : decode cX8_image 4 = .ok (.aload_n 0, 1) := by decide +kernel
theorem dX8_image_5 : decode cX8_image 5 = .ok (.getfield 13, 3) := by decide +kernel
theorem dX8_image_8 : decode cX8_image 8 = .ok (.invokestatic 47, 3) := by decide +kernel
theorem dX8_image_11 : decode cX8_image 11 = .ok (.aload_n 0, 1) := by decide +kernel
theorem dX8_image_12 : decode cX8_image 12 = .ok (.iconst 1, 1) := by decide +kernel
theorem dX8_image_13 : decode cX8_image 13 = .ok (.putfield 363, 3) := by decide +kernel
theorem dX8_image_16 : decode cX8_image 16 = .ok (.iconst 1, 1) := by decide +kernel
theorem dX8_image_17 : decode cX8_image 17 = .ok (.ireturn, 1) := by decide +kernel
theorem dX8_undo_0 : decode cX8_undo 0 = .ok (.aload_n 0, 1) := by decide +kernel
theorem dX8_undo_1 : decode cX8_undo 1 = .ok (.getfield 363, 3) := by decide +kernel
theorem dX8_undo_4 : decode cX8_undo 4 = .ok (.ifCond .ne 9, 3) := by decide +kernel
theorem dX8_undo_7 : decode cX8_undo 7 = .ok (.aload_n 0, 1) := by decide +kernel
theorem dX8_undo_8 : decode cX8_undo 8 = .ok (.iconst 3, 1) := by decide +kernel
theorem dX8_undo_9 : decode cX8_undo 9 = .ok (.invokevirtual 74, 3) := by decide +kernel
theorem dX8_undo_12 : decode cX8_undo 12 = .ok (.ireturn, 1) := by decide +kernel
theorem dX8_undo_13 : decode cX8_undo 13 = .ok (.aload_n 0, 1) := by decide +kernel
theorem dX8_undo_14 : decode cX8_undo 14 = .ok (.getfield 13, 3) := by decide +kernel
theorem dX8_undo_17 : decode cX8_undo 17 = .ok (.aload_n 0, 1) := by decide +kernel
theorem dX8_undo_18 : decode cX8_undo 18 = .ok (.getfield 9, 3) := by decide +kernel
theorem dX8_undo_21 : decode cX8_undo 21 = .ok (.invokestatic 47, 3) := by decide +kernel
theorem dX8_undo_24 : decode cX8_undo 24 = .ok (.aload_n 0, 1) := by decide +kernel
theorem dX8_undo_25 : decode cX8_undo 25 = .ok (.getfield 9, 3) := by decide +kernel
theorem dX8_undo_28 : decode cX8_undo 28 = .ok (.bipush 15, 2) := by decide +kernel
theorem dX8_undo_30 : decode cX8_undo 30 = .ok (.iaload, 1) := by decide +kernel
theorem dX8_undo_31 : decode cX8_undo 31 = .ok (.ireturn, 1) := by decide +kernel
theorem dX8_tear_0 : decode cX8_tear 0 = .ok (.aload_n 0, 1) := by decide +kernel
theorem dX8_tear_1 : decode cX8_tear 1 = .ok (.getfield 363, 3) := by decide +kernel
theorem dX8_tear_4 : decode cX8_tear 4 = .ok (.ifCond .eq 7, 3) := by decide +kernel
theorem dX8_tear_7 : decode cX8_tear 7 = .ok (.iconst 1, 1) := by decide +kernel
theorem dX8_tear_8 : decode cX8_tear 8 = .ok (.goto 4, 3) := by decide +kernel
theorem dX8_tear_11 : decode cX8_tear 11 = .ok (.iconst 0, 1) := by decide +kernel
theorem dX8_tear_12 : decode cX8_tear 12 = .ok (.istore_n 1, 1) := by decide +kernel
theorem dX8_tear_13 : decode cX8_tear 13 = .ok (.aload_n 0, 1) := by decide +kernel
theorem dX8_tear_14 : decode cX8_tear 14 = .ok (.iconst 0, 1) := by decide +kernel
theorem dX8_tear_15 : decode cX8_tear 15 = .ok (.putfield 363, 3) := by decide +kernel
theorem dX8_tear_18 : decode cX8_tear 18 = .ok (.iload_n 1, 1) := by decide +kernel
theorem dX8_tear_19 : decode cX8_tear 19 = .ok (.ireturn, 1) := by decide +kernel
theorem dX8_holding_0 : decode cX8_holding 0 = .ok (.iconst 0, 1) := by decide +kernel
theorem dX8_holding_1 : decode cX8_holding 1 = .ok (.istore_n 1, 1) := by decide +kernel
theorem dX8_holding_2 : decode cX8_holding 2 = .ok (.iconst 0, 1) := by decide +kernel
theorem dX8_holding_3 : decode cX8_holding 3 = .ok (.istore_n 2, 1) := by decide +kernel
theorem dX8_holding_4 : decode cX8_holding 4 = .ok (.iload_n 2, 1) := by decide +kernel
theorem dX8_holding_5 : decode cX8_holding 5 = .ok (.bipush 10, 2) := by decide +kernel
theorem dX8_holding_7 : decode cX8_holding 7 = .ok (.if_icmp .ge 29, 3) := by decide +kernel
theorem dX8_holding_10 : decode cX8_holding 10 = .ok (.iload_n 1, 1) := by decide +kernel
theorem dX8_holding_11 : decode cX8_holding 11 = .ok (.aload_n 0, 1) := by decide +kernel
theorem dX8_holding_12 : decode cX8_holding 12 = .ok (.getfield 9, 3) := by decide +kernel
theorem dX8_holding_15 : decode cX8_holding 15 = .ok (.bipush 18, 2) := by decide +kernel
theorem dX8_holding_17 : decode cX8_holding 17 = .ok (.iload_n 2, 1) := by decide +kernel
theorem dX8_holding_18 : decode cX8_holding 18 = .ok (.iadd, 1) := by decide +kernel
theorem dX8_holding_19 : decode cX8_holding 19 = .ok (.iaload, 1) := by decide +kernel
theorem dX8_holding_20 : decode cX8_holding 20 = .ok (.ifCond .ge 7, 3) := by decide +kernel
theorem dX8_holding_23 : decode cX8_holding 23 = .ok (.iconst 0, 1) := by decide +kernel
theorem dX8_holding_24 : decode cX8_holding 24 = .ok (.goto 4, 3) := by decide +kernel
theorem dX8_holding_27 : decode cX8_holding 27 = .ok (.iconst 1, 1) := by decide +kernel
theorem dX8_holding_28 : decode cX8_holding 28 = .ok (.iadd, 1) := by decide +kernel
theorem dX8_holding_29 : decode cX8_holding 29 = .ok (.istore_n 1, 1) := by decide +kernel
theorem dX8_holding_30 : decode cX8_holding 30 = .ok (.iinc 2 1, 3) := by decide +kernel
theorem dX8_holding_33 : decode cX8_holding 33 = .ok (.goto (-29), 3) := by decide +kernel
theorem dX8_holding_36 : decode cX8_holding 36 = .ok (.iload_n 1, 1) := by decide +kernel
theorem dX8_holding_37 : decode cX8_holding 37 = .ok (.ireturn, 1) := by decide +kernel
theorem dX8_count_0 : decode cX8_count 0 = .ok (.iload_n 1, 1) := by decide +kernel
theorem dX8_count_1 : decode cX8_count 1 = .ok (.tableswitch 105 0 7 #[47, 55, 63, 71, 79, 87, 92, 100], 47) := by decide +kernel
theorem dX8_count_48 : decode cX8_count 48 = .ok (.aload_n 0, 1) := by decide +kernel
theorem dX8_count_49 : decode cX8_count 49 = .ok (.getfield 9, 3) := by decide +kernel
theorem dX8_count_52 : decode cX8_count 52 = .ok (.bipush 15, 2) := by decide +kernel
theorem dX8_count_54 : decode cX8_count 54 = .ok (.iaload, 1) := by decide +kernel
theorem dX8_count_55 : decode cX8_count 55 = .ok (.ireturn, 1) := by decide +kernel
theorem dX8_count_56 : decode cX8_count 56 = .ok (.aload_n 0, 1) := by decide +kernel
theorem dX8_count_57 : decode cX8_count 57 = .ok (.getfield 9, 3) := by decide +kernel
theorem dX8_count_60 : decode cX8_count 60 = .ok (.bipush 11, 2) := by decide +kernel
theorem dX8_count_62 : decode cX8_count 62 = .ok (.iaload, 1) := by decide +kernel
theorem dX8_count_63 : decode cX8_count 63 = .ok (.ireturn, 1) := by decide +kernel
theorem dX8_count_64 : decode cX8_count 64 = .ok (.aload_n 0, 1) := by decide +kernel
theorem dX8_count_65 : decode cX8_count 65 = .ok (.getfield 9, 3) := by decide +kernel
theorem dX8_count_68 : decode cX8_count 68 = .ok (.bipush 12, 2) := by decide +kernel
theorem dX8_count_70 : decode cX8_count 70 = .ok (.iaload, 1) := by decide +kernel
theorem dX8_count_71 : decode cX8_count 71 = .ok (.ireturn, 1) := by decide +kernel
theorem dX8_count_72 : decode cX8_count 72 = .ok (.aload_n 0, 1) := by decide +kernel
theorem dX8_count_73 : decode cX8_count 73 = .ok (.getfield 9, 3) := by decide +kernel
theorem dX8_count_76 : decode cX8_count 76 = .ok (.bipush 13, 2) := by decide +kernel
theorem dX8_count_78 : decode cX8_count 78 = .ok (.iaload, 1) := by decide +kernel
theorem dX8_count_79 : decode cX8_count 79 = .ok (.ireturn, 1) := by decide +kernel
theorem dX8_count_80 : decode cX8_count 80 = .ok (.aload_n 0, 1) := by decide +kernel
theorem dX8_count_81 : decode cX8_count 81 = .ok (.getfield 9, 3) := by decide +kernel
theorem dX8_count_84 : decode cX8_count 84 = .ok (.bipush 14, 2) := by decide +kernel
theorem dX8_count_86 : decode cX8_count 86 = .ok (.iaload, 1) := by decide +kernel
theorem dX8_count_87 : decode cX8_count 87 = .ok (.ireturn, 1) := by decide +kernel
theorem dX8_count_88 : decode cX8_count 88 = .ok (.aload_n 0, 1) := by decide +kernel
theorem dX8_count_89 : decode cX8_count 89 = .ok (.getfield 243, 3) := by decide +kernel
theorem dX8_count_92 : decode cX8_count 92 = .ok (.ireturn, 1) := by decide +kernel
theorem dX8_count_93 : decode cX8_count 93 = .ok (.aload_n 0, 1) := by decide +kernel
theorem dX8_count_94 : decode cX8_count 94 = .ok (.getfield 9, 3) := by decide +kernel
theorem dX8_count_97 : decode cX8_count 97 = .ok (.bipush 16, 2) := by decide +kernel
theorem dX8_count_99 : decode cX8_count 99 = .ok (.iaload, 1) := by decide +kernel
theorem dX8_count_100 : decode cX8_count 100 = .ok (.ireturn, 1) := by decide +kernel
theorem dX8_count_101 : decode cX8_count 101 = .ok (.aload_n 0, 1) := by decide +kernel
theorem dX8_count_102 : decode cX8_count 102 = .ok (.invokevirtual 366, 3) := by decide +kernel
theorem dX8_count_105 : decode cX8_count 105 = .ok (.ireturn, 1) := by decide +kernel
theorem dX8_count_106 : decode cX8_count 106 = .ok (.aload_n 0, 1) := by decide +kernel
theorem dX8_count_107 : decode cX8_count 107 = .ok (.iconst 0, 1) := by decide +kernel
theorem dX8_count_108 : decode cX8_count 108 = .ok (.invokevirtual 74, 3) := by decide +kernel
theorem dX8_count_111 : decode cX8_count 111 = .ok (.ireturn, 1) := by decide +kernel
theorem dX8_status_0 : decode cX8_status 0 = .ok (.iload_n 1, 1) := by decide +kernel
theorem dX8_status_1 : decode cX8_status 1 = .ok (.i2l, 1) := by decide +kernel
theorem dX8_status_2 : decode cX8_status 2 = .ok (.ldc2_w 207, 3) := by decide +kernel
theorem dX8_status_5 : decode cX8_status 5 = .ok (.ldc2_w 58, 3) := by decide +kernel
theorem dX8_status_8 : decode cX8_status 8 = .ok (.invokestatic 54, 3) := by decide +kernel
theorem dX8_status_11 : decode cX8_status 11 = .ok (.ifCond .ne 9, 3) := by decide +kernel
theorem dX8_status_14 : decode cX8_status 14 = .ok (.aload_n 0, 1) := by decide +kernel
theorem dX8_status_15 : decode cX8_status 15 = .ok (.iconst 0, 1) := by decide +kernel
theorem dX8_status_16 : decode cX8_status 16 = .ok (.invokevirtual 74, 3) := by decide +kernel
theorem dX8_status_19 : decode cX8_status 19 = .ok (.ireturn, 1) := by decide +kernel
theorem dX8_status_20 : decode cX8_status 20 = .ok (.iconst 0, 1) := by decide +kernel
theorem dX8_status_21 : decode cX8_status 21 = .ok (.istore_n 2, 1) := by decide +kernel
theorem dX8_status_22 : decode cX8_status 22 = .ok (.iconst 0, 1) := by decide +kernel
theorem dX8_status_23 : decode cX8_status 23 = .ok (.istore_n 3, 1) := by decide +kernel
theorem dX8_status_24 : decode cX8_status 24 = .ok (.iload_n 3, 1) := by decide +kernel
theorem dX8_status_25 : decode cX8_status 25 = .ok (.bipush 7, 2) := by decide +kernel
theorem dX8_status_27 : decode cX8_status 27 = .ok (.if_icmp .ge 31, 3) := by decide +kernel
theorem dX8_status_30 : decode cX8_status 30 = .ok (.iload_n 2, 1) := by decide +kernel
theorem dX8_status_31 : decode cX8_status 31 = .ok (.iload_n 1, 1) := by decide +kernel
theorem dX8_status_32 : decode cX8_status 32 = .ok (.ifCond .lt 8, 3) := by decide +kernel
theorem dX8_status_35 : decode cX8_status 35 = .ok (.iload_n 1, 1) := by decide +kernel
theorem dX8_status_36 : decode cX8_status 36 = .ok (.iload_n 3, 1) := by decide +kernel
theorem dX8_status_37 : decode cX8_status 37 = .ok (.if_icmp .ne 12, 3) := by decide +kernel
theorem dX8_status_40 : decode cX8_status 40 = .ok (.aload_n 0, 1) := by decide +kernel
theorem dX8_status_41 : decode cX8_status 41 = .ok (.getfield 22, 3) := by decide +kernel
theorem dX8_status_44 : decode cX8_status 44 = .ok (.iload_n 3, 1) := by decide +kernel
theorem dX8_status_45 : decode cX8_status 45 = .ok (.iaload, 1) := by decide +kernel
theorem dX8_status_46 : decode cX8_status 46 = .ok (.goto 4, 3) := by decide +kernel
theorem dX8_status_49 : decode cX8_status 49 = .ok (.iconst 0, 1) := by decide +kernel
theorem dX8_status_50 : decode cX8_status 50 = .ok (.iadd, 1) := by decide +kernel
theorem dX8_status_51 : decode cX8_status 51 = .ok (.istore_n 2, 1) := by decide +kernel
theorem dX8_status_52 : decode cX8_status 52 = .ok (.iinc 3 1, 3) := by decide +kernel
theorem dX8_status_55 : decode cX8_status 55 = .ok (.goto (-31), 3) := by decide +kernel
theorem dX8_status_58 : decode cX8_status 58 = .ok (.iload_n 2, 1) := by decide +kernel
theorem dX8_status_59 : decode cX8_status 59 = .ok (.ireturn, 1) := by decide +kernel
theorem dJ9_min_7cf53_0 : decode cJ9_min_7cf53 0 = .ok (.iload_n 0, 1) := by decide +kernel
theorem dJ9_min_7cf53_1 : decode cJ9_min_7cf53 1 = .ok (.iload_n 1, 1) := by decide +kernel
theorem dJ9_min_7cf53_2 : decode cJ9_min_7cf53 2 = .ok (.if_icmp .gt 7, 3) := by decide +kernel
theorem dJ9_min_7cf53_5 : decode cJ9_min_7cf53 5 = .ok (.iload_n 0, 1) := by decide +kernel
theorem dJ9_min_7cf53_6 : decode cJ9_min_7cf53 6 = .ok (.goto 4, 3) := by decide +kernel
theorem dJ9_min_7cf53_9 : decode cJ9_min_7cf53 9 = .ok (.iload_n 1, 1) := by decide +kernel
theorem dJ9_min_7cf53_10 : decode cJ9_min_7cf53 10 = .ok (.ireturn, 1) := by decide +kernel
theorem dJ0_length_8abf5_0 : decode cJ0_length_8abf5 0 = .ok (.aload_n 0, 1) := by decide +kernel
theorem dJ0_length_8abf5_1 : decode cJ0_length_8abf5 1 = .ok (.getfield 9, 3) := by decide +kernel
theorem dJ0_length_8abf5_4 : decode cJ0_length_8abf5 4 = .ok (.arraylength, 1) := by decide +kernel
theorem dJ0_length_8abf5_5 : decode cJ0_length_8abf5 5 = .ok (.aload_n 0, 1) := by decide +kernel
theorem dJ0_length_8abf5_6 : decode cJ0_length_8abf5 6 = .ok (.invokevirtual 335, 3) := by decide +kernel
theorem dJ0_length_8abf5_9 : decode cJ0_length_8abf5 9 = .ok (.ishr, 1) := by decide +kernel
theorem dJ0_length_8abf5_10 : decode cJ0_length_8abf5 10 = .ok (.ireturn, 1) := by decide +kernel
theorem dJ0_charAt_5068e_0 : decode cJ0_charAt_5068e 0 = .ok (.aload_n 0, 1) := by decide +kernel
theorem dJ0_charAt_5068e_1 : decode cJ0_charAt_5068e 1 = .ok (.invokevirtual 492, 3) := by decide +kernel
theorem dJ0_charAt_5068e_4 : decode cJ0_charAt_5068e 4 = .ok (.ifCond .eq 12, 3) := by decide +kernel
theorem dJ0_charAt_5068e_7 : decode cJ0_charAt_5068e 7 = .ok (.aload_n 0, 1) := by decide +kernel
theorem dJ0_charAt_5068e_8 : decode cJ0_charAt_5068e 8 = .ok (.getfield 9, 3) := by decide +kernel
theorem dJ0_charAt_5068e_11 : decode cJ0_charAt_5068e 11 = .ok (.iload_n 1, 1) := by decide +kernel
theorem dJ0_charAt_5068e_12 : decode cJ0_charAt_5068e 12 = .ok (.invokestatic 495, 3) := by decide +kernel
theorem dJ0_charAt_5068e_15 : decode cJ0_charAt_5068e 15 = .ok (.ireturn, 1) := by decide +kernel
theorem dJ0_charAt_5068e_16 : decode cJ0_charAt_5068e 16 = .ok (.aload_n 0, 1) := by decide +kernel
theorem dJ0_charAt_5068e_17 : decode cJ0_charAt_5068e 17 = .ok (.getfield 9, 3) := by decide +kernel
theorem dJ0_charAt_5068e_20 : decode cJ0_charAt_5068e 20 = .ok (.iload_n 1, 1) := by decide +kernel
theorem dJ0_charAt_5068e_21 : decode cJ0_charAt_5068e 21 = .ok (.invokestatic 498, 3) := by decide +kernel
theorem dJ0_charAt_5068e_24 : decode cJ0_charAt_5068e 24 = .ok (.ireturn, 1) := by decide +kernel
theorem dJ0_coder_7d493_0 : decode cJ0_coder_7d493 0 = .ok (.getstatic 38, 3) := by decide +kernel
theorem dJ0_coder_7d493_3 : decode cJ0_coder_7d493 3 = .ok (.ifCond .eq 10, 3) := by decide +kernel
theorem dJ0_coder_7d493_6 : decode cJ0_coder_7d493 6 = .ok (.aload_n 0, 1) := by decide +kernel
theorem dJ0_coder_7d493_7 : decode cJ0_coder_7d493 7 = .ok (.getfield 15, 3) := by decide +kernel
theorem dJ0_coder_7d493_10 : decode cJ0_coder_7d493 10 = .ok (.goto 4, 3) := by decide +kernel
theorem dJ0_coder_7d493_13 : decode cJ0_coder_7d493 13 = .ok (.iconst 1, 1) := by decide +kernel
theorem dJ0_coder_7d493_14 : decode cJ0_coder_7d493 14 = .ok (.ireturn, 1) := by decide +kernel
theorem dJ0_isLatin1_aae02_0 : decode cJ0_isLatin1_aae02 0 = .ok (.getstatic 38, 3) := by decide +kernel
theorem dJ0_isLatin1_aae02_3 : decode cJ0_isLatin1_aae02 3 = .ok (.ifCond .eq 14, 3) := by decide +kernel
theorem dJ0_isLatin1_aae02_6 : decode cJ0_isLatin1_aae02 6 = .ok (.aload_n 0, 1) := by decide +kernel
theorem dJ0_isLatin1_aae02_7 : decode cJ0_isLatin1_aae02 7 = .ok (.getfield 15, 3) := by decide +kernel
theorem dJ0_isLatin1_aae02_10 : decode cJ0_isLatin1_aae02 10 = .ok (.ifCond .ne 7, 3) := by decide +kernel
theorem dJ0_isLatin1_aae02_13 : decode cJ0_isLatin1_aae02 13 = .ok (.iconst 1, 1) := by decide +kernel
theorem dJ0_isLatin1_aae02_14 : decode cJ0_isLatin1_aae02 14 = .ok (.goto 4, 3) := by decide +kernel
theorem dJ0_isLatin1_aae02_17 : decode cJ0_isLatin1_aae02 17 = .ok (.iconst 0, 1) := by decide +kernel
theorem dJ0_isLatin1_aae02_18 : decode cJ0_isLatin1_aae02 18 = .ok (.ireturn, 1) := by decide +kernel
theorem dJ0_checkIndex_df160_0 : decode cJ0_checkIndex_df160 0 = .ok (.iload_n 0, 1) := by decide +kernel
theorem dJ0_checkIndex_df160_1 : decode cJ0_checkIndex_df160 1 = .ok (.iload_n 1, 1) := by decide +kernel
theorem dJ0_checkIndex_df160_2 : decode cJ0_checkIndex_df160 2 = .ok (.getstatic 1053, 3) := by decide +kernel
theorem dJ0_checkIndex_df160_5 : decode cJ0_checkIndex_df160 5 = .ok (.invokestatic 1059, 3) := by decide +kernel
theorem dJ0_checkIndex_df160_8 : decode cJ0_checkIndex_df160 8 = .ok (.pop, 1) := by decide +kernel
theorem dJ0_checkIndex_df160_9 : decode cJ0_checkIndex_df160 9 = .ok (.return_, 1) := by decide +kernel
theorem dJ1_charAt_3b067_0 : decode cJ1_charAt_3b067 0 = .ok (.iload_n 1, 1) := by decide +kernel
theorem dJ1_charAt_3b067_1 : decode cJ1_charAt_3b067 1 = .ok (.aload_n 0, 1) := by decide +kernel
theorem dJ1_charAt_3b067_2 : decode cJ1_charAt_3b067 2 = .ok (.arraylength, 1) := by decide +kernel
theorem dJ1_charAt_3b067_3 : decode cJ1_charAt_3b067 3 = .ok (.invokestatic 9, 3) := by decide +kernel
theorem dJ1_charAt_3b067_6 : decode cJ1_charAt_3b067 6 = .ok (.aload_n 0, 1) := by decide +kernel
theorem dJ1_charAt_3b067_7 : decode cJ1_charAt_3b067 7 = .ok (.iload_n 1, 1) := by decide +kernel
theorem dJ1_charAt_3b067_8 : decode cJ1_charAt_3b067 8 = .ok (.baload, 1) := by decide +kernel
theorem dJ1_charAt_3b067_9 : decode cJ1_charAt_3b067 9 = .ok (.sipush 255, 3) := by decide +kernel
theorem dJ1_charAt_3b067_12 : decode cJ1_charAt_3b067 12 = .ok (.iand, 1) := by decide +kernel
theorem dJ1_charAt_3b067_13 : decode cJ1_charAt_3b067 13 = .ok (.i2c, 1) := by decide +kernel
theorem dJ1_charAt_3b067_14 : decode cJ1_charAt_3b067 14 = .ok (.ireturn, 1) := by decide +kernel
theorem dJ2_getChar_3b067_0 : decode cJ2_getChar_3b067 0 = .ok (.getstatic 44, 3) := by decide +kernel
theorem dJ2_getChar_3b067_3 : decode cJ2_getChar_3b067 3 = .ok (.ifCond .ne 25, 3) := by decide +kernel
theorem dJ2_getChar_3b067_6 : decode cJ2_getChar_3b067 6 = .ok (.iload_n 1, 1) := by decide +kernel
theorem dJ2_getChar_3b067_7 : decode cJ2_getChar_3b067 7 = .ok (.ifCond .lt 11, 3) := by decide +kernel
theorem dJ2_getChar_3b067_10 : decode cJ2_getChar_3b067 10 = .ok (.iload_n 1, 1) := by decide +kernel
theorem dJ2_getChar_3b067_11 : decode cJ2_getChar_3b067 11 = .ok (.aload_n 0, 1) := by decide +kernel
theorem dJ2_getChar_3b067_12 : decode cJ2_getChar_3b067 12 = .ok (.invokestatic 48, 3) := by decide +kernel
theorem dJ2_getChar_3b067_15 : decode cJ2_getChar_3b067 15 = .ok (.if_icmp .lt 13, 3) := by decide +kernel
theorem dJ2_getChar_3b067_18 : decode cJ2_getChar_3b067 18 = .ok (.new 52, 3) := by decide +kernel
theorem dJ2_getChar_3b067_21 : decode cJ2_getChar_3b067 21 = .ok (.dup, 1) := by decide +kernel
theorem dJ2_getChar_3b067_22 : decode cJ2_getChar_3b067 22 = .ok (.ldc 54, 2) := by decide +kernel
theorem dJ2_getChar_3b067_24 : decode cJ2_getChar_3b067 24 = .ok (.invokespecial 56, 3) := by decide +kernel
theorem dJ2_getChar_3b067_27 : decode cJ2_getChar_3b067 27 = .ok (.athrow, 1) := by decide +kernel
theorem dJ2_getChar_3b067_28 : decode cJ2_getChar_3b067 28 = .ok (.iload_n 1, 1) := by decide +kernel
theorem dJ2_getChar_3b067_29 : decode cJ2_getChar_3b067 29 = .ok (.iconst 1, 1) := by decide +kernel
theorem dJ2_getChar_3b067_30 : decode cJ2_getChar_3b067 30 = .ok (.ishl, 1) := by decide +kernel
theorem dJ2_getChar_3b067_31 : decode cJ2_getChar_3b067 31 = .ok (.istore_n 1, 1) := by decide +kernel
theorem dJ2_getChar_3b067_32 : decode cJ2_getChar_3b067 32 = .ok (.aload_n 0, 1) := by decide +kernel
theorem dJ2_getChar_3b067_33 : decode cJ2_getChar_3b067 33 = .ok (.iload_n 1, 1) := by decide +kernel
theorem dJ2_getChar_3b067_34 : decode cJ2_getChar_3b067 34 = .ok (.iinc 1 1, 3) := by decide +kernel
theorem dJ2_getChar_3b067_37 : decode cJ2_getChar_3b067 37 = .ok (.baload, 1) := by decide +kernel
theorem dJ2_getChar_3b067_38 : decode cJ2_getChar_3b067 38 = .ok (.sipush 255, 3) := by decide +kernel
theorem dJ2_getChar_3b067_41 : decode cJ2_getChar_3b067 41 = .ok (.iand, 1) := by decide +kernel
theorem dJ2_getChar_3b067_42 : decode cJ2_getChar_3b067 42 = .ok (.getstatic 59, 3) := by decide +kernel
theorem dJ2_getChar_3b067_45 : decode cJ2_getChar_3b067 45 = .ok (.ishl, 1) := by decide +kernel
theorem dJ2_getChar_3b067_46 : decode cJ2_getChar_3b067 46 = .ok (.aload_n 0, 1) := by decide +kernel
theorem dJ2_getChar_3b067_47 : decode cJ2_getChar_3b067 47 = .ok (.iload_n 1, 1) := by decide +kernel
theorem dJ2_getChar_3b067_48 : decode cJ2_getChar_3b067 48 = .ok (.baload, 1) := by decide +kernel
theorem dJ2_getChar_3b067_49 : decode cJ2_getChar_3b067 49 = .ok (.sipush 255, 3) := by decide +kernel
theorem dJ2_getChar_3b067_52 : decode cJ2_getChar_3b067 52 = .ok (.iand, 1) := by decide +kernel
theorem dJ2_getChar_3b067_53 : decode cJ2_getChar_3b067 53 = .ok (.getstatic 63, 3) := by decide +kernel
theorem dJ2_getChar_3b067_56 : decode cJ2_getChar_3b067 56 = .ok (.ishl, 1) := by decide +kernel
theorem dJ2_getChar_3b067_57 : decode cJ2_getChar_3b067 57 = .ok (.ior, 1) := by decide +kernel
theorem dJ2_getChar_3b067_58 : decode cJ2_getChar_3b067 58 = .ok (.i2c, 1) := by decide +kernel
theorem dJ2_getChar_3b067_59 : decode cJ2_getChar_3b067 59 = .ok (.ireturn, 1) := by decide +kernel
theorem dJ2_length_9d52b_0 : decode cJ2_length_9d52b 0 = .ok (.aload_n 0, 1) := by decide +kernel
theorem dJ2_length_9d52b_1 : decode cJ2_length_9d52b 1 = .ok (.arraylength, 1) := by decide +kernel
theorem dJ2_length_9d52b_2 : decode cJ2_length_9d52b 2 = .ok (.iconst 1, 1) := by decide +kernel
theorem dJ2_length_9d52b_3 : decode cJ2_length_9d52b 3 = .ok (.ishr, 1) := by decide +kernel
theorem dJ2_length_9d52b_4 : decode cJ2_length_9d52b 4 = .ok (.ireturn, 1) := by decide +kernel
theorem dJ2_charAt_3b067_0 : decode cJ2_charAt_3b067 0 = .ok (.iload_n 1, 1) := by decide +kernel
theorem dJ2_charAt_3b067_1 : decode cJ2_charAt_3b067 1 = .ok (.aload_n 0, 1) := by decide +kernel
theorem dJ2_charAt_3b067_2 : decode cJ2_charAt_3b067 2 = .ok (.invokestatic 67, 3) := by decide +kernel
theorem dJ2_charAt_3b067_5 : decode cJ2_charAt_3b067 5 = .ok (.aload_n 0, 1) := by decide +kernel
theorem dJ2_charAt_3b067_6 : decode cJ2_charAt_3b067 6 = .ok (.iload_n 1, 1) := by decide +kernel
theorem dJ2_charAt_3b067_7 : decode cJ2_charAt_3b067 7 = .ok (.invokestatic 71, 3) := by decide +kernel
theorem dJ2_charAt_3b067_10 : decode cJ2_charAt_3b067 10 = .ok (.ireturn, 1) := by decide +kernel
end
section
theorem dJ2_checkIndex_2214a_0 : decode cJ2_checkIndex_2214a 0 = .ok (.iload_n 0, 1) := by decide +kernel
theorem dJ2_checkIndex_2214a_1 : decode cJ2_checkIndex_2214a 1 = .ok (.aload_n 1, 1) := by decide +kernel
theorem dJ2_checkIndex_2214a_2 : decode cJ2_checkIndex_2214a 2 = .ok (.invokestatic 48, 3) := by decide +kernel
theorem dJ2_checkIndex_2214a_5 : decode cJ2_checkIndex_2214a 5 = .ok (.invokestatic 414, 3) := by decide +kernel
theorem dJ2_checkIndex_2214a_8 : decode cJ2_checkIndex_2214a 8 = .ok (.return_, 1) := by decide +kernel
theorem dJ7_fill_d0a16_0 : decode cJ7_fill_d0a16 0 = .ok (.iconst 0, 1) := by decide +kernel
theorem dJ7_fill_d0a16_1 : decode cJ7_fill_d0a16 1 = .ok (.istore_n 3, 1) := by decide +kernel
theorem dJ7_fill_d0a16_2 : decode cJ7_fill_d0a16 2 = .ok (.aload_n 0, 1) := by decide +kernel
theorem dJ7_fill_d0a16_3 : decode cJ7_fill_d0a16 3 = .ok (.arraylength, 1) := by decide +kernel
theorem dJ7_fill_d0a16_4 : decode cJ7_fill_d0a16 4 = .ok (.istore 4, 2) := by decide +kernel
theorem dJ7_fill_d0a16_6 : decode cJ7_fill_d0a16 6 = .ok (.iload_n 3, 1) := by decide +kernel
theorem dJ7_fill_d0a16_7 : decode cJ7_fill_d0a16 7 = .ok (.iload 4, 2) := by decide +kernel
theorem dJ7_fill_d0a16_9 : decode cJ7_fill_d0a16 9 = .ok (.if_icmp .ge 13, 3) := by decide +kernel
theorem dJ7_fill_d0a16_12 : decode cJ7_fill_d0a16 12 = .ok (.aload_n 0, 1) := by decide +kernel
theorem dJ7_fill_d0a16_13 : decode cJ7_fill_d0a16 13 = .ok (.iload_n 3, 1) := by decide +kernel
theorem dJ7_fill_d0a16_14 : decode cJ7_fill_d0a16 14 = .ok (.lload_n 1, 1) := by decide +kernel
theorem dJ7_fill_d0a16_15 : decode cJ7_fill_d0a16 15 = .ok (.lastore, 1) := by decide +kernel
theorem dJ7_fill_d0a16_16 : decode cJ7_fill_d0a16 16 = .ok (.iinc 3 1, 3) := by decide +kernel
theorem dJ7_fill_d0a16_19 : decode cJ7_fill_d0a16 19 = .ok (.goto (-13), 3) := by decide +kernel
theorem dJ7_fill_d0a16_22 : decode cJ7_fill_d0a16 22 = .ok (.return_, 1) := by decide +kernel
theorem dJ7_fill_53178_0 : decode cJ7_fill_53178 0 = .ok (.iconst 0, 1) := by decide +kernel
theorem dJ7_fill_53178_1 : decode cJ7_fill_53178 1 = .ok (.istore_n 2, 1) := by decide +kernel
theorem dJ7_fill_53178_2 : decode cJ7_fill_53178 2 = .ok (.aload_n 0, 1) := by decide +kernel
theorem dJ7_fill_53178_3 : decode cJ7_fill_53178 3 = .ok (.arraylength, 1) := by decide +kernel
theorem dJ7_fill_53178_4 : decode cJ7_fill_53178 4 = .ok (.istore_n 3, 1) := by decide +kernel
theorem dJ7_fill_53178_5 : decode cJ7_fill_53178 5 = .ok (.iload_n 2, 1) := by decide +kernel
theorem dJ7_fill_53178_6 : decode cJ7_fill_53178 6 = .ok (.iload_n 3, 1) := by decide +kernel
theorem dJ7_fill_53178_7 : decode cJ7_fill_53178 7 = .ok (.if_icmp .ge 13, 3) := by decide +kernel
theorem dJ7_fill_53178_10 : decode cJ7_fill_53178 10 = .ok (.aload_n 0, 1) := by decide +kernel
theorem dJ7_fill_53178_11 : decode cJ7_fill_53178 11 = .ok (.iload_n 2, 1) := by decide +kernel
theorem dJ7_fill_53178_12 : decode cJ7_fill_53178 12 = .ok (.iload_n 1, 1) := by decide +kernel
theorem dJ7_fill_53178_13 : decode cJ7_fill_53178 13 = .ok (.iastore, 1) := by decide +kernel
theorem dJ7_fill_53178_14 : decode cJ7_fill_53178 14 = .ok (.iinc 2 1, 3) := by decide +kernel
theorem dJ7_fill_53178_17 : decode cJ7_fill_53178 17 = .ok (.goto (-12), 3) := by decide +kernel
theorem dJ7_fill_53178_20 : decode cJ7_fill_53178 20 = .ok (.return_, 1) := by decide +kernel
theorem dJ3_checkIndex_8e157_0 : decode cJ3_checkIndex_8e157 0 = .ok (.iload_n 0, 1) := by decide +kernel
theorem dJ3_checkIndex_8e157_1 : decode cJ3_checkIndex_8e157 1 = .ok (.ifCond .lt 8, 3) := by decide +kernel
theorem dJ3_checkIndex_8e157_4 : decode cJ3_checkIndex_8e157 4 = .ok (.iload_n 0, 1) := by decide +kernel
theorem dJ3_checkIndex_8e157_5 : decode cJ3_checkIndex_8e157 5 = .ok (.iload_n 1, 1) := by decide +kernel
theorem dJ3_checkIndex_8e157_6 : decode cJ3_checkIndex_8e157 6 = .ok (.if_icmp .lt 10, 3) := by decide +kernel
theorem dJ3_checkIndex_8e157_9 : decode cJ3_checkIndex_8e157 9 = .ok (.aload_n 2, 1) := by decide +kernel
theorem dJ3_checkIndex_8e157_10 : decode cJ3_checkIndex_8e157 10 = .ok (.iload_n 0, 1) := by decide +kernel
theorem dJ3_checkIndex_8e157_11 : decode cJ3_checkIndex_8e157 11 = .ok (.iload_n 1, 1) := by decide +kernel
theorem dJ3_checkIndex_8e157_12 : decode cJ3_checkIndex_8e157 12 = .ok (.invokestatic 95, 3) := by decide +kernel
theorem dJ3_checkIndex_8e157_15 : decode cJ3_checkIndex_8e157 15 = .ok (.athrow, 1) := by decide +kernel
theorem dJ3_checkIndex_8e157_16 : decode cJ3_checkIndex_8e157 16 = .ok (.iload_n 0, 1) := by decide +kernel
theorem dJ3_checkIndex_8e157_17 : decode cJ3_checkIndex_8e157 17 = .ok (.ireturn, 1) := by decide +kernel
theorem dL_law_0 : decode cL_law 0 = .ok (.new 7, 3) := by decide +kernel
theorem dL_law_3 : decode cL_law 3 = .ok (.dup, 1) := by decide +kernel
theorem dL_law_4 : decode cL_law 4 = .ok (.invokespecial 9, 3) := by decide +kernel
theorem dL_law_7 : decode cL_law 7 = .ok (.astore_n 1, 1) := by decide +kernel
theorem dL_law_8 : decode cL_law 8 = .ok (.new 10, 3) := by decide +kernel
theorem dL_law_11 : decode cL_law 11 = .ok (.dup, 1) := by decide +kernel
theorem dL_law_12 : decode cL_law 12 = .ok (.invokespecial 12, 3) := by decide +kernel
theorem dL_law_15 : decode cL_law 15 = .ok (.astore_n 2, 1) := by decide +kernel
theorem dL_law_16 : decode cL_law 16 = .ok (.iconst 0, 1) := by decide +kernel
theorem dL_law_17 : decode cL_law 17 = .ok (.istore_n 3, 1) := by decide +kernel
theorem dL_law_18 : decode cL_law 18 = .ok (.iload_n 3, 1) := by decide +kernel
theorem dL_law_19 : decode cL_law 19 = .ok (.aload_n 0, 1) := by decide +kernel
theorem dL_law_20 : decode cL_law 20 = .ok (.arraylength, 1) := by decide +kernel
theorem dL_law_21 : decode cL_law 21 = .ok (.bipush 6, 2) := by decide +kernel
theorem dL_law_23 : decode cL_law 23 = .ok (.isub, 1) := by decide +kernel
theorem dL_law_24 : decode cL_law 24 = .ok (.if_icmp .gt 1935, 3) := by decide +kernel
theorem dL_law_27 : decode cL_law 27 = .ok (.aload_n 0, 1) := by decide +kernel
theorem dL_law_28 : decode cL_law 28 = .ok (.iload_n 3, 1) := by decide +kernel
theorem dL_law_29 : decode cL_law 29 = .ok (.iaload, 1) := by decide +kernel
theorem dL_law_30 : decode cL_law 30 = .ok (.bipush 63, 2) := by decide +kernel
theorem dL_law_32 : decode cL_law 32 = .ok (.iand, 1) := by decide +kernel
theorem dL_law_33 : decode cL_law 33 = .ok (.tableswitch 1920 0 52 #[227, 270, 303, 336, 369, 412, 435, 478, 511, 534, 567, 590, 613, 656, 699, 742, 765, 798, 822, 855, 898, 931, 964, 997, 1040, 1083, 1126, 1139, 1152, 1205, 1248, 1282, 1316, 1360, 1393, 1416, 1449, 1482, 1505, 1538, 1551, 1564, 1597, 1630, 1673, 1716, 1779, 1802, 1835, 1848, 1861, 1874, 1897], 227) := by decide +kernel
theorem dL_law_260 : decode cL_law 260 = .ok (.aload_n 1, 1) := by decide +kernel
theorem dL_law_261 : decode cL_law 261 = .ok (.aload_n 0, 1) := by decide +kernel
theorem dL_law_262 : decode cL_law 262 = .ok (.iload_n 3, 1) := by decide +kernel
theorem dL_law_263 : decode cL_law 263 = .ok (.iconst 1, 1) := by decide +kernel
theorem dL_law_264 : decode cL_law 264 = .ok (.iadd, 1) := by decide +kernel
theorem dL_law_265 : decode cL_law 265 = .ok (.iaload, 1) := by decide +kernel
theorem dL_law_266 : decode cL_law 266 = .ok (.aload_n 0, 1) := by decide +kernel
theorem dL_law_267 : decode cL_law 267 = .ok (.iload_n 3, 1) := by decide +kernel
theorem dL_law_268 : decode cL_law 268 = .ok (.iconst 2, 1) := by decide +kernel
theorem dL_law_269 : decode cL_law 269 = .ok (.iadd, 1) := by decide +kernel
theorem dL_law_270 : decode cL_law 270 = .ok (.iaload, 1) := by decide +kernel
theorem dL_law_271 : decode cL_law 271 = .ok (.aload_n 0, 1) := by decide +kernel
theorem dL_law_272 : decode cL_law 272 = .ok (.iload_n 3, 1) := by decide +kernel
theorem dL_law_273 : decode cL_law 273 = .ok (.iconst 3, 1) := by decide +kernel
theorem dL_law_274 : decode cL_law 274 = .ok (.iadd, 1) := by decide +kernel
theorem dL_law_275 : decode cL_law 275 = .ok (.iaload, 1) := by decide +kernel
theorem dL_law_276 : decode cL_law 276 = .ok (.invokevirtual 13, 3) := by decide +kernel
theorem dL_law_279 : decode cL_law 279 = .ok (.aload_n 2, 1) := by decide +kernel
theorem dL_law_280 : decode cL_law 280 = .ok (.aload_n 0, 1) := by decide +kernel
theorem dL_law_281 : decode cL_law 281 = .ok (.iload_n 3, 1) := by decide +kernel
theorem dL_law_282 : decode cL_law 282 = .ok (.iconst 1, 1) := by decide +kernel
theorem dL_law_283 : decode cL_law 283 = .ok (.iadd, 1) := by decide +kernel
theorem dL_law_284 : decode cL_law 284 = .ok (.iaload, 1) := by decide +kernel
theorem dL_law_285 : decode cL_law 285 = .ok (.aload_n 0, 1) := by decide +kernel
theorem dL_law_286 : decode cL_law 286 = .ok (.iload_n 3, 1) := by decide +kernel
theorem dL_law_287 : decode cL_law 287 = .ok (.iconst 2, 1) := by decide +kernel
theorem dL_law_288 : decode cL_law 288 = .ok (.iadd, 1) := by decide +kernel
theorem dL_law_289 : decode cL_law 289 = .ok (.iaload, 1) := by decide +kernel
theorem dL_law_290 : decode cL_law 290 = .ok (.aload_n 0, 1) := by decide +kernel
theorem dL_law_291 : decode cL_law 291 = .ok (.iload_n 3, 1) := by decide +kernel
theorem dL_law_292 : decode cL_law 292 = .ok (.iconst 3, 1) := by decide +kernel
theorem dL_law_293 : decode cL_law 293 = .ok (.iadd, 1) := by decide +kernel
theorem dL_law_294 : decode cL_law 294 = .ok (.iaload, 1) := by decide +kernel
theorem dL_law_295 : decode cL_law 295 = .ok (.invokevirtual 17, 3) := by decide +kernel
theorem dL_law_298 : decode cL_law 298 = .ok (.if_icmp .eq 1655, 3) := by decide +kernel
theorem dL_law_301 : decode cL_law 301 = .ok (.iconst 0, 1) := by decide +kernel
theorem dL_law_302 : decode cL_law 302 = .ok (.ireturn, 1) := by decide +kernel
theorem dL_law_303 : decode cL_law 303 = .ok (.aload_n 1, 1) := by decide +kernel
theorem dL_law_304 : decode cL_law 304 = .ok (.aload_n 0, 1) := by decide +kernel
theorem dL_law_305 : decode cL_law 305 = .ok (.iload_n 3, 1) := by decide +kernel
theorem dL_law_306 : decode cL_law 306 = .ok (.iconst 1, 1) := by decide +kernel
theorem dL_law_307 : decode cL_law 307 = .ok (.iadd, 1) := by decide +kernel
theorem dL_law_308 : decode cL_law 308 = .ok (.iaload, 1) := by decide +kernel
theorem dL_law_309 : decode cL_law 309 = .ok (.aload_n 0, 1) := by decide +kernel
theorem dL_law_310 : decode cL_law 310 = .ok (.iload_n 3, 1) := by decide +kernel
theorem dL_law_311 : decode cL_law 311 = .ok (.iconst 2, 1) := by decide +kernel
theorem dL_law_312 : decode cL_law 312 = .ok (.iadd, 1) := by decide +kernel
theorem dL_law_313 : decode cL_law 313 = .ok (.iaload, 1) := by decide +kernel
theorem dL_law_314 : decode cL_law 314 = .ok (.invokevirtual 18, 3) := by decide +kernel
theorem dL_law_317 : decode cL_law 317 = .ok (.aload_n 2, 1) := by decide +kernel
theorem dL_law_318 : decode cL_law 318 = .ok (.aload_n 0, 1) := by decide +kernel
theorem dL_law_319 : decode cL_law 319 = .ok (.iload_n 3, 1) := by decide +kernel
theorem dL_law_320 : decode cL_law 320 = .ok (.iconst 1, 1) := by decide +kernel
theorem dL_law_321 : decode cL_law 321 = .ok (.iadd, 1) := by decide +kernel
theorem dL_law_322 : decode cL_law 322 = .ok (.iaload, 1) := by decide +kernel
theorem dL_law_323 : decode cL_law 323 = .ok (.aload_n 0, 1) := by decide +kernel
theorem dL_law_324 : decode cL_law 324 = .ok (.iload_n 3, 1) := by decide +kernel
theorem dL_law_325 : decode cL_law 325 = .ok (.iconst 2, 1) := by decide +kernel
theorem dL_law_326 : decode cL_law 326 = .ok (.iadd, 1) := by decide +kernel
theorem dL_law_327 : decode cL_law 327 = .ok (.iaload, 1) := by decide +kernel
theorem dL_law_328 : decode cL_law 328 = .ok (.invokevirtual 22, 3) := by decide +kernel
theorem dL_law_331 : decode cL_law 331 = .ok (.if_icmp .eq 1622, 3) := by decide +kernel
theorem dL_law_334 : decode cL_law 334 = .ok (.iconst 0, 1) := by decide +kernel
theorem dL_law_335 : decode cL_law 335 = .ok (.ireturn, 1) := by decide +kernel
theorem dL_law_336 : decode cL_law 336 = .ok (.aload_n 1, 1) := by decide +kernel
theorem dL_law_337 : decode cL_law 337 = .ok (.aload_n 0, 1) := by decide +kernel
theorem dL_law_338 : decode cL_law 338 = .ok (.iload_n 3, 1) := by decide +kernel
theorem dL_law_339 : decode cL_law 339 = .ok (.iconst 1, 1) := by decide +kernel
theorem dL_law_340 : decode cL_law 340 = .ok (.iadd, 1) := by decide +kernel
theorem dL_law_341 : decode cL_law 341 = .ok (.iaload, 1) := by decide +kernel
theorem dL_law_342 : decode cL_law 342 = .ok (.aload_n 0, 1) := by decide +kernel
theorem dL_law_343 : decode cL_law 343 = .ok (.iload_n 3, 1) := by decide +kernel
theorem dL_law_344 : decode cL_law 344 = .ok (.iconst 2, 1) := by decide +kernel
theorem dL_law_345 : decode cL_law 345 = .ok (.iadd, 1) := by decide +kernel
theorem dL_law_346 : decode cL_law 346 = .ok (.iaload, 1) := by decide +kernel
theorem dL_law_347 : decode cL_law 347 = .ok (.invokevirtual 23, 3) := by decide +kernel
theorem dL_law_350 : decode cL_law 350 = .ok (.aload_n 2, 1) := by decide +kernel
theorem dL_law_351 : decode cL_law 351 = .ok (.aload_n 0, 1) := by decide +kernel
theorem dL_law_352 : decode cL_law 352 = .ok (.iload_n 3, 1) := by decide +kernel
theorem dL_law_353 : decode cL_law 353 = .ok (.iconst 1, 1) := by decide +kernel
theorem dL_law_354 : decode cL_law 354 = .ok (.iadd, 1) := by decide +kernel
theorem dL_law_355 : decode cL_law 355 = .ok (.iaload, 1) := by decide +kernel
theorem dL_law_356 : decode cL_law 356 = .ok (.aload_n 0, 1) := by decide +kernel
theorem dL_law_357 : decode cL_law 357 = .ok (.iload_n 3, 1) := by decide +kernel
theorem dL_law_358 : decode cL_law 358 = .ok (.iconst 2, 1) := by decide +kernel
theorem dL_law_359 : decode cL_law 359 = .ok (.iadd, 1) := by decide +kernel
theorem dL_law_360 : decode cL_law 360 = .ok (.iaload, 1) := by decide +kernel
theorem dL_law_361 : decode cL_law 361 = .ok (.invokevirtual 26, 3) := by decide +kernel
theorem dL_law_364 : decode cL_law 364 = .ok (.if_icmp .eq 1589, 3) := by decide +kernel
theorem dL_law_367 : decode cL_law 367 = .ok (.iconst 0, 1) := by decide +kernel
theorem dL_law_368 : decode cL_law 368 = .ok (.ireturn, 1) := by decide +kernel
theorem dL_law_369 : decode cL_law 369 = .ok (.aload_n 1, 1) := by decide +kernel
theorem dL_law_370 : decode cL_law 370 = .ok (.aload_n 0, 1) := by decide +kernel
theorem dL_law_371 : decode cL_law 371 = .ok (.iload_n 3, 1) := by decide +kernel
theorem dL_law_372 : decode cL_law 372 = .ok (.iconst 1, 1) := by decide +kernel
theorem dL_law_373 : decode cL_law 373 = .ok (.iadd, 1) := by decide +kernel
theorem dL_law_374 : decode cL_law 374 = .ok (.iaload, 1) := by decide +kernel
theorem dL_law_375 : decode cL_law 375 = .ok (.aload_n 0, 1) := by decide +kernel
theorem dL_law_376 : decode cL_law 376 = .ok (.iload_n 3, 1) := by decide +kernel
theorem dL_law_377 : decode cL_law 377 = .ok (.iconst 2, 1) := by decide +kernel
theorem dL_law_378 : decode cL_law 378 = .ok (.iadd, 1) := by decide +kernel
theorem dL_law_379 : decode cL_law 379 = .ok (.iaload, 1) := by decide +kernel
theorem dL_law_380 : decode cL_law 380 = .ok (.invokevirtual 27, 3) := by decide +kernel
theorem dL_law_383 : decode cL_law 383 = .ok (.aload_n 2, 1) := by decide +kernel
theorem dL_law_384 : decode cL_law 384 = .ok (.aload_n 0, 1) := by decide +kernel
theorem dL_law_385 : decode cL_law 385 = .ok (.iload_n 3, 1) := by decide +kernel
theorem dL_law_386 : decode cL_law 386 = .ok (.iconst 1, 1) := by decide +kernel
theorem dL_law_387 : decode cL_law 387 = .ok (.iadd, 1) := by decide +kernel
theorem dL_law_388 : decode cL_law 388 = .ok (.iaload, 1) := by decide +kernel
theorem dL_law_389 : decode cL_law 389 = .ok (.aload_n 0, 1) := by decide +kernel
theorem dL_law_390 : decode cL_law 390 = .ok (.iload_n 3, 1) := by decide +kernel
theorem dL_law_391 : decode cL_law 391 = .ok (.iconst 2, 1) := by decide +kernel
theorem dL_law_392 : decode cL_law 392 = .ok (.iadd, 1) := by decide +kernel
theorem dL_law_393 : decode cL_law 393 = .ok (.iaload, 1) := by decide +kernel
theorem dL_law_394 : decode cL_law 394 = .ok (.invokevirtual 30, 3) := by decide +kernel
theorem dL_law_397 : decode cL_law 397 = .ok (.if_icmp .eq 1556, 3) := by decide +kernel
theorem dL_law_400 : decode cL_law 400 = .ok (.iconst 0, 1) := by decide +kernel
theorem dL_law_401 : decode cL_law 401 = .ok (.ireturn, 1) := by decide +kernel
theorem dL_law_402 : decode cL_law 402 = .ok (.aload_n 1, 1) := by decide +kernel
theorem dL_law_403 : decode cL_law 403 = .ok (.aload_n 0, 1) := by decide +kernel
theorem dL_law_404 : decode cL_law 404 = .ok (.iload_n 3, 1) := by decide +kernel
theorem dL_law_405 : decode cL_law 405 = .ok (.iconst 1, 1) := by decide +kernel
theorem dL_law_406 : decode cL_law 406 = .ok (.iadd, 1) := by decide +kernel
theorem dL_law_407 : decode cL_law 407 = .ok (.iaload, 1) := by decide +kernel
theorem dL_law_408 : decode cL_law 408 = .ok (.aload_n 0, 1) := by decide +kernel
theorem dL_law_409 : decode cL_law 409 = .ok (.iload_n 3, 1) := by decide +kernel
theorem dL_law_410 : decode cL_law 410 = .ok (.iconst 2, 1) := by decide +kernel
theorem dL_law_411 : decode cL_law 411 = .ok (.iadd, 1) := by decide +kernel
theorem dL_law_412 : decode cL_law 412 = .ok (.iaload, 1) := by decide +kernel
theorem dL_law_413 : decode cL_law 413 = .ok (.aload_n 0, 1) := by decide +kernel
theorem dL_law_414 : decode cL_law 414 = .ok (.iload_n 3, 1) := by decide +kernel
theorem dL_law_415 : decode cL_law 415 = .ok (.iconst 3, 1) := by decide +kernel
theorem dL_law_416 : decode cL_law 416 = .ok (.iadd, 1) := by decide +kernel
theorem dL_law_417 : decode cL_law 417 = .ok (.iaload, 1) := by decide +kernel
theorem dL_law_418 : decode cL_law 418 = .ok (.invokevirtual 31, 3) := by decide +kernel
theorem dL_law_421 : decode cL_law 421 = .ok (.aload_n 2, 1) := by decide +kernel
theorem dL_law_422 : decode cL_law 422 = .ok (.aload_n 0, 1) := by decide +kernel
theorem dL_law_423 : decode cL_law 423 = .ok (.iload_n 3, 1) := by decide +kernel
theorem dL_law_424 : decode cL_law 424 = .ok (.iconst 1, 1) := by decide +kernel
theorem dL_law_425 : decode cL_law 425 = .ok (.iadd, 1) := by decide +kernel
theorem dL_law_426 : decode cL_law 426 = .ok (.iaload, 1) := by decide +kernel
theorem dL_law_427 : decode cL_law 427 = .ok (.aload_n 0, 1) := by decide +kernel
theorem dL_law_428 : decode cL_law 428 = .ok (.iload_n 3, 1) := by decide +kernel
theorem dL_law_429 : decode cL_law 429 = .ok (.iconst 2, 1) := by decide +kernel
theorem dL_law_430 : decode cL_law 430 = .ok (.iadd, 1) := by decide +kernel
theorem dL_law_431 : decode cL_law 431 = .ok (.iaload, 1) := by decide +kernel
theorem dL_law_432 : decode cL_law 432 = .ok (.aload_n 0, 1) := by decide +kernel
theorem dL_law_433 : decode cL_law 433 = .ok (.iload_n 3, 1) := by decide +kernel
theorem dL_law_434 : decode cL_law 434 = .ok (.iconst 3, 1) := by decide +kernel
theorem dL_law_435 : decode cL_law 435 = .ok (.iadd, 1) := by decide +kernel
theorem dL_law_436 : decode cL_law 436 = .ok (.iaload, 1) := by decide +kernel
theorem dL_law_437 : decode cL_law 437 = .ok (.invokevirtual 34, 3) := by decide +kernel
theorem dL_law_440 : decode cL_law 440 = .ok (.if_icmp .eq 1513, 3) := by decide +kernel
theorem dL_law_443 : decode cL_law 443 = .ok (.iconst 0, 1) := by decide +kernel
theorem dL_law_444 : decode cL_law 444 = .ok (.ireturn, 1) := by decide +kernel
theorem dL_law_445 : decode cL_law 445 = .ok (.aload_n 1, 1) := by decide +kernel
theorem dL_law_446 : decode cL_law 446 = .ok (.aload_n 0, 1) := by decide +kernel
theorem dL_law_447 : decode cL_law 447 = .ok (.iload_n 3, 1) := by decide +kernel
theorem dL_law_448 : decode cL_law 448 = .ok (.iconst 1, 1) := by decide +kernel
theorem dL_law_449 : decode cL_law 449 = .ok (.iadd, 1) := by decide +kernel
theorem dL_law_450 : decode cL_law 450 = .ok (.iaload, 1) := by decide +kernel
theorem dL_law_451 : decode cL_law 451 = .ok (.invokevirtual 35, 3) := by decide +kernel
theorem dL_law_454 : decode cL_law 454 = .ok (.aload_n 2, 1) := by decide +kernel
theorem dL_law_455 : decode cL_law 455 = .ok (.aload_n 0, 1) := by decide +kernel
theorem dL_law_456 : decode cL_law 456 = .ok (.iload_n 3, 1) := by decide +kernel
theorem dL_law_457 : decode cL_law 457 = .ok (.iconst 1, 1) := by decide +kernel
theorem dL_law_458 : decode cL_law 458 = .ok (.iadd, 1) := by decide +kernel
theorem dL_law_459 : decode cL_law 459 = .ok (.iaload, 1) := by decide +kernel
theorem dL_law_460 : decode cL_law 460 = .ok (.invokevirtual 39, 3) := by decide +kernel
theorem dL_law_463 : decode cL_law 463 = .ok (.if_icmp .eq 1490, 3) := by decide +kernel
theorem dL_law_466 : decode cL_law 466 = .ok (.iconst 0, 1) := by decide +kernel
theorem dL_law_467 : decode cL_law 467 = .ok (.ireturn, 1) := by decide +kernel
theorem dL_law_468 : decode cL_law 468 = .ok (.aload_n 1, 1) := by decide +kernel
theorem dL_law_469 : decode cL_law 469 = .ok (.aload_n 0, 1) := by decide +kernel
theorem dL_law_470 : decode cL_law 470 = .ok (.iload_n 3, 1) := by decide +kernel
theorem dL_law_471 : decode cL_law 471 = .ok (.iconst 1, 1) := by decide +kernel
theorem dL_law_472 : decode cL_law 472 = .ok (.iadd, 1) := by decide +kernel
theorem dL_law_473 : decode cL_law 473 = .ok (.iaload, 1) := by decide +kernel
theorem dL_law_474 : decode cL_law 474 = .ok (.aload_n 0, 1) := by decide +kernel
theorem dL_law_475 : decode cL_law 475 = .ok (.iload_n 3, 1) := by decide +kernel
theorem dL_law_476 : decode cL_law 476 = .ok (.iconst 2, 1) := by decide +kernel
theorem dL_law_477 : decode cL_law 477 = .ok (.iadd, 1) := by decide +kernel
theorem dL_law_478 : decode cL_law 478 = .ok (.iaload, 1) := by decide +kernel
theorem dL_law_479 : decode cL_law 479 = .ok (.aload_n 0, 1) := by decide +kernel
theorem dL_law_480 : decode cL_law 480 = .ok (.iload_n 3, 1) := by decide +kernel
theorem dL_law_481 : decode cL_law 481 = .ok (.iconst 3, 1) := by decide +kernel
theorem dL_law_482 : decode cL_law 482 = .ok (.iadd, 1) := by decide +kernel
theorem dL_law_483 : decode cL_law 483 = .ok (.iaload, 1) := by decide +kernel
theorem dL_law_484 : decode cL_law 484 = .ok (.invokevirtual 40, 3) := by decide +kernel
theorem dL_law_487 : decode cL_law 487 = .ok (.aload_n 2, 1) := by decide +kernel
theorem dL_law_488 : decode cL_law 488 = .ok (.aload_n 0, 1) := by decide +kernel
theorem dL_law_489 : decode cL_law 489 = .ok (.iload_n 3, 1) := by decide +kernel
theorem dL_law_490 : decode cL_law 490 = .ok (.iconst 1, 1) := by decide +kernel
theorem dL_law_491 : decode cL_law 491 = .ok (.iadd, 1) := by decide +kernel
theorem dL_law_492 : decode cL_law 492 = .ok (.iaload, 1) := by decide +kernel
theorem dL_law_493 : decode cL_law 493 = .ok (.aload_n 0, 1) := by decide +kernel
theorem dL_law_494 : decode cL_law 494 = .ok (.iload_n 3, 1) := by decide +kernel
theorem dL_law_495 : decode cL_law 495 = .ok (.iconst 2, 1) := by decide +kernel
theorem dL_law_496 : decode cL_law 496 = .ok (.iadd, 1) := by decide +kernel
theorem dL_law_497 : decode cL_law 497 = .ok (.iaload, 1) := by decide +kernel
theorem dL_law_498 : decode cL_law 498 = .ok (.aload_n 0, 1) := by decide +kernel
theorem dL_law_499 : decode cL_law 499 = .ok (.iload_n 3, 1) := by decide +kernel
theorem dL_law_500 : decode cL_law 500 = .ok (.iconst 3, 1) := by decide +kernel
theorem dL_law_501 : decode cL_law 501 = .ok (.iadd, 1) := by decide +kernel
theorem dL_law_502 : decode cL_law 502 = .ok (.iaload, 1) := by decide +kernel
theorem dL_law_503 : decode cL_law 503 = .ok (.invokevirtual 43, 3) := by decide +kernel
theorem dL_law_506 : decode cL_law 506 = .ok (.if_icmp .eq 1447, 3) := by decide +kernel
theorem dL_law_509 : decode cL_law 509 = .ok (.iconst 0, 1) := by decide +kernel
theorem dL_law_510 : decode cL_law 510 = .ok (.ireturn, 1) := by decide +kernel
theorem dL_law_511 : decode cL_law 511 = .ok (.aload_n 1, 1) := by decide +kernel
theorem dL_law_512 : decode cL_law 512 = .ok (.aload_n 0, 1) := by decide +kernel
theorem dL_law_513 : decode cL_law 513 = .ok (.iload_n 3, 1) := by decide +kernel
theorem dL_law_514 : decode cL_law 514 = .ok (.iconst 1, 1) := by decide +kernel
theorem dL_law_515 : decode cL_law 515 = .ok (.iadd, 1) := by decide +kernel
theorem dL_law_516 : decode cL_law 516 = .ok (.iaload, 1) := by decide +kernel
theorem dL_law_517 : decode cL_law 517 = .ok (.aload_n 0, 1) := by decide +kernel
theorem dL_law_518 : decode cL_law 518 = .ok (.iload_n 3, 1) := by decide +kernel
theorem dL_law_519 : decode cL_law 519 = .ok (.iconst 2, 1) := by decide +kernel
theorem dL_law_520 : decode cL_law 520 = .ok (.iadd, 1) := by decide +kernel
theorem dL_law_521 : decode cL_law 521 = .ok (.iaload, 1) := by decide +kernel
theorem dL_law_522 : decode cL_law 522 = .ok (.invokevirtual 44, 3) := by decide +kernel
theorem dL_law_525 : decode cL_law 525 = .ok (.aload_n 2, 1) := by decide +kernel
theorem dL_law_526 : decode cL_law 526 = .ok (.aload_n 0, 1) := by decide +kernel
theorem dL_law_527 : decode cL_law 527 = .ok (.iload_n 3, 1) := by decide +kernel
theorem dL_law_528 : decode cL_law 528 = .ok (.iconst 1, 1) := by decide +kernel
theorem dL_law_529 : decode cL_law 529 = .ok (.iadd, 1) := by decide +kernel
theorem dL_law_530 : decode cL_law 530 = .ok (.iaload, 1) := by decide +kernel
theorem dL_law_531 : decode cL_law 531 = .ok (.aload_n 0, 1) := by decide +kernel
theorem dL_law_532 : decode cL_law 532 = .ok (.iload_n 3, 1) := by decide +kernel
theorem dL_law_533 : decode cL_law 533 = .ok (.iconst 2, 1) := by decide +kernel
theorem dL_law_534 : decode cL_law 534 = .ok (.iadd, 1) := by decide +kernel
theorem dL_law_535 : decode cL_law 535 = .ok (.iaload, 1) := by decide +kernel
theorem dL_law_536 : decode cL_law 536 = .ok (.invokevirtual 47, 3) := by decide +kernel
theorem dL_law_539 : decode cL_law 539 = .ok (.if_icmp .eq 1414, 3) := by decide +kernel
theorem dL_law_542 : decode cL_law 542 = .ok (.iconst 0, 1) := by decide +kernel
theorem dL_law_543 : decode cL_law 543 = .ok (.ireturn, 1) := by decide +kernel
theorem dL_law_544 : decode cL_law 544 = .ok (.aload_n 1, 1) := by decide +kernel
theorem dL_law_545 : decode cL_law 545 = .ok (.aload_n 0, 1) := by decide +kernel
theorem dL_law_546 : decode cL_law 546 = .ok (.iload_n 3, 1) := by decide +kernel
theorem dL_law_547 : decode cL_law 547 = .ok (.iconst 1, 1) := by decide +kernel
theorem dL_law_548 : decode cL_law 548 = .ok (.iadd, 1) := by decide +kernel
theorem dL_law_549 : decode cL_law 549 = .ok (.iaload, 1) := by decide +kernel
theorem dL_law_550 : decode cL_law 550 = .ok (.invokevirtual 48, 3) := by decide +kernel
theorem dL_law_553 : decode cL_law 553 = .ok (.aload_n 2, 1) := by decide +kernel
theorem dL_law_554 : decode cL_law 554 = .ok (.aload_n 0, 1) := by decide +kernel
theorem dL_law_555 : decode cL_law 555 = .ok (.iload_n 3, 1) := by decide +kernel
theorem dL_law_556 : decode cL_law 556 = .ok (.iconst 1, 1) := by decide +kernel
theorem dL_law_557 : decode cL_law 557 = .ok (.iadd, 1) := by decide +kernel
theorem dL_law_558 : decode cL_law 558 = .ok (.iaload, 1) := by decide +kernel
theorem dL_law_559 : decode cL_law 559 = .ok (.invokevirtual 51, 3) := by decide +kernel
theorem dL_law_562 : decode cL_law 562 = .ok (.if_icmp .eq 1391, 3) := by decide +kernel
theorem dL_law_565 : decode cL_law 565 = .ok (.iconst 0, 1) := by decide +kernel
theorem dL_law_566 : decode cL_law 566 = .ok (.ireturn, 1) := by decide +kernel
theorem dL_law_567 : decode cL_law 567 = .ok (.aload_n 1, 1) := by decide +kernel
theorem dL_law_568 : decode cL_law 568 = .ok (.aload_n 0, 1) := by decide +kernel
theorem dL_law_569 : decode cL_law 569 = .ok (.iload_n 3, 1) := by decide +kernel
theorem dL_law_570 : decode cL_law 570 = .ok (.iconst 1, 1) := by decide +kernel
theorem dL_law_571 : decode cL_law 571 = .ok (.iadd, 1) := by decide +kernel
theorem dL_law_572 : decode cL_law 572 = .ok (.iaload, 1) := by decide +kernel
theorem dL_law_573 : decode cL_law 573 = .ok (.aload_n 0, 1) := by decide +kernel
theorem dL_law_574 : decode cL_law 574 = .ok (.iload_n 3, 1) := by decide +kernel
theorem dL_law_575 : decode cL_law 575 = .ok (.iconst 2, 1) := by decide +kernel
theorem dL_law_576 : decode cL_law 576 = .ok (.iadd, 1) := by decide +kernel
theorem dL_law_577 : decode cL_law 577 = .ok (.iaload, 1) := by decide +kernel
theorem dL_law_578 : decode cL_law 578 = .ok (.invokevirtual 52, 3) := by decide +kernel
theorem dL_law_581 : decode cL_law 581 = .ok (.aload_n 2, 1) := by decide +kernel
theorem dL_law_582 : decode cL_law 582 = .ok (.aload_n 0, 1) := by decide +kernel
theorem dL_law_583 : decode cL_law 583 = .ok (.iload_n 3, 1) := by decide +kernel
theorem dL_law_584 : decode cL_law 584 = .ok (.iconst 1, 1) := by decide +kernel
theorem dL_law_585 : decode cL_law 585 = .ok (.iadd, 1) := by decide +kernel
theorem dL_law_586 : decode cL_law 586 = .ok (.iaload, 1) := by decide +kernel
theorem dL_law_587 : decode cL_law 587 = .ok (.aload_n 0, 1) := by decide +kernel
theorem dL_law_588 : decode cL_law 588 = .ok (.iload_n 3, 1) := by decide +kernel
theorem dL_law_589 : decode cL_law 589 = .ok (.iconst 2, 1) := by decide +kernel
theorem dL_law_590 : decode cL_law 590 = .ok (.iadd, 1) := by decide +kernel
theorem dL_law_591 : decode cL_law 591 = .ok (.iaload, 1) := by decide +kernel
theorem dL_law_592 : decode cL_law 592 = .ok (.invokevirtual 55, 3) := by decide +kernel
theorem dL_law_595 : decode cL_law 595 = .ok (.if_icmp .eq 1358, 3) := by decide +kernel
theorem dL_law_598 : decode cL_law 598 = .ok (.iconst 0, 1) := by decide +kernel
theorem dL_law_599 : decode cL_law 599 = .ok (.ireturn, 1) := by decide +kernel
theorem dL_law_600 : decode cL_law 600 = .ok (.aload_n 1, 1) := by decide +kernel
theorem dL_law_601 : decode cL_law 601 = .ok (.aload_n 0, 1) := by decide +kernel
theorem dL_law_602 : decode cL_law 602 = .ok (.iload_n 3, 1) := by decide +kernel
theorem dL_law_603 : decode cL_law 603 = .ok (.iconst 1, 1) := by decide +kernel
theorem dL_law_604 : decode cL_law 604 = .ok (.iadd, 1) := by decide +kernel
theorem dL_law_605 : decode cL_law 605 = .ok (.iaload, 1) := by decide +kernel
theorem dL_law_606 : decode cL_law 606 = .ok (.invokevirtual 56, 3) := by decide +kernel
theorem dL_law_609 : decode cL_law 609 = .ok (.aload_n 2, 1) := by decide +kernel
theorem dL_law_610 : decode cL_law 610 = .ok (.aload_n 0, 1) := by decide +kernel
theorem dL_law_611 : decode cL_law 611 = .ok (.iload_n 3, 1) := by decide +kernel
theorem dL_law_612 : decode cL_law 612 = .ok (.iconst 1, 1) := by decide +kernel
theorem dL_law_613 : decode cL_law 613 = .ok (.iadd, 1) := by decide +kernel
theorem dL_law_614 : decode cL_law 614 = .ok (.iaload, 1) := by decide +kernel
theorem dL_law_615 : decode cL_law 615 = .ok (.invokevirtual 59, 3) := by decide +kernel
theorem dL_law_618 : decode cL_law 618 = .ok (.if_icmp .eq 1335, 3) := by decide +kernel
theorem dL_law_621 : decode cL_law 621 = .ok (.iconst 0, 1) := by decide +kernel
theorem dL_law_622 : decode cL_law 622 = .ok (.ireturn, 1) := by decide +kernel
theorem dL_law_623 : decode cL_law 623 = .ok (.aload_n 1, 1) := by decide +kernel
theorem dL_law_624 : decode cL_law 624 = .ok (.aload_n 0, 1) := by decide +kernel
theorem dL_law_625 : decode cL_law 625 = .ok (.iload_n 3, 1) := by decide +kernel
theorem dL_law_626 : decode cL_law 626 = .ok (.iconst 1, 1) := by decide +kernel
theorem dL_law_627 : decode cL_law 627 = .ok (.iadd, 1) := by decide +kernel
theorem dL_law_628 : decode cL_law 628 = .ok (.iaload, 1) := by decide +kernel
theorem dL_law_629 : decode cL_law 629 = .ok (.invokevirtual 60, 3) := by decide +kernel
theorem dL_law_632 : decode cL_law 632 = .ok (.aload_n 2, 1) := by decide +kernel
theorem dL_law_633 : decode cL_law 633 = .ok (.aload_n 0, 1) := by decide +kernel
theorem dL_law_634 : decode cL_law 634 = .ok (.iload_n 3, 1) := by decide +kernel
theorem dL_law_635 : decode cL_law 635 = .ok (.iconst 1, 1) := by decide +kernel
theorem dL_law_636 : decode cL_law 636 = .ok (.iadd, 1) := by decide +kernel
theorem dL_law_637 : decode cL_law 637 = .ok (.iaload, 1) := by decide +kernel
theorem dL_law_638 : decode cL_law 638 = .ok (.invokevirtual 63, 3) := by decide +kernel
theorem dL_law_641 : decode cL_law 641 = .ok (.if_icmp .eq 1312, 3) := by decide +kernel
theorem dL_law_644 : decode cL_law 644 = .ok (.iconst 0, 1) := by decide +kernel
theorem dL_law_645 : decode cL_law 645 = .ok (.ireturn, 1) := by decide +kernel
theorem dL_law_646 : decode cL_law 646 = .ok (.aload_n 1, 1) := by decide +kernel
theorem dL_law_647 : decode cL_law 647 = .ok (.aload_n 0, 1) := by decide +kernel
theorem dL_law_648 : decode cL_law 648 = .ok (.iload_n 3, 1) := by decide +kernel
theorem dL_law_649 : decode cL_law 649 = .ok (.iconst 1, 1) := by decide +kernel
theorem dL_law_650 : decode cL_law 650 = .ok (.iadd, 1) := by decide +kernel
theorem dL_law_651 : decode cL_law 651 = .ok (.iaload, 1) := by decide +kernel
theorem dL_law_652 : decode cL_law 652 = .ok (.aload_n 0, 1) := by decide +kernel
theorem dL_law_653 : decode cL_law 653 = .ok (.iload_n 3, 1) := by decide +kernel
theorem dL_law_654 : decode cL_law 654 = .ok (.iconst 2, 1) := by decide +kernel
theorem dL_law_655 : decode cL_law 655 = .ok (.iadd, 1) := by decide +kernel
theorem dL_law_656 : decode cL_law 656 = .ok (.iaload, 1) := by decide +kernel
theorem dL_law_657 : decode cL_law 657 = .ok (.aload_n 0, 1) := by decide +kernel
theorem dL_law_658 : decode cL_law 658 = .ok (.iload_n 3, 1) := by decide +kernel
theorem dL_law_659 : decode cL_law 659 = .ok (.iconst 3, 1) := by decide +kernel
theorem dL_law_660 : decode cL_law 660 = .ok (.iadd, 1) := by decide +kernel
theorem dL_law_661 : decode cL_law 661 = .ok (.iaload, 1) := by decide +kernel
theorem dL_law_662 : decode cL_law 662 = .ok (.invokevirtual 64, 3) := by decide +kernel
theorem dL_law_665 : decode cL_law 665 = .ok (.aload_n 2, 1) := by decide +kernel
theorem dL_law_666 : decode cL_law 666 = .ok (.aload_n 0, 1) := by decide +kernel
theorem dL_law_667 : decode cL_law 667 = .ok (.iload_n 3, 1) := by decide +kernel
theorem dL_law_668 : decode cL_law 668 = .ok (.iconst 1, 1) := by decide +kernel
theorem dL_law_669 : decode cL_law 669 = .ok (.iadd, 1) := by decide +kernel
theorem dL_law_670 : decode cL_law 670 = .ok (.iaload, 1) := by decide +kernel
theorem dL_law_671 : decode cL_law 671 = .ok (.aload_n 0, 1) := by decide +kernel
theorem dL_law_672 : decode cL_law 672 = .ok (.iload_n 3, 1) := by decide +kernel
theorem dL_law_673 : decode cL_law 673 = .ok (.iconst 2, 1) := by decide +kernel
theorem dL_law_674 : decode cL_law 674 = .ok (.iadd, 1) := by decide +kernel
theorem dL_law_675 : decode cL_law 675 = .ok (.iaload, 1) := by decide +kernel
theorem dL_law_676 : decode cL_law 676 = .ok (.aload_n 0, 1) := by decide +kernel
theorem dL_law_677 : decode cL_law 677 = .ok (.iload_n 3, 1) := by decide +kernel
theorem dL_law_678 : decode cL_law 678 = .ok (.iconst 3, 1) := by decide +kernel
theorem dL_law_679 : decode cL_law 679 = .ok (.iadd, 1) := by decide +kernel
theorem dL_law_680 : decode cL_law 680 = .ok (.iaload, 1) := by decide +kernel
theorem dL_law_681 : decode cL_law 681 = .ok (.invokevirtual 67, 3) := by decide +kernel
theorem dL_law_684 : decode cL_law 684 = .ok (.if_icmp .eq 1269, 3) := by decide +kernel
theorem dL_law_687 : decode cL_law 687 = .ok (.iconst 0, 1) := by decide +kernel
theorem dL_law_688 : decode cL_law 688 = .ok (.ireturn, 1) := by decide +kernel
theorem dL_law_689 : decode cL_law 689 = .ok (.aload_n 1, 1) := by decide +kernel
theorem dL_law_690 : decode cL_law 690 = .ok (.aload_n 0, 1) := by decide +kernel
theorem dL_law_691 : decode cL_law 691 = .ok (.iload_n 3, 1) := by decide +kernel
theorem dL_law_692 : decode cL_law 692 = .ok (.iconst 1, 1) := by decide +kernel
theorem dL_law_693 : decode cL_law 693 = .ok (.iadd, 1) := by decide +kernel
theorem dL_law_694 : decode cL_law 694 = .ok (.iaload, 1) := by decide +kernel
theorem dL_law_695 : decode cL_law 695 = .ok (.aload_n 0, 1) := by decide +kernel
theorem dL_law_696 : decode cL_law 696 = .ok (.iload_n 3, 1) := by decide +kernel
theorem dL_law_697 : decode cL_law 697 = .ok (.iconst 2, 1) := by decide +kernel
theorem dL_law_698 : decode cL_law 698 = .ok (.iadd, 1) := by decide +kernel
theorem dL_law_699 : decode cL_law 699 = .ok (.iaload, 1) := by decide +kernel
theorem dL_law_700 : decode cL_law 700 = .ok (.aload_n 0, 1) := by decide +kernel
theorem dL_law_701 : decode cL_law 701 = .ok (.iload_n 3, 1) := by decide +kernel
theorem dL_law_702 : decode cL_law 702 = .ok (.iconst 3, 1) := by decide +kernel
theorem dL_law_703 : decode cL_law 703 = .ok (.iadd, 1) := by decide +kernel
theorem dL_law_704 : decode cL_law 704 = .ok (.iaload, 1) := by decide +kernel
theorem dL_law_705 : decode cL_law 705 = .ok (.invokevirtual 68, 3) := by decide +kernel
theorem dL_law_708 : decode cL_law 708 = .ok (.aload_n 2, 1) := by decide +kernel
theorem dL_law_709 : decode cL_law 709 = .ok (.aload_n 0, 1) := by decide +kernel
theorem dL_law_710 : decode cL_law 710 = .ok (.iload_n 3, 1) := by decide +kernel
theorem dL_law_711 : decode cL_law 711 = .ok (.iconst 1, 1) := by decide +kernel
theorem dL_law_712 : decode cL_law 712 = .ok (.iadd, 1) := by decide +kernel
theorem dL_law_713 : decode cL_law 713 = .ok (.iaload, 1) := by decide +kernel
theorem dL_law_714 : decode cL_law 714 = .ok (.aload_n 0, 1) := by decide +kernel
theorem dL_law_715 : decode cL_law 715 = .ok (.iload_n 3, 1) := by decide +kernel
theorem dL_law_716 : decode cL_law 716 = .ok (.iconst 2, 1) := by decide +kernel
theorem dL_law_717 : decode cL_law 717 = .ok (.iadd, 1) := by decide +kernel
theorem dL_law_718 : decode cL_law 718 = .ok (.iaload, 1) := by decide +kernel
theorem dL_law_719 : decode cL_law 719 = .ok (.aload_n 0, 1) := by decide +kernel
theorem dL_law_720 : decode cL_law 720 = .ok (.iload_n 3, 1) := by decide +kernel
theorem dL_law_721 : decode cL_law 721 = .ok (.iconst 3, 1) := by decide +kernel
theorem dL_law_722 : decode cL_law 722 = .ok (.iadd, 1) := by decide +kernel
theorem dL_law_723 : decode cL_law 723 = .ok (.iaload, 1) := by decide +kernel
theorem dL_law_724 : decode cL_law 724 = .ok (.invokevirtual 71, 3) := by decide +kernel
theorem dL_law_727 : decode cL_law 727 = .ok (.if_icmp .eq 1226, 3) := by decide +kernel
theorem dL_law_730 : decode cL_law 730 = .ok (.iconst 0, 1) := by decide +kernel
theorem dL_law_731 : decode cL_law 731 = .ok (.ireturn, 1) := by decide +kernel
theorem dL_law_732 : decode cL_law 732 = .ok (.aload_n 1, 1) := by decide +kernel
theorem dL_law_733 : decode cL_law 733 = .ok (.aload_n 0, 1) := by decide +kernel
theorem dL_law_734 : decode cL_law 734 = .ok (.iload_n 3, 1) := by decide +kernel
theorem dL_law_735 : decode cL_law 735 = .ok (.iconst 1, 1) := by decide +kernel
theorem dL_law_736 : decode cL_law 736 = .ok (.iadd, 1) := by decide +kernel
theorem dL_law_737 : decode cL_law 737 = .ok (.iaload, 1) := by decide +kernel
theorem dL_law_738 : decode cL_law 738 = .ok (.aload_n 0, 1) := by decide +kernel
theorem dL_law_739 : decode cL_law 739 = .ok (.iload_n 3, 1) := by decide +kernel
theorem dL_law_740 : decode cL_law 740 = .ok (.iconst 2, 1) := by decide +kernel
theorem dL_law_741 : decode cL_law 741 = .ok (.iadd, 1) := by decide +kernel
theorem dL_law_742 : decode cL_law 742 = .ok (.iaload, 1) := by decide +kernel
theorem dL_law_743 : decode cL_law 743 = .ok (.aload_n 0, 1) := by decide +kernel
theorem dL_law_744 : decode cL_law 744 = .ok (.iload_n 3, 1) := by decide +kernel
theorem dL_law_745 : decode cL_law 745 = .ok (.iconst 3, 1) := by decide +kernel
theorem dL_law_746 : decode cL_law 746 = .ok (.iadd, 1) := by decide +kernel
theorem dL_law_747 : decode cL_law 747 = .ok (.iaload, 1) := by decide +kernel
theorem dL_law_748 : decode cL_law 748 = .ok (.invokevirtual 72, 3) := by decide +kernel
theorem dL_law_751 : decode cL_law 751 = .ok (.aload_n 2, 1) := by decide +kernel
theorem dL_law_752 : decode cL_law 752 = .ok (.aload_n 0, 1) := by decide +kernel
theorem dL_law_753 : decode cL_law 753 = .ok (.iload_n 3, 1) := by decide +kernel
theorem dL_law_754 : decode cL_law 754 = .ok (.iconst 1, 1) := by decide +kernel
theorem dL_law_755 : decode cL_law 755 = .ok (.iadd, 1) := by decide +kernel
theorem dL_law_756 : decode cL_law 756 = .ok (.iaload, 1) := by decide +kernel
theorem dL_law_757 : decode cL_law 757 = .ok (.aload_n 0, 1) := by decide +kernel
theorem dL_law_758 : decode cL_law 758 = .ok (.iload_n 3, 1) := by decide +kernel
theorem dL_law_759 : decode cL_law 759 = .ok (.iconst 2, 1) := by decide +kernel
theorem dL_law_760 : decode cL_law 760 = .ok (.iadd, 1) := by decide +kernel
theorem dL_law_761 : decode cL_law 761 = .ok (.iaload, 1) := by decide +kernel
theorem dL_law_762 : decode cL_law 762 = .ok (.aload_n 0, 1) := by decide +kernel
theorem dL_law_763 : decode cL_law 763 = .ok (.iload_n 3, 1) := by decide +kernel
theorem dL_law_764 : decode cL_law 764 = .ok (.iconst 3, 1) := by decide +kernel
theorem dL_law_765 : decode cL_law 765 = .ok (.iadd, 1) := by decide +kernel
theorem dL_law_766 : decode cL_law 766 = .ok (.iaload, 1) := by decide +kernel
theorem dL_law_767 : decode cL_law 767 = .ok (.invokevirtual 75, 3) := by decide +kernel
theorem dL_law_770 : decode cL_law 770 = .ok (.if_icmp .eq 1183, 3) := by decide +kernel
theorem dL_law_773 : decode cL_law 773 = .ok (.iconst 0, 1) := by decide +kernel
theorem dL_law_774 : decode cL_law 774 = .ok (.ireturn, 1) := by decide +kernel
theorem dL_law_775 : decode cL_law 775 = .ok (.aload_n 1, 1) := by decide +kernel
theorem dL_law_776 : decode cL_law 776 = .ok (.aload_n 0, 1) := by decide +kernel
theorem dL_law_777 : decode cL_law 777 = .ok (.iload_n 3, 1) := by decide +kernel
theorem dL_law_778 : decode cL_law 778 = .ok (.iconst 1, 1) := by decide +kernel
theorem dL_law_779 : decode cL_law 779 = .ok (.iadd, 1) := by decide +kernel
theorem dL_law_780 : decode cL_law 780 = .ok (.iaload, 1) := by decide +kernel
theorem dL_law_781 : decode cL_law 781 = .ok (.invokevirtual 76, 3) := by decide +kernel
theorem dL_law_784 : decode cL_law 784 = .ok (.aload_n 2, 1) := by decide +kernel
theorem dL_law_785 : decode cL_law 785 = .ok (.aload_n 0, 1) := by decide +kernel
theorem dL_law_786 : decode cL_law 786 = .ok (.iload_n 3, 1) := by decide +kernel
theorem dL_law_787 : decode cL_law 787 = .ok (.iconst 1, 1) := by decide +kernel
theorem dL_law_788 : decode cL_law 788 = .ok (.iadd, 1) := by decide +kernel
theorem dL_law_789 : decode cL_law 789 = .ok (.iaload, 1) := by decide +kernel
theorem dL_law_790 : decode cL_law 790 = .ok (.invokevirtual 79, 3) := by decide +kernel
theorem dL_law_793 : decode cL_law 793 = .ok (.if_icmp .eq 1160, 3) := by decide +kernel
theorem dL_law_796 : decode cL_law 796 = .ok (.iconst 0, 1) := by decide +kernel
theorem dL_law_797 : decode cL_law 797 = .ok (.ireturn, 1) := by decide +kernel
theorem dL_law_798 : decode cL_law 798 = .ok (.aload_n 1, 1) := by decide +kernel
theorem dL_law_799 : decode cL_law 799 = .ok (.aload_n 0, 1) := by decide +kernel
theorem dL_law_800 : decode cL_law 800 = .ok (.iload_n 3, 1) := by decide +kernel
theorem dL_law_801 : decode cL_law 801 = .ok (.iconst 1, 1) := by decide +kernel
theorem dL_law_802 : decode cL_law 802 = .ok (.iadd, 1) := by decide +kernel
theorem dL_law_803 : decode cL_law 803 = .ok (.iaload, 1) := by decide +kernel
theorem dL_law_804 : decode cL_law 804 = .ok (.aload_n 0, 1) := by decide +kernel
theorem dL_law_805 : decode cL_law 805 = .ok (.iload_n 3, 1) := by decide +kernel
theorem dL_law_806 : decode cL_law 806 = .ok (.iconst 2, 1) := by decide +kernel
theorem dL_law_807 : decode cL_law 807 = .ok (.iadd, 1) := by decide +kernel
theorem dL_law_808 : decode cL_law 808 = .ok (.iaload, 1) := by decide +kernel
theorem dL_law_809 : decode cL_law 809 = .ok (.invokevirtual 80, 3) := by decide +kernel
theorem dL_law_812 : decode cL_law 812 = .ok (.aload_n 2, 1) := by decide +kernel
theorem dL_law_813 : decode cL_law 813 = .ok (.aload_n 0, 1) := by decide +kernel
theorem dL_law_814 : decode cL_law 814 = .ok (.iload_n 3, 1) := by decide +kernel
theorem dL_law_815 : decode cL_law 815 = .ok (.iconst 1, 1) := by decide +kernel
theorem dL_law_816 : decode cL_law 816 = .ok (.iadd, 1) := by decide +kernel
theorem dL_law_817 : decode cL_law 817 = .ok (.iaload, 1) := by decide +kernel
theorem dL_law_818 : decode cL_law 818 = .ok (.aload_n 0, 1) := by decide +kernel
theorem dL_law_819 : decode cL_law 819 = .ok (.iload_n 3, 1) := by decide +kernel
theorem dL_law_820 : decode cL_law 820 = .ok (.iconst 2, 1) := by decide +kernel
theorem dL_law_821 : decode cL_law 821 = .ok (.iadd, 1) := by decide +kernel
theorem dL_law_822 : decode cL_law 822 = .ok (.iaload, 1) := by decide +kernel
theorem dL_law_823 : decode cL_law 823 = .ok (.invokevirtual 83, 3) := by decide +kernel
theorem dL_law_826 : decode cL_law 826 = .ok (.if_icmp .eq 1127, 3) := by decide +kernel
theorem dL_law_829 : decode cL_law 829 = .ok (.iconst 0, 1) := by decide +kernel
theorem dL_law_830 : decode cL_law 830 = .ok (.ireturn, 1) := by decide +kernel
theorem dL_law_831 : decode cL_law 831 = .ok (.aload_n 1, 1) := by decide +kernel
theorem dL_law_832 : decode cL_law 832 = .ok (.aload_n 0, 1) := by decide +kernel
theorem dL_law_833 : decode cL_law 833 = .ok (.iload_n 3, 1) := by decide +kernel
theorem dL_law_834 : decode cL_law 834 = .ok (.iconst 1, 1) := by decide +kernel
theorem dL_law_835 : decode cL_law 835 = .ok (.iadd, 1) := by decide +kernel
theorem dL_law_836 : decode cL_law 836 = .ok (.iaload, 1) := by decide +kernel
theorem dL_law_837 : decode cL_law 837 = .ok (.invokevirtual 84, 3) := by decide +kernel
theorem dL_law_840 : decode cL_law 840 = .ok (.aload_n 2, 1) := by decide +kernel
theorem dL_law_841 : decode cL_law 841 = .ok (.aload_n 0, 1) := by decide +kernel
theorem dL_law_842 : decode cL_law 842 = .ok (.iload_n 3, 1) := by decide +kernel
theorem dL_law_843 : decode cL_law 843 = .ok (.iconst 1, 1) := by decide +kernel
theorem dL_law_844 : decode cL_law 844 = .ok (.iadd, 1) := by decide +kernel
theorem dL_law_845 : decode cL_law 845 = .ok (.iaload, 1) := by decide +kernel
theorem dL_law_846 : decode cL_law 846 = .ok (.invokevirtual 88, 3) := by decide +kernel
theorem dL_law_849 : decode cL_law 849 = .ok (.lcmp, 1) := by decide +kernel
theorem dL_law_850 : decode cL_law 850 = .ok (.ifCond .eq 1103, 3) := by decide +kernel
theorem dL_law_853 : decode cL_law 853 = .ok (.iconst 0, 1) := by decide +kernel
theorem dL_law_854 : decode cL_law 854 = .ok (.ireturn, 1) := by decide +kernel
theorem dL_law_855 : decode cL_law 855 = .ok (.aload_n 1, 1) := by decide +kernel
theorem dL_law_856 : decode cL_law 856 = .ok (.aload_n 0, 1) := by decide +kernel
theorem dL_law_857 : decode cL_law 857 = .ok (.iload_n 3, 1) := by decide +kernel
theorem dL_law_858 : decode cL_law 858 = .ok (.iconst 1, 1) := by decide +kernel
theorem dL_law_859 : decode cL_law 859 = .ok (.iadd, 1) := by decide +kernel
theorem dL_law_860 : decode cL_law 860 = .ok (.iaload, 1) := by decide +kernel
theorem dL_law_861 : decode cL_law 861 = .ok (.aload_n 0, 1) := by decide +kernel
theorem dL_law_862 : decode cL_law 862 = .ok (.iload_n 3, 1) := by decide +kernel
theorem dL_law_863 : decode cL_law 863 = .ok (.iconst 2, 1) := by decide +kernel
theorem dL_law_864 : decode cL_law 864 = .ok (.iadd, 1) := by decide +kernel
theorem dL_law_865 : decode cL_law 865 = .ok (.iaload, 1) := by decide +kernel
theorem dL_law_866 : decode cL_law 866 = .ok (.invokevirtual 89, 3) := by decide +kernel
theorem dL_law_869 : decode cL_law 869 = .ok (.aload_n 2, 1) := by decide +kernel
theorem dL_law_870 : decode cL_law 870 = .ok (.aload_n 0, 1) := by decide +kernel
theorem dL_law_871 : decode cL_law 871 = .ok (.iload_n 3, 1) := by decide +kernel
theorem dL_law_872 : decode cL_law 872 = .ok (.iconst 1, 1) := by decide +kernel
theorem dL_law_873 : decode cL_law 873 = .ok (.iadd, 1) := by decide +kernel
theorem dL_law_874 : decode cL_law 874 = .ok (.iaload, 1) := by decide +kernel
theorem dL_law_875 : decode cL_law 875 = .ok (.aload_n 0, 1) := by decide +kernel
theorem dL_law_876 : decode cL_law 876 = .ok (.iload_n 3, 1) := by decide +kernel
theorem dL_law_877 : decode cL_law 877 = .ok (.iconst 2, 1) := by decide +kernel
theorem dL_law_878 : decode cL_law 878 = .ok (.iadd, 1) := by decide +kernel
theorem dL_law_879 : decode cL_law 879 = .ok (.iaload, 1) := by decide +kernel
theorem dL_law_880 : decode cL_law 880 = .ok (.invokevirtual 92, 3) := by decide +kernel
theorem dL_law_883 : decode cL_law 883 = .ok (.if_icmp .eq 1070, 3) := by decide +kernel
theorem dL_law_886 : decode cL_law 886 = .ok (.iconst 0, 1) := by decide +kernel
theorem dL_law_887 : decode cL_law 887 = .ok (.ireturn, 1) := by decide +kernel
theorem dL_law_888 : decode cL_law 888 = .ok (.aload_n 1, 1) := by decide +kernel
theorem dL_law_889 : decode cL_law 889 = .ok (.aload_n 0, 1) := by decide +kernel
theorem dL_law_890 : decode cL_law 890 = .ok (.iload_n 3, 1) := by decide +kernel
theorem dL_law_891 : decode cL_law 891 = .ok (.iconst 1, 1) := by decide +kernel
theorem dL_law_892 : decode cL_law 892 = .ok (.iadd, 1) := by decide +kernel
theorem dL_law_893 : decode cL_law 893 = .ok (.iaload, 1) := by decide +kernel
theorem dL_law_894 : decode cL_law 894 = .ok (.aload_n 0, 1) := by decide +kernel
theorem dL_law_895 : decode cL_law 895 = .ok (.iload_n 3, 1) := by decide +kernel
theorem dL_law_896 : decode cL_law 896 = .ok (.iconst 2, 1) := by decide +kernel
theorem dL_law_897 : decode cL_law 897 = .ok (.iadd, 1) := by decide +kernel
theorem dL_law_898 : decode cL_law 898 = .ok (.iaload, 1) := by decide +kernel
theorem dL_law_899 : decode cL_law 899 = .ok (.aload_n 0, 1) := by decide +kernel
theorem dL_law_900 : decode cL_law 900 = .ok (.iload_n 3, 1) := by decide +kernel
theorem dL_law_901 : decode cL_law 901 = .ok (.iconst 3, 1) := by decide +kernel
theorem dL_law_902 : decode cL_law 902 = .ok (.iadd, 1) := by decide +kernel
theorem dL_law_903 : decode cL_law 903 = .ok (.iaload, 1) := by decide +kernel
theorem dL_law_904 : decode cL_law 904 = .ok (.invokevirtual 93, 3) := by decide +kernel
theorem dL_law_907 : decode cL_law 907 = .ok (.aload_n 2, 1) := by decide +kernel
theorem dL_law_908 : decode cL_law 908 = .ok (.aload_n 0, 1) := by decide +kernel
theorem dL_law_909 : decode cL_law 909 = .ok (.iload_n 3, 1) := by decide +kernel
theorem dL_law_910 : decode cL_law 910 = .ok (.iconst 1, 1) := by decide +kernel
theorem dL_law_911 : decode cL_law 911 = .ok (.iadd, 1) := by decide +kernel
theorem dL_law_912 : decode cL_law 912 = .ok (.iaload, 1) := by decide +kernel
theorem dL_law_913 : decode cL_law 913 = .ok (.aload_n 0, 1) := by decide +kernel
theorem dL_law_914 : decode cL_law 914 = .ok (.iload_n 3, 1) := by decide +kernel
theorem dL_law_915 : decode cL_law 915 = .ok (.iconst 2, 1) := by decide +kernel
theorem dL_law_916 : decode cL_law 916 = .ok (.iadd, 1) := by decide +kernel
theorem dL_law_917 : decode cL_law 917 = .ok (.iaload, 1) := by decide +kernel
theorem dL_law_918 : decode cL_law 918 = .ok (.aload_n 0, 1) := by decide +kernel
theorem dL_law_919 : decode cL_law 919 = .ok (.iload_n 3, 1) := by decide +kernel
theorem dL_law_920 : decode cL_law 920 = .ok (.iconst 3, 1) := by decide +kernel
theorem dL_law_921 : decode cL_law 921 = .ok (.iadd, 1) := by decide +kernel
theorem dL_law_922 : decode cL_law 922 = .ok (.iaload, 1) := by decide +kernel
theorem dL_law_923 : decode cL_law 923 = .ok (.invokevirtual 96, 3) := by decide +kernel
theorem dL_law_926 : decode cL_law 926 = .ok (.if_icmp .eq 1027, 3) := by decide +kernel
theorem dL_law_929 : decode cL_law 929 = .ok (.iconst 0, 1) := by decide +kernel
theorem dL_law_930 : decode cL_law 930 = .ok (.ireturn, 1) := by decide +kernel
theorem dL_law_931 : decode cL_law 931 = .ok (.aload_n 1, 1) := by decide +kernel
theorem dL_law_932 : decode cL_law 932 = .ok (.aload_n 0, 1) := by decide +kernel
theorem dL_law_933 : decode cL_law 933 = .ok (.iload_n 3, 1) := by decide +kernel
theorem dL_law_934 : decode cL_law 934 = .ok (.iconst 1, 1) := by decide +kernel
theorem dL_law_935 : decode cL_law 935 = .ok (.iadd, 1) := by decide +kernel
theorem dL_law_936 : decode cL_law 936 = .ok (.iaload, 1) := by decide +kernel
theorem dL_law_937 : decode cL_law 937 = .ok (.aload_n 0, 1) := by decide +kernel
theorem dL_law_938 : decode cL_law 938 = .ok (.iload_n 3, 1) := by decide +kernel
theorem dL_law_939 : decode cL_law 939 = .ok (.iconst 2, 1) := by decide +kernel
theorem dL_law_940 : decode cL_law 940 = .ok (.iadd, 1) := by decide +kernel
theorem dL_law_941 : decode cL_law 941 = .ok (.iaload, 1) := by decide +kernel
theorem dL_law_942 : decode cL_law 942 = .ok (.invokevirtual 97, 3) := by decide +kernel
theorem dL_law_945 : decode cL_law 945 = .ok (.aload_n 2, 1) := by decide +kernel
theorem dL_law_946 : decode cL_law 946 = .ok (.aload_n 0, 1) := by decide +kernel
theorem dL_law_947 : decode cL_law 947 = .ok (.iload_n 3, 1) := by decide +kernel
theorem dL_law_948 : decode cL_law 948 = .ok (.iconst 1, 1) := by decide +kernel
theorem dL_law_949 : decode cL_law 949 = .ok (.iadd, 1) := by decide +kernel
theorem dL_law_950 : decode cL_law 950 = .ok (.iaload, 1) := by decide +kernel
theorem dL_law_951 : decode cL_law 951 = .ok (.aload_n 0, 1) := by decide +kernel
theorem dL_law_952 : decode cL_law 952 = .ok (.iload_n 3, 1) := by decide +kernel
theorem dL_law_953 : decode cL_law 953 = .ok (.iconst 2, 1) := by decide +kernel
theorem dL_law_954 : decode cL_law 954 = .ok (.iadd, 1) := by decide +kernel
theorem dL_law_955 : decode cL_law 955 = .ok (.iaload, 1) := by decide +kernel
theorem dL_law_956 : decode cL_law 956 = .ok (.invokevirtual 100, 3) := by decide +kernel
theorem dL_law_959 : decode cL_law 959 = .ok (.if_icmp .eq 994, 3) := by decide +kernel
theorem dL_law_962 : decode cL_law 962 = .ok (.iconst 0, 1) := by decide +kernel
theorem dL_law_963 : decode cL_law 963 = .ok (.ireturn, 1) := by decide +kernel
theorem dL_law_964 : decode cL_law 964 = .ok (.aload_n 1, 1) := by decide +kernel
theorem dL_law_965 : decode cL_law 965 = .ok (.aload_n 0, 1) := by decide +kernel
theorem dL_law_966 : decode cL_law 966 = .ok (.iload_n 3, 1) := by decide +kernel
theorem dL_law_967 : decode cL_law 967 = .ok (.iconst 1, 1) := by decide +kernel
theorem dL_law_968 : decode cL_law 968 = .ok (.iadd, 1) := by decide +kernel
theorem dL_law_969 : decode cL_law 969 = .ok (.iaload, 1) := by decide +kernel
theorem dL_law_970 : decode cL_law 970 = .ok (.aload_n 0, 1) := by decide +kernel
theorem dL_law_971 : decode cL_law 971 = .ok (.iload_n 3, 1) := by decide +kernel
theorem dL_law_972 : decode cL_law 972 = .ok (.iconst 2, 1) := by decide +kernel
theorem dL_law_973 : decode cL_law 973 = .ok (.iadd, 1) := by decide +kernel
theorem dL_law_974 : decode cL_law 974 = .ok (.iaload, 1) := by decide +kernel
theorem dL_law_975 : decode cL_law 975 = .ok (.invokevirtual 101, 3) := by decide +kernel
theorem dL_law_978 : decode cL_law 978 = .ok (.aload_n 2, 1) := by decide +kernel
theorem dL_law_979 : decode cL_law 979 = .ok (.aload_n 0, 1) := by decide +kernel
theorem dL_law_980 : decode cL_law 980 = .ok (.iload_n 3, 1) := by decide +kernel
theorem dL_law_981 : decode cL_law 981 = .ok (.iconst 1, 1) := by decide +kernel
theorem dL_law_982 : decode cL_law 982 = .ok (.iadd, 1) := by decide +kernel
theorem dL_law_983 : decode cL_law 983 = .ok (.iaload, 1) := by decide +kernel
theorem dL_law_984 : decode cL_law 984 = .ok (.aload_n 0, 1) := by decide +kernel
theorem dL_law_985 : decode cL_law 985 = .ok (.iload_n 3, 1) := by decide +kernel
theorem dL_law_986 : decode cL_law 986 = .ok (.iconst 2, 1) := by decide +kernel
theorem dL_law_987 : decode cL_law 987 = .ok (.iadd, 1) := by decide +kernel
theorem dL_law_988 : decode cL_law 988 = .ok (.iaload, 1) := by decide +kernel
theorem dL_law_989 : decode cL_law 989 = .ok (.invokevirtual 104, 3) := by decide +kernel
theorem dL_law_992 : decode cL_law 992 = .ok (.if_icmp .eq 961, 3) := by decide +kernel
theorem dL_law_995 : decode cL_law 995 = .ok (.iconst 0, 1) := by decide +kernel
theorem dL_law_996 : decode cL_law 996 = .ok (.ireturn, 1) := by decide +kernel
theorem dL_law_997 : decode cL_law 997 = .ok (.aload_n 1, 1) := by decide +kernel
theorem dL_law_998 : decode cL_law 998 = .ok (.aload_n 0, 1) := by decide +kernel
theorem dL_law_999 : decode cL_law 999 = .ok (.iload_n 3, 1) := by decide +kernel
theorem dL_law_1000 : decode cL_law 1000 = .ok (.iconst 1, 1) := by decide +kernel
theorem dL_law_1001 : decode cL_law 1001 = .ok (.iadd, 1) := by decide +kernel
theorem dL_law_1002 : decode cL_law 1002 = .ok (.iaload, 1) := by decide +kernel
theorem dL_law_1003 : decode cL_law 1003 = .ok (.aload_n 0, 1) := by decide +kernel
theorem dL_law_1004 : decode cL_law 1004 = .ok (.iload_n 3, 1) := by decide +kernel
theorem dL_law_1005 : decode cL_law 1005 = .ok (.iconst 2, 1) := by decide +kernel
theorem dL_law_1006 : decode cL_law 1006 = .ok (.iadd, 1) := by decide +kernel
theorem dL_law_1007 : decode cL_law 1007 = .ok (.iaload, 1) := by decide +kernel
theorem dL_law_1008 : decode cL_law 1008 = .ok (.invokevirtual 105, 3) := by decide +kernel
theorem dL_law_1011 : decode cL_law 1011 = .ok (.aload_n 2, 1) := by decide +kernel
theorem dL_law_1012 : decode cL_law 1012 = .ok (.aload_n 0, 1) := by decide +kernel
theorem dL_law_1013 : decode cL_law 1013 = .ok (.iload_n 3, 1) := by decide +kernel
theorem dL_law_1014 : decode cL_law 1014 = .ok (.iconst 1, 1) := by decide +kernel
theorem dL_law_1015 : decode cL_law 1015 = .ok (.iadd, 1) := by decide +kernel
theorem dL_law_1016 : decode cL_law 1016 = .ok (.iaload, 1) := by decide +kernel
theorem dL_law_1017 : decode cL_law 1017 = .ok (.aload_n 0, 1) := by decide +kernel
theorem dL_law_1018 : decode cL_law 1018 = .ok (.iload_n 3, 1) := by decide +kernel
theorem dL_law_1019 : decode cL_law 1019 = .ok (.iconst 2, 1) := by decide +kernel
theorem dL_law_1020 : decode cL_law 1020 = .ok (.iadd, 1) := by decide +kernel
theorem dL_law_1021 : decode cL_law 1021 = .ok (.iaload, 1) := by decide +kernel
theorem dL_law_1022 : decode cL_law 1022 = .ok (.invokevirtual 108, 3) := by decide +kernel
theorem dL_law_1025 : decode cL_law 1025 = .ok (.if_icmp .eq 928, 3) := by decide +kernel
theorem dL_law_1028 : decode cL_law 1028 = .ok (.iconst 0, 1) := by decide +kernel
theorem dL_law_1029 : decode cL_law 1029 = .ok (.ireturn, 1) := by decide +kernel
theorem dL_law_1030 : decode cL_law 1030 = .ok (.aload_n 1, 1) := by decide +kernel
theorem dL_law_1031 : decode cL_law 1031 = .ok (.aload_n 0, 1) := by decide +kernel
theorem dL_law_1032 : decode cL_law 1032 = .ok (.iload_n 3, 1) := by decide +kernel
theorem dL_law_1033 : decode cL_law 1033 = .ok (.iconst 1, 1) := by decide +kernel
theorem dL_law_1034 : decode cL_law 1034 = .ok (.iadd, 1) := by decide +kernel
theorem dL_law_1035 : decode cL_law 1035 = .ok (.iaload, 1) := by decide +kernel
theorem dL_law_1036 : decode cL_law 1036 = .ok (.aload_n 0, 1) := by decide +kernel
theorem dL_law_1037 : decode cL_law 1037 = .ok (.iload_n 3, 1) := by decide +kernel
theorem dL_law_1038 : decode cL_law 1038 = .ok (.iconst 2, 1) := by decide +kernel
theorem dL_law_1039 : decode cL_law 1039 = .ok (.iadd, 1) := by decide +kernel
theorem dL_law_1040 : decode cL_law 1040 = .ok (.iaload, 1) := by decide +kernel
theorem dL_law_1041 : decode cL_law 1041 = .ok (.aload_n 0, 1) := by decide +kernel
theorem dL_law_1042 : decode cL_law 1042 = .ok (.iload_n 3, 1) := by decide +kernel
theorem dL_law_1043 : decode cL_law 1043 = .ok (.iconst 3, 1) := by decide +kernel
theorem dL_law_1044 : decode cL_law 1044 = .ok (.iadd, 1) := by decide +kernel
theorem dL_law_1045 : decode cL_law 1045 = .ok (.iaload, 1) := by decide +kernel
theorem dL_law_1046 : decode cL_law 1046 = .ok (.invokevirtual 109, 3) := by decide +kernel
theorem dL_law_1049 : decode cL_law 1049 = .ok (.aload_n 2, 1) := by decide +kernel
theorem dL_law_1050 : decode cL_law 1050 = .ok (.aload_n 0, 1) := by decide +kernel
theorem dL_law_1051 : decode cL_law 1051 = .ok (.iload_n 3, 1) := by decide +kernel
theorem dL_law_1052 : decode cL_law 1052 = .ok (.iconst 1, 1) := by decide +kernel
theorem dL_law_1053 : decode cL_law 1053 = .ok (.iadd, 1) := by decide +kernel
theorem dL_law_1054 : decode cL_law 1054 = .ok (.iaload, 1) := by decide +kernel
theorem dL_law_1055 : decode cL_law 1055 = .ok (.aload_n 0, 1) := by decide +kernel
theorem dL_law_1056 : decode cL_law 1056 = .ok (.iload_n 3, 1) := by decide +kernel
theorem dL_law_1057 : decode cL_law 1057 = .ok (.iconst 2, 1) := by decide +kernel
theorem dL_law_1058 : decode cL_law 1058 = .ok (.iadd, 1) := by decide +kernel
theorem dL_law_1059 : decode cL_law 1059 = .ok (.iaload, 1) := by decide +kernel
theorem dL_law_1060 : decode cL_law 1060 = .ok (.aload_n 0, 1) := by decide +kernel
theorem dL_law_1061 : decode cL_law 1061 = .ok (.iload_n 3, 1) := by decide +kernel
theorem dL_law_1062 : decode cL_law 1062 = .ok (.iconst 3, 1) := by decide +kernel
theorem dL_law_1063 : decode cL_law 1063 = .ok (.iadd, 1) := by decide +kernel
theorem dL_law_1064 : decode cL_law 1064 = .ok (.iaload, 1) := by decide +kernel
theorem dL_law_1065 : decode cL_law 1065 = .ok (.invokevirtual 112, 3) := by decide +kernel
theorem dL_law_1068 : decode cL_law 1068 = .ok (.if_icmp .eq 885, 3) := by decide +kernel
theorem dL_law_1071 : decode cL_law 1071 = .ok (.iconst 0, 1) := by decide +kernel
theorem dL_law_1072 : decode cL_law 1072 = .ok (.ireturn, 1) := by decide +kernel
theorem dL_law_1073 : decode cL_law 1073 = .ok (.aload_n 1, 1) := by decide +kernel
theorem dL_law_1074 : decode cL_law 1074 = .ok (.aload_n 0, 1) := by decide +kernel
theorem dL_law_1075 : decode cL_law 1075 = .ok (.iload_n 3, 1) := by decide +kernel
theorem dL_law_1076 : decode cL_law 1076 = .ok (.iconst 1, 1) := by decide +kernel
theorem dL_law_1077 : decode cL_law 1077 = .ok (.iadd, 1) := by decide +kernel
theorem dL_law_1078 : decode cL_law 1078 = .ok (.iaload, 1) := by decide +kernel
theorem dL_law_1079 : decode cL_law 1079 = .ok (.aload_n 0, 1) := by decide +kernel
theorem dL_law_1080 : decode cL_law 1080 = .ok (.iload_n 3, 1) := by decide +kernel
theorem dL_law_1081 : decode cL_law 1081 = .ok (.iconst 2, 1) := by decide +kernel
theorem dL_law_1082 : decode cL_law 1082 = .ok (.iadd, 1) := by decide +kernel
theorem dL_law_1083 : decode cL_law 1083 = .ok (.iaload, 1) := by decide +kernel
theorem dL_law_1084 : decode cL_law 1084 = .ok (.aload_n 0, 1) := by decide +kernel
theorem dL_law_1085 : decode cL_law 1085 = .ok (.iload_n 3, 1) := by decide +kernel
theorem dL_law_1086 : decode cL_law 1086 = .ok (.iconst 3, 1) := by decide +kernel
theorem dL_law_1087 : decode cL_law 1087 = .ok (.iadd, 1) := by decide +kernel
theorem dL_law_1088 : decode cL_law 1088 = .ok (.iaload, 1) := by decide +kernel
theorem dL_law_1089 : decode cL_law 1089 = .ok (.invokevirtual 113, 3) := by decide +kernel
theorem dL_law_1092 : decode cL_law 1092 = .ok (.aload_n 2, 1) := by decide +kernel
theorem dL_law_1093 : decode cL_law 1093 = .ok (.aload_n 0, 1) := by decide +kernel
theorem dL_law_1094 : decode cL_law 1094 = .ok (.iload_n 3, 1) := by decide +kernel
theorem dL_law_1095 : decode cL_law 1095 = .ok (.iconst 1, 1) := by decide +kernel
theorem dL_law_1096 : decode cL_law 1096 = .ok (.iadd, 1) := by decide +kernel
theorem dL_law_1097 : decode cL_law 1097 = .ok (.iaload, 1) := by decide +kernel
theorem dL_law_1098 : decode cL_law 1098 = .ok (.aload_n 0, 1) := by decide +kernel
theorem dL_law_1099 : decode cL_law 1099 = .ok (.iload_n 3, 1) := by decide +kernel
theorem dL_law_1100 : decode cL_law 1100 = .ok (.iconst 2, 1) := by decide +kernel
theorem dL_law_1101 : decode cL_law 1101 = .ok (.iadd, 1) := by decide +kernel
theorem dL_law_1102 : decode cL_law 1102 = .ok (.iaload, 1) := by decide +kernel
theorem dL_law_1103 : decode cL_law 1103 = .ok (.aload_n 0, 1) := by decide +kernel
theorem dL_law_1104 : decode cL_law 1104 = .ok (.iload_n 3, 1) := by decide +kernel
theorem dL_law_1105 : decode cL_law 1105 = .ok (.iconst 3, 1) := by decide +kernel
theorem dL_law_1106 : decode cL_law 1106 = .ok (.iadd, 1) := by decide +kernel
theorem dL_law_1107 : decode cL_law 1107 = .ok (.iaload, 1) := by decide +kernel
theorem dL_law_1108 : decode cL_law 1108 = .ok (.invokevirtual 116, 3) := by decide +kernel
theorem dL_law_1111 : decode cL_law 1111 = .ok (.if_icmp .eq 842, 3) := by decide +kernel
theorem dL_law_1114 : decode cL_law 1114 = .ok (.iconst 0, 1) := by decide +kernel
theorem dL_law_1115 : decode cL_law 1115 = .ok (.ireturn, 1) := by decide +kernel
theorem dL_law_1116 : decode cL_law 1116 = .ok (.aload_n 1, 1) := by decide +kernel
theorem dL_law_1117 : decode cL_law 1117 = .ok (.aload_n 0, 1) := by decide +kernel
theorem dL_law_1118 : decode cL_law 1118 = .ok (.iload_n 3, 1) := by decide +kernel
theorem dL_law_1119 : decode cL_law 1119 = .ok (.iconst 1, 1) := by decide +kernel
theorem dL_law_1120 : decode cL_law 1120 = .ok (.iadd, 1) := by decide +kernel
theorem dL_law_1121 : decode cL_law 1121 = .ok (.iaload, 1) := by decide +kernel
theorem dL_law_1122 : decode cL_law 1122 = .ok (.aload_n 0, 1) := by decide +kernel
theorem dL_law_1123 : decode cL_law 1123 = .ok (.iload_n 3, 1) := by decide +kernel
theorem dL_law_1124 : decode cL_law 1124 = .ok (.iconst 2, 1) := by decide +kernel
theorem dL_law_1125 : decode cL_law 1125 = .ok (.iadd, 1) := by decide +kernel
theorem dL_law_1126 : decode cL_law 1126 = .ok (.iaload, 1) := by decide +kernel
theorem dL_law_1127 : decode cL_law 1127 = .ok (.aload_n 0, 1) := by decide +kernel
theorem dL_law_1128 : decode cL_law 1128 = .ok (.iload_n 3, 1) := by decide +kernel
theorem dL_law_1129 : decode cL_law 1129 = .ok (.iconst 3, 1) := by decide +kernel
theorem dL_law_1130 : decode cL_law 1130 = .ok (.iadd, 1) := by decide +kernel
theorem dL_law_1131 : decode cL_law 1131 = .ok (.iaload, 1) := by decide +kernel
theorem dL_law_1132 : decode cL_law 1132 = .ok (.invokevirtual 117, 3) := by decide +kernel
theorem dL_law_1135 : decode cL_law 1135 = .ok (.aload_n 2, 1) := by decide +kernel
theorem dL_law_1136 : decode cL_law 1136 = .ok (.aload_n 0, 1) := by decide +kernel
theorem dL_law_1137 : decode cL_law 1137 = .ok (.iload_n 3, 1) := by decide +kernel
theorem dL_law_1138 : decode cL_law 1138 = .ok (.iconst 1, 1) := by decide +kernel
theorem dL_law_1139 : decode cL_law 1139 = .ok (.iadd, 1) := by decide +kernel
theorem dL_law_1140 : decode cL_law 1140 = .ok (.iaload, 1) := by decide +kernel
theorem dL_law_1141 : decode cL_law 1141 = .ok (.aload_n 0, 1) := by decide +kernel
theorem dL_law_1142 : decode cL_law 1142 = .ok (.iload_n 3, 1) := by decide +kernel
theorem dL_law_1143 : decode cL_law 1143 = .ok (.iconst 2, 1) := by decide +kernel
theorem dL_law_1144 : decode cL_law 1144 = .ok (.iadd, 1) := by decide +kernel
theorem dL_law_1145 : decode cL_law 1145 = .ok (.iaload, 1) := by decide +kernel
theorem dL_law_1146 : decode cL_law 1146 = .ok (.aload_n 0, 1) := by decide +kernel
theorem dL_law_1147 : decode cL_law 1147 = .ok (.iload_n 3, 1) := by decide +kernel
theorem dL_law_1148 : decode cL_law 1148 = .ok (.iconst 3, 1) := by decide +kernel
theorem dL_law_1149 : decode cL_law 1149 = .ok (.iadd, 1) := by decide +kernel
theorem dL_law_1150 : decode cL_law 1150 = .ok (.iaload, 1) := by decide +kernel
theorem dL_law_1151 : decode cL_law 1151 = .ok (.invokevirtual 120, 3) := by decide +kernel
theorem dL_law_1154 : decode cL_law 1154 = .ok (.if_icmp .eq 799, 3) := by decide +kernel
theorem dL_law_1157 : decode cL_law 1157 = .ok (.iconst 0, 1) := by decide +kernel
theorem dL_law_1158 : decode cL_law 1158 = .ok (.ireturn, 1) := by decide +kernel
theorem dL_law_1159 : decode cL_law 1159 = .ok (.aload_n 1, 1) := by decide +kernel
theorem dL_law_1160 : decode cL_law 1160 = .ok (.invokevirtual 121, 3) := by decide +kernel
theorem dL_law_1163 : decode cL_law 1163 = .ok (.aload_n 2, 1) := by decide +kernel
theorem dL_law_1164 : decode cL_law 1164 = .ok (.invokevirtual 125, 3) := by decide +kernel
theorem dL_law_1167 : decode cL_law 1167 = .ok (.if_icmp .eq 786, 3) := by decide +kernel
theorem dL_law_1170 : decode cL_law 1170 = .ok (.iconst 0, 1) := by decide +kernel
theorem dL_law_1171 : decode cL_law 1171 = .ok (.ireturn, 1) := by decide +kernel
theorem dL_law_1172 : decode cL_law 1172 = .ok (.aload_n 1, 1) := by decide +kernel
theorem dL_law_1173 : decode cL_law 1173 = .ok (.invokevirtual 126, 3) := by decide +kernel
theorem dL_law_1176 : decode cL_law 1176 = .ok (.aload_n 2, 1) := by decide +kernel
theorem dL_law_1177 : decode cL_law 1177 = .ok (.invokevirtual 129, 3) := by decide +kernel
theorem dL_law_1180 : decode cL_law 1180 = .ok (.if_icmp .eq 773, 3) := by decide +kernel
theorem dL_law_1183 : decode cL_law 1183 = .ok (.iconst 0, 1) := by decide +kernel
theorem dL_law_1184 : decode cL_law 1184 = .ok (.ireturn, 1) := by decide +kernel
theorem dL_law_1185 : decode cL_law 1185 = .ok (.aload_n 1, 1) := by decide +kernel
theorem dL_law_1186 : decode cL_law 1186 = .ok (.aload_n 0, 1) := by decide +kernel
theorem dL_law_1187 : decode cL_law 1187 = .ok (.iload_n 3, 1) := by decide +kernel
theorem dL_law_1188 : decode cL_law 1188 = .ok (.iconst 1, 1) := by decide +kernel
theorem dL_law_1189 : decode cL_law 1189 = .ok (.iadd, 1) := by decide +kernel
theorem dL_law_1190 : decode cL_law 1190 = .ok (.iaload, 1) := by decide +kernel
theorem dL_law_1191 : decode cL_law 1191 = .ok (.aload_n 0, 1) := by decide +kernel
theorem dL_law_1192 : decode cL_law 1192 = .ok (.iload_n 3, 1) := by decide +kernel
theorem dL_law_1193 : decode cL_law 1193 = .ok (.iconst 2, 1) := by decide +kernel
theorem dL_law_1194 : decode cL_law 1194 = .ok (.iadd, 1) := by decide +kernel
theorem dL_law_1195 : decode cL_law 1195 = .ok (.iaload, 1) := by decide +kernel
theorem dL_law_1196 : decode cL_law 1196 = .ok (.aload_n 0, 1) := by decide +kernel
theorem dL_law_1197 : decode cL_law 1197 = .ok (.iload_n 3, 1) := by decide +kernel
theorem dL_law_1198 : decode cL_law 1198 = .ok (.iconst 3, 1) := by decide +kernel
theorem dL_law_1199 : decode cL_law 1199 = .ok (.iadd, 1) := by decide +kernel
theorem dL_law_1200 : decode cL_law 1200 = .ok (.iaload, 1) := by decide +kernel
theorem dL_law_1201 : decode cL_law 1201 = .ok (.aload_n 0, 1) := by decide +kernel
theorem dL_law_1202 : decode cL_law 1202 = .ok (.iload_n 3, 1) := by decide +kernel
theorem dL_law_1203 : decode cL_law 1203 = .ok (.iconst 4, 1) := by decide +kernel
theorem dL_law_1204 : decode cL_law 1204 = .ok (.iadd, 1) := by decide +kernel
theorem dL_law_1205 : decode cL_law 1205 = .ok (.iaload, 1) := by decide +kernel
theorem dL_law_1206 : decode cL_law 1206 = .ok (.invokevirtual 130, 3) := by decide +kernel
theorem dL_law_1209 : decode cL_law 1209 = .ok (.aload_n 2, 1) := by decide +kernel
theorem dL_law_1210 : decode cL_law 1210 = .ok (.aload_n 0, 1) := by decide +kernel
theorem dL_law_1211 : decode cL_law 1211 = .ok (.iload_n 3, 1) := by decide +kernel
theorem dL_law_1212 : decode cL_law 1212 = .ok (.iconst 1, 1) := by decide +kernel
theorem dL_law_1213 : decode cL_law 1213 = .ok (.iadd, 1) := by decide +kernel
theorem dL_law_1214 : decode cL_law 1214 = .ok (.iaload, 1) := by decide +kernel
theorem dL_law_1215 : decode cL_law 1215 = .ok (.aload_n 0, 1) := by decide +kernel
theorem dL_law_1216 : decode cL_law 1216 = .ok (.iload_n 3, 1) := by decide +kernel
theorem dL_law_1217 : decode cL_law 1217 = .ok (.iconst 2, 1) := by decide +kernel
theorem dL_law_1218 : decode cL_law 1218 = .ok (.iadd, 1) := by decide +kernel
theorem dL_law_1219 : decode cL_law 1219 = .ok (.iaload, 1) := by decide +kernel
theorem dL_law_1220 : decode cL_law 1220 = .ok (.aload_n 0, 1) := by decide +kernel
theorem dL_law_1221 : decode cL_law 1221 = .ok (.iload_n 3, 1) := by decide +kernel
theorem dL_law_1222 : decode cL_law 1222 = .ok (.iconst 3, 1) := by decide +kernel
theorem dL_law_1223 : decode cL_law 1223 = .ok (.iadd, 1) := by decide +kernel
theorem dL_law_1224 : decode cL_law 1224 = .ok (.iaload, 1) := by decide +kernel
theorem dL_law_1225 : decode cL_law 1225 = .ok (.aload_n 0, 1) := by decide +kernel
theorem dL_law_1226 : decode cL_law 1226 = .ok (.iload_n 3, 1) := by decide +kernel
theorem dL_law_1227 : decode cL_law 1227 = .ok (.iconst 4, 1) := by decide +kernel
theorem dL_law_1228 : decode cL_law 1228 = .ok (.iadd, 1) := by decide +kernel
theorem dL_law_1229 : decode cL_law 1229 = .ok (.iaload, 1) := by decide +kernel
theorem dL_law_1230 : decode cL_law 1230 = .ok (.invokevirtual 134, 3) := by decide +kernel
theorem dL_law_1233 : decode cL_law 1233 = .ok (.if_icmp .eq 720, 3) := by decide +kernel
theorem dL_law_1236 : decode cL_law 1236 = .ok (.iconst 0, 1) := by decide +kernel
theorem dL_law_1237 : decode cL_law 1237 = .ok (.ireturn, 1) := by decide +kernel
theorem dL_law_1238 : decode cL_law 1238 = .ok (.aload_n 1, 1) := by decide +kernel
theorem dL_law_1239 : decode cL_law 1239 = .ok (.aload_n 0, 1) := by decide +kernel
theorem dL_law_1240 : decode cL_law 1240 = .ok (.iload_n 3, 1) := by decide +kernel
theorem dL_law_1241 : decode cL_law 1241 = .ok (.iconst 1, 1) := by decide +kernel
theorem dL_law_1242 : decode cL_law 1242 = .ok (.iadd, 1) := by decide +kernel
theorem dL_law_1243 : decode cL_law 1243 = .ok (.iaload, 1) := by decide +kernel
theorem dL_law_1244 : decode cL_law 1244 = .ok (.aload_n 0, 1) := by decide +kernel
theorem dL_law_1245 : decode cL_law 1245 = .ok (.iload_n 3, 1) := by decide +kernel
theorem dL_law_1246 : decode cL_law 1246 = .ok (.iconst 2, 1) := by decide +kernel
theorem dL_law_1247 : decode cL_law 1247 = .ok (.iadd, 1) := by decide +kernel
theorem dL_law_1248 : decode cL_law 1248 = .ok (.iaload, 1) := by decide +kernel
theorem dL_law_1249 : decode cL_law 1249 = .ok (.aload_n 0, 1) := by decide +kernel
theorem dL_law_1250 : decode cL_law 1250 = .ok (.iload_n 3, 1) := by decide +kernel
theorem dL_law_1251 : decode cL_law 1251 = .ok (.iconst 3, 1) := by decide +kernel
theorem dL_law_1252 : decode cL_law 1252 = .ok (.iadd, 1) := by decide +kernel
theorem dL_law_1253 : decode cL_law 1253 = .ok (.iaload, 1) := by decide +kernel
theorem dL_law_1254 : decode cL_law 1254 = .ok (.invokevirtual 135, 3) := by decide +kernel
theorem dL_law_1257 : decode cL_law 1257 = .ok (.aload_n 2, 1) := by decide +kernel
theorem dL_law_1258 : decode cL_law 1258 = .ok (.aload_n 0, 1) := by decide +kernel
theorem dL_law_1259 : decode cL_law 1259 = .ok (.iload_n 3, 1) := by decide +kernel
theorem dL_law_1260 : decode cL_law 1260 = .ok (.iconst 1, 1) := by decide +kernel
theorem dL_law_1261 : decode cL_law 1261 = .ok (.iadd, 1) := by decide +kernel
theorem dL_law_1262 : decode cL_law 1262 = .ok (.iaload, 1) := by decide +kernel
theorem dL_law_1263 : decode cL_law 1263 = .ok (.aload_n 0, 1) := by decide +kernel
theorem dL_law_1264 : decode cL_law 1264 = .ok (.iload_n 3, 1) := by decide +kernel
theorem dL_law_1265 : decode cL_law 1265 = .ok (.iconst 2, 1) := by decide +kernel
theorem dL_law_1266 : decode cL_law 1266 = .ok (.iadd, 1) := by decide +kernel
theorem dL_law_1267 : decode cL_law 1267 = .ok (.iaload, 1) := by decide +kernel
theorem dL_law_1268 : decode cL_law 1268 = .ok (.aload_n 0, 1) := by decide +kernel
theorem dL_law_1269 : decode cL_law 1269 = .ok (.iload_n 3, 1) := by decide +kernel
theorem dL_law_1270 : decode cL_law 1270 = .ok (.iconst 3, 1) := by decide +kernel
theorem dL_law_1271 : decode cL_law 1271 = .ok (.iadd, 1) := by decide +kernel
theorem dL_law_1272 : decode cL_law 1272 = .ok (.iaload, 1) := by decide +kernel
theorem dL_law_1273 : decode cL_law 1273 = .ok (.invokevirtual 138, 3) := by decide +kernel
theorem dL_law_1276 : decode cL_law 1276 = .ok (.if_icmp .eq 677, 3) := by decide +kernel
theorem dL_law_1279 : decode cL_law 1279 = .ok (.iconst 0, 1) := by decide +kernel
theorem dL_law_1280 : decode cL_law 1280 = .ok (.ireturn, 1) := by decide +kernel
theorem dL_law_1281 : decode cL_law 1281 = .ok (.aload_n 1, 1) := by decide +kernel
theorem dL_law_1282 : decode cL_law 1282 = .ok (.aload_n 0, 1) := by decide +kernel
theorem dL_law_1283 : decode cL_law 1283 = .ok (.iload_n 3, 1) := by decide +kernel
theorem dL_law_1284 : decode cL_law 1284 = .ok (.iconst 1, 1) := by decide +kernel
theorem dL_law_1285 : decode cL_law 1285 = .ok (.iadd, 1) := by decide +kernel
theorem dL_law_1286 : decode cL_law 1286 = .ok (.iaload, 1) := by decide +kernel
theorem dL_law_1287 : decode cL_law 1287 = .ok (.aload_n 0, 1) := by decide +kernel
theorem dL_law_1288 : decode cL_law 1288 = .ok (.iload_n 3, 1) := by decide +kernel
theorem dL_law_1289 : decode cL_law 1289 = .ok (.iconst 2, 1) := by decide +kernel
theorem dL_law_1290 : decode cL_law 1290 = .ok (.iadd, 1) := by decide +kernel
theorem dL_law_1291 : decode cL_law 1291 = .ok (.iaload, 1) := by decide +kernel
theorem dL_law_1292 : decode cL_law 1292 = .ok (.invokevirtual 139, 3) := by decide +kernel
theorem dL_law_1295 : decode cL_law 1295 = .ok (.aload_n 2, 1) := by decide +kernel
theorem dL_law_1296 : decode cL_law 1296 = .ok (.aload_n 0, 1) := by decide +kernel
theorem dL_law_1297 : decode cL_law 1297 = .ok (.iload_n 3, 1) := by decide +kernel
theorem dL_law_1298 : decode cL_law 1298 = .ok (.iconst 1, 1) := by decide +kernel
theorem dL_law_1299 : decode cL_law 1299 = .ok (.iadd, 1) := by decide +kernel
theorem dL_law_1300 : decode cL_law 1300 = .ok (.iaload, 1) := by decide +kernel
theorem dL_law_1301 : decode cL_law 1301 = .ok (.aload_n 0, 1) := by decide +kernel
theorem dL_law_1302 : decode cL_law 1302 = .ok (.iload_n 3, 1) := by decide +kernel
theorem dL_law_1303 : decode cL_law 1303 = .ok (.iconst 2, 1) := by decide +kernel
theorem dL_law_1304 : decode cL_law 1304 = .ok (.iadd, 1) := by decide +kernel
theorem dL_law_1305 : decode cL_law 1305 = .ok (.iaload, 1) := by decide +kernel
theorem dL_law_1306 : decode cL_law 1306 = .ok (.invokevirtual 143, 3) := by decide +kernel
theorem dL_law_1309 : decode cL_law 1309 = .ok (.lcmp, 1) := by decide +kernel
theorem dL_law_1310 : decode cL_law 1310 = .ok (.ifCond .eq 643, 3) := by decide +kernel
theorem dL_law_1313 : decode cL_law 1313 = .ok (.iconst 0, 1) := by decide +kernel
theorem dL_law_1314 : decode cL_law 1314 = .ok (.ireturn, 1) := by decide +kernel
theorem dL_law_1315 : decode cL_law 1315 = .ok (.aload_n 1, 1) := by decide +kernel
theorem dL_law_1316 : decode cL_law 1316 = .ok (.aload_n 0, 1) := by decide +kernel
theorem dL_law_1317 : decode cL_law 1317 = .ok (.iload_n 3, 1) := by decide +kernel
theorem dL_law_1318 : decode cL_law 1318 = .ok (.iconst 1, 1) := by decide +kernel
theorem dL_law_1319 : decode cL_law 1319 = .ok (.iadd, 1) := by decide +kernel
theorem dL_law_1320 : decode cL_law 1320 = .ok (.iaload, 1) := by decide +kernel
theorem dL_law_1321 : decode cL_law 1321 = .ok (.aload_n 0, 1) := by decide +kernel
theorem dL_law_1322 : decode cL_law 1322 = .ok (.iload_n 3, 1) := by decide +kernel
theorem dL_law_1323 : decode cL_law 1323 = .ok (.iconst 2, 1) := by decide +kernel
theorem dL_law_1324 : decode cL_law 1324 = .ok (.iadd, 1) := by decide +kernel
theorem dL_law_1325 : decode cL_law 1325 = .ok (.iaload, 1) := by decide +kernel
theorem dL_law_1326 : decode cL_law 1326 = .ok (.invokevirtual 144, 3) := by decide +kernel
theorem dL_law_1329 : decode cL_law 1329 = .ok (.aload_n 2, 1) := by decide +kernel
theorem dL_law_1330 : decode cL_law 1330 = .ok (.aload_n 0, 1) := by decide +kernel
theorem dL_law_1331 : decode cL_law 1331 = .ok (.iload_n 3, 1) := by decide +kernel
theorem dL_law_1332 : decode cL_law 1332 = .ok (.iconst 1, 1) := by decide +kernel
theorem dL_law_1333 : decode cL_law 1333 = .ok (.iadd, 1) := by decide +kernel
theorem dL_law_1334 : decode cL_law 1334 = .ok (.iaload, 1) := by decide +kernel
theorem dL_law_1335 : decode cL_law 1335 = .ok (.aload_n 0, 1) := by decide +kernel
theorem dL_law_1336 : decode cL_law 1336 = .ok (.iload_n 3, 1) := by decide +kernel
theorem dL_law_1337 : decode cL_law 1337 = .ok (.iconst 2, 1) := by decide +kernel
theorem dL_law_1338 : decode cL_law 1338 = .ok (.iadd, 1) := by decide +kernel
theorem dL_law_1339 : decode cL_law 1339 = .ok (.iaload, 1) := by decide +kernel
theorem dL_law_1340 : decode cL_law 1340 = .ok (.invokevirtual 147, 3) := by decide +kernel
theorem dL_law_1343 : decode cL_law 1343 = .ok (.lcmp, 1) := by decide +kernel
theorem dL_law_1344 : decode cL_law 1344 = .ok (.ifCond .eq 609, 3) := by decide +kernel
theorem dL_law_1347 : decode cL_law 1347 = .ok (.iconst 0, 1) := by decide +kernel
theorem dL_law_1348 : decode cL_law 1348 = .ok (.ireturn, 1) := by decide +kernel
theorem dL_law_1349 : decode cL_law 1349 = .ok (.aload_n 1, 1) := by decide +kernel
theorem dL_law_1350 : decode cL_law 1350 = .ok (.aload_n 0, 1) := by decide +kernel
theorem dL_law_1351 : decode cL_law 1351 = .ok (.iload_n 3, 1) := by decide +kernel
theorem dL_law_1352 : decode cL_law 1352 = .ok (.iconst 1, 1) := by decide +kernel
theorem dL_law_1353 : decode cL_law 1353 = .ok (.iadd, 1) := by decide +kernel
theorem dL_law_1354 : decode cL_law 1354 = .ok (.iaload, 1) := by decide +kernel
theorem dL_law_1355 : decode cL_law 1355 = .ok (.aload_n 0, 1) := by decide +kernel
theorem dL_law_1356 : decode cL_law 1356 = .ok (.iload_n 3, 1) := by decide +kernel
theorem dL_law_1357 : decode cL_law 1357 = .ok (.iconst 2, 1) := by decide +kernel
theorem dL_law_1358 : decode cL_law 1358 = .ok (.iadd, 1) := by decide +kernel
theorem dL_law_1359 : decode cL_law 1359 = .ok (.iaload, 1) := by decide +kernel
theorem dL_law_1360 : decode cL_law 1360 = .ok (.aload_n 0, 1) := by decide +kernel
theorem dL_law_1361 : decode cL_law 1361 = .ok (.iload_n 3, 1) := by decide +kernel
theorem dL_law_1362 : decode cL_law 1362 = .ok (.iconst 3, 1) := by decide +kernel
theorem dL_law_1363 : decode cL_law 1363 = .ok (.iadd, 1) := by decide +kernel
theorem dL_law_1364 : decode cL_law 1364 = .ok (.iaload, 1) := by decide +kernel
theorem dL_law_1365 : decode cL_law 1365 = .ok (.invokevirtual 148, 3) := by decide +kernel
theorem dL_law_1368 : decode cL_law 1368 = .ok (.aload_n 2, 1) := by decide +kernel
theorem dL_law_1369 : decode cL_law 1369 = .ok (.aload_n 0, 1) := by decide +kernel
theorem dL_law_1370 : decode cL_law 1370 = .ok (.iload_n 3, 1) := by decide +kernel
theorem dL_law_1371 : decode cL_law 1371 = .ok (.iconst 1, 1) := by decide +kernel
theorem dL_law_1372 : decode cL_law 1372 = .ok (.iadd, 1) := by decide +kernel
theorem dL_law_1373 : decode cL_law 1373 = .ok (.iaload, 1) := by decide +kernel
theorem dL_law_1374 : decode cL_law 1374 = .ok (.aload_n 0, 1) := by decide +kernel
theorem dL_law_1375 : decode cL_law 1375 = .ok (.iload_n 3, 1) := by decide +kernel
theorem dL_law_1376 : decode cL_law 1376 = .ok (.iconst 2, 1) := by decide +kernel
theorem dL_law_1377 : decode cL_law 1377 = .ok (.iadd, 1) := by decide +kernel
theorem dL_law_1378 : decode cL_law 1378 = .ok (.iaload, 1) := by decide +kernel
theorem dL_law_1379 : decode cL_law 1379 = .ok (.aload_n 0, 1) := by decide +kernel
theorem dL_law_1380 : decode cL_law 1380 = .ok (.iload_n 3, 1) := by decide +kernel
theorem dL_law_1381 : decode cL_law 1381 = .ok (.iconst 3, 1) := by decide +kernel
theorem dL_law_1382 : decode cL_law 1382 = .ok (.iadd, 1) := by decide +kernel
theorem dL_law_1383 : decode cL_law 1383 = .ok (.iaload, 1) := by decide +kernel
theorem dL_law_1384 : decode cL_law 1384 = .ok (.invokevirtual 152, 3) := by decide +kernel
theorem dL_law_1387 : decode cL_law 1387 = .ok (.lcmp, 1) := by decide +kernel
theorem dL_law_1388 : decode cL_law 1388 = .ok (.ifCond .eq 565, 3) := by decide +kernel
theorem dL_law_1391 : decode cL_law 1391 = .ok (.iconst 0, 1) := by decide +kernel
theorem dL_law_1392 : decode cL_law 1392 = .ok (.ireturn, 1) := by decide +kernel
theorem dL_law_1393 : decode cL_law 1393 = .ok (.aload_n 1, 1) := by decide +kernel
theorem dL_law_1394 : decode cL_law 1394 = .ok (.aload_n 0, 1) := by decide +kernel
theorem dL_law_1395 : decode cL_law 1395 = .ok (.iload_n 3, 1) := by decide +kernel
theorem dL_law_1396 : decode cL_law 1396 = .ok (.iconst 1, 1) := by decide +kernel
theorem dL_law_1397 : decode cL_law 1397 = .ok (.iadd, 1) := by decide +kernel
theorem dL_law_1398 : decode cL_law 1398 = .ok (.iaload, 1) := by decide +kernel
theorem dL_law_1399 : decode cL_law 1399 = .ok (.aload_n 0, 1) := by decide +kernel
theorem dL_law_1400 : decode cL_law 1400 = .ok (.iload_n 3, 1) := by decide +kernel
theorem dL_law_1401 : decode cL_law 1401 = .ok (.iconst 2, 1) := by decide +kernel
theorem dL_law_1402 : decode cL_law 1402 = .ok (.iadd, 1) := by decide +kernel
theorem dL_law_1403 : decode cL_law 1403 = .ok (.iaload, 1) := by decide +kernel
theorem dL_law_1404 : decode cL_law 1404 = .ok (.invokevirtual 153, 3) := by decide +kernel
theorem dL_law_1407 : decode cL_law 1407 = .ok (.aload_n 2, 1) := by decide +kernel
theorem dL_law_1408 : decode cL_law 1408 = .ok (.aload_n 0, 1) := by decide +kernel
theorem dL_law_1409 : decode cL_law 1409 = .ok (.iload_n 3, 1) := by decide +kernel
theorem dL_law_1410 : decode cL_law 1410 = .ok (.iconst 1, 1) := by decide +kernel
theorem dL_law_1411 : decode cL_law 1411 = .ok (.iadd, 1) := by decide +kernel
theorem dL_law_1412 : decode cL_law 1412 = .ok (.iaload, 1) := by decide +kernel
theorem dL_law_1413 : decode cL_law 1413 = .ok (.aload_n 0, 1) := by decide +kernel
theorem dL_law_1414 : decode cL_law 1414 = .ok (.iload_n 3, 1) := by decide +kernel
theorem dL_law_1415 : decode cL_law 1415 = .ok (.iconst 2, 1) := by decide +kernel
theorem dL_law_1416 : decode cL_law 1416 = .ok (.iadd, 1) := by decide +kernel
theorem dL_law_1417 : decode cL_law 1417 = .ok (.iaload, 1) := by decide +kernel
theorem dL_law_1418 : decode cL_law 1418 = .ok (.invokevirtual 156, 3) := by decide +kernel
theorem dL_law_1421 : decode cL_law 1421 = .ok (.if_icmp .eq 532, 3) := by decide +kernel
theorem dL_law_1424 : decode cL_law 1424 = .ok (.iconst 0, 1) := by decide +kernel
theorem dL_law_1425 : decode cL_law 1425 = .ok (.ireturn, 1) := by decide +kernel
theorem dL_law_1426 : decode cL_law 1426 = .ok (.aload_n 1, 1) := by decide +kernel
theorem dL_law_1427 : decode cL_law 1427 = .ok (.aload_n 0, 1) := by decide +kernel
theorem dL_law_1428 : decode cL_law 1428 = .ok (.iload_n 3, 1) := by decide +kernel
theorem dL_law_1429 : decode cL_law 1429 = .ok (.iconst 1, 1) := by decide +kernel
theorem dL_law_1430 : decode cL_law 1430 = .ok (.iadd, 1) := by decide +kernel
theorem dL_law_1431 : decode cL_law 1431 = .ok (.iaload, 1) := by decide +kernel
theorem dL_law_1432 : decode cL_law 1432 = .ok (.invokevirtual 157, 3) := by decide +kernel
theorem dL_law_1435 : decode cL_law 1435 = .ok (.aload_n 2, 1) := by decide +kernel
theorem dL_law_1436 : decode cL_law 1436 = .ok (.aload_n 0, 1) := by decide +kernel
theorem dL_law_1437 : decode cL_law 1437 = .ok (.iload_n 3, 1) := by decide +kernel
theorem dL_law_1438 : decode cL_law 1438 = .ok (.iconst 1, 1) := by decide +kernel
theorem dL_law_1439 : decode cL_law 1439 = .ok (.iadd, 1) := by decide +kernel
theorem dL_law_1440 : decode cL_law 1440 = .ok (.iaload, 1) := by decide +kernel
theorem dL_law_1441 : decode cL_law 1441 = .ok (.invokevirtual 160, 3) := by decide +kernel
theorem dL_law_1444 : decode cL_law 1444 = .ok (.if_icmp .eq 509, 3) := by decide +kernel
theorem dL_law_1447 : decode cL_law 1447 = .ok (.iconst 0, 1) := by decide +kernel
theorem dL_law_1448 : decode cL_law 1448 = .ok (.ireturn, 1) := by decide +kernel
theorem dL_law_1449 : decode cL_law 1449 = .ok (.aload_n 1, 1) := by decide +kernel
theorem dL_law_1450 : decode cL_law 1450 = .ok (.aload_n 0, 1) := by decide +kernel
theorem dL_law_1451 : decode cL_law 1451 = .ok (.iload_n 3, 1) := by decide +kernel
theorem dL_law_1452 : decode cL_law 1452 = .ok (.iconst 1, 1) := by decide +kernel
theorem dL_law_1453 : decode cL_law 1453 = .ok (.iadd, 1) := by decide +kernel
theorem dL_law_1454 : decode cL_law 1454 = .ok (.iaload, 1) := by decide +kernel
theorem dL_law_1455 : decode cL_law 1455 = .ok (.aload_n 0, 1) := by decide +kernel
theorem dL_law_1456 : decode cL_law 1456 = .ok (.iload_n 3, 1) := by decide +kernel
theorem dL_law_1457 : decode cL_law 1457 = .ok (.iconst 2, 1) := by decide +kernel
theorem dL_law_1458 : decode cL_law 1458 = .ok (.iadd, 1) := by decide +kernel
theorem dL_law_1459 : decode cL_law 1459 = .ok (.iaload, 1) := by decide +kernel
theorem dL_law_1460 : decode cL_law 1460 = .ok (.invokevirtual 161, 3) := by decide +kernel
theorem dL_law_1463 : decode cL_law 1463 = .ok (.aload_n 2, 1) := by decide +kernel
theorem dL_law_1464 : decode cL_law 1464 = .ok (.aload_n 0, 1) := by decide +kernel
theorem dL_law_1465 : decode cL_law 1465 = .ok (.iload_n 3, 1) := by decide +kernel
theorem dL_law_1466 : decode cL_law 1466 = .ok (.iconst 1, 1) := by decide +kernel
theorem dL_law_1467 : decode cL_law 1467 = .ok (.iadd, 1) := by decide +kernel
theorem dL_law_1468 : decode cL_law 1468 = .ok (.iaload, 1) := by decide +kernel
theorem dL_law_1469 : decode cL_law 1469 = .ok (.aload_n 0, 1) := by decide +kernel
theorem dL_law_1470 : decode cL_law 1470 = .ok (.iload_n 3, 1) := by decide +kernel
theorem dL_law_1471 : decode cL_law 1471 = .ok (.iconst 2, 1) := by decide +kernel
theorem dL_law_1472 : decode cL_law 1472 = .ok (.iadd, 1) := by decide +kernel
theorem dL_law_1473 : decode cL_law 1473 = .ok (.iaload, 1) := by decide +kernel
theorem dL_law_1474 : decode cL_law 1474 = .ok (.invokevirtual 164, 3) := by decide +kernel
theorem dL_law_1477 : decode cL_law 1477 = .ok (.if_icmp .eq 476, 3) := by decide +kernel
theorem dL_law_1480 : decode cL_law 1480 = .ok (.iconst 0, 1) := by decide +kernel
theorem dL_law_1481 : decode cL_law 1481 = .ok (.ireturn, 1) := by decide +kernel
theorem dL_law_1482 : decode cL_law 1482 = .ok (.aload_n 1, 1) := by decide +kernel
theorem dL_law_1483 : decode cL_law 1483 = .ok (.aload_n 0, 1) := by decide +kernel
theorem dL_law_1484 : decode cL_law 1484 = .ok (.iload_n 3, 1) := by decide +kernel
theorem dL_law_1485 : decode cL_law 1485 = .ok (.iconst 1, 1) := by decide +kernel
theorem dL_law_1486 : decode cL_law 1486 = .ok (.iadd, 1) := by decide +kernel
theorem dL_law_1487 : decode cL_law 1487 = .ok (.iaload, 1) := by decide +kernel
theorem dL_law_1488 : decode cL_law 1488 = .ok (.aload_n 0, 1) := by decide +kernel
theorem dL_law_1489 : decode cL_law 1489 = .ok (.iload_n 3, 1) := by decide +kernel
theorem dL_law_1490 : decode cL_law 1490 = .ok (.iconst 2, 1) := by decide +kernel
theorem dL_law_1491 : decode cL_law 1491 = .ok (.iadd, 1) := by decide +kernel
theorem dL_law_1492 : decode cL_law 1492 = .ok (.iaload, 1) := by decide +kernel
theorem dL_law_1493 : decode cL_law 1493 = .ok (.invokevirtual 165, 3) := by decide +kernel
theorem dL_law_1496 : decode cL_law 1496 = .ok (.aload_n 2, 1) := by decide +kernel
theorem dL_law_1497 : decode cL_law 1497 = .ok (.aload_n 0, 1) := by decide +kernel
theorem dL_law_1498 : decode cL_law 1498 = .ok (.iload_n 3, 1) := by decide +kernel
theorem dL_law_1499 : decode cL_law 1499 = .ok (.iconst 1, 1) := by decide +kernel
theorem dL_law_1500 : decode cL_law 1500 = .ok (.iadd, 1) := by decide +kernel
theorem dL_law_1501 : decode cL_law 1501 = .ok (.iaload, 1) := by decide +kernel
theorem dL_law_1502 : decode cL_law 1502 = .ok (.aload_n 0, 1) := by decide +kernel
theorem dL_law_1503 : decode cL_law 1503 = .ok (.iload_n 3, 1) := by decide +kernel
theorem dL_law_1504 : decode cL_law 1504 = .ok (.iconst 2, 1) := by decide +kernel
theorem dL_law_1505 : decode cL_law 1505 = .ok (.iadd, 1) := by decide +kernel
theorem dL_law_1506 : decode cL_law 1506 = .ok (.iaload, 1) := by decide +kernel
theorem dL_law_1507 : decode cL_law 1507 = .ok (.invokevirtual 168, 3) := by decide +kernel
theorem dL_law_1510 : decode cL_law 1510 = .ok (.if_icmp .eq 443, 3) := by decide +kernel
theorem dL_law_1513 : decode cL_law 1513 = .ok (.iconst 0, 1) := by decide +kernel
theorem dL_law_1514 : decode cL_law 1514 = .ok (.ireturn, 1) := by decide +kernel
theorem dL_law_1515 : decode cL_law 1515 = .ok (.aload_n 1, 1) := by decide +kernel
theorem dL_law_1516 : decode cL_law 1516 = .ok (.aload_n 0, 1) := by decide +kernel
theorem dL_law_1517 : decode cL_law 1517 = .ok (.iload_n 3, 1) := by decide +kernel
theorem dL_law_1518 : decode cL_law 1518 = .ok (.iconst 1, 1) := by decide +kernel
theorem dL_law_1519 : decode cL_law 1519 = .ok (.iadd, 1) := by decide +kernel
theorem dL_law_1520 : decode cL_law 1520 = .ok (.iaload, 1) := by decide +kernel
theorem dL_law_1521 : decode cL_law 1521 = .ok (.invokevirtual 169, 3) := by decide +kernel
theorem dL_law_1524 : decode cL_law 1524 = .ok (.aload_n 2, 1) := by decide +kernel
theorem dL_law_1525 : decode cL_law 1525 = .ok (.aload_n 0, 1) := by decide +kernel
theorem dL_law_1526 : decode cL_law 1526 = .ok (.iload_n 3, 1) := by decide +kernel
theorem dL_law_1527 : decode cL_law 1527 = .ok (.iconst 1, 1) := by decide +kernel
theorem dL_law_1528 : decode cL_law 1528 = .ok (.iadd, 1) := by decide +kernel
theorem dL_law_1529 : decode cL_law 1529 = .ok (.iaload, 1) := by decide +kernel
theorem dL_law_1530 : decode cL_law 1530 = .ok (.invokevirtual 172, 3) := by decide +kernel
theorem dL_law_1533 : decode cL_law 1533 = .ok (.if_icmp .eq 420, 3) := by decide +kernel
theorem dL_law_1536 : decode cL_law 1536 = .ok (.iconst 0, 1) := by decide +kernel
theorem dL_law_1537 : decode cL_law 1537 = .ok (.ireturn, 1) := by decide +kernel
theorem dL_law_1538 : decode cL_law 1538 = .ok (.aload_n 1, 1) := by decide +kernel
theorem dL_law_1539 : decode cL_law 1539 = .ok (.aload_n 0, 1) := by decide +kernel
theorem dL_law_1540 : decode cL_law 1540 = .ok (.iload_n 3, 1) := by decide +kernel
theorem dL_law_1541 : decode cL_law 1541 = .ok (.iconst 1, 1) := by decide +kernel
theorem dL_law_1542 : decode cL_law 1542 = .ok (.iadd, 1) := by decide +kernel
theorem dL_law_1543 : decode cL_law 1543 = .ok (.iaload, 1) := by decide +kernel
theorem dL_law_1544 : decode cL_law 1544 = .ok (.aload_n 0, 1) := by decide +kernel
theorem dL_law_1545 : decode cL_law 1545 = .ok (.iload_n 3, 1) := by decide +kernel
theorem dL_law_1546 : decode cL_law 1546 = .ok (.iconst 2, 1) := by decide +kernel
theorem dL_law_1547 : decode cL_law 1547 = .ok (.iadd, 1) := by decide +kernel
theorem dL_law_1548 : decode cL_law 1548 = .ok (.iaload, 1) := by decide +kernel
theorem dL_law_1549 : decode cL_law 1549 = .ok (.invokevirtual 173, 3) := by decide +kernel
theorem dL_law_1552 : decode cL_law 1552 = .ok (.aload_n 2, 1) := by decide +kernel
theorem dL_law_1553 : decode cL_law 1553 = .ok (.aload_n 0, 1) := by decide +kernel
theorem dL_law_1554 : decode cL_law 1554 = .ok (.iload_n 3, 1) := by decide +kernel
theorem dL_law_1555 : decode cL_law 1555 = .ok (.iconst 1, 1) := by decide +kernel
theorem dL_law_1556 : decode cL_law 1556 = .ok (.iadd, 1) := by decide +kernel
theorem dL_law_1557 : decode cL_law 1557 = .ok (.iaload, 1) := by decide +kernel
theorem dL_law_1558 : decode cL_law 1558 = .ok (.aload_n 0, 1) := by decide +kernel
theorem dL_law_1559 : decode cL_law 1559 = .ok (.iload_n 3, 1) := by decide +kernel
theorem dL_law_1560 : decode cL_law 1560 = .ok (.iconst 2, 1) := by decide +kernel
theorem dL_law_1561 : decode cL_law 1561 = .ok (.iadd, 1) := by decide +kernel
theorem dL_law_1562 : decode cL_law 1562 = .ok (.iaload, 1) := by decide +kernel
theorem dL_law_1563 : decode cL_law 1563 = .ok (.invokevirtual 176, 3) := by decide +kernel
theorem dL_law_1566 : decode cL_law 1566 = .ok (.if_icmp .eq 387, 3) := by decide +kernel
theorem dL_law_1569 : decode cL_law 1569 = .ok (.iconst 0, 1) := by decide +kernel
theorem dL_law_1570 : decode cL_law 1570 = .ok (.ireturn, 1) := by decide +kernel
theorem dL_law_1571 : decode cL_law 1571 = .ok (.aload_n 1, 1) := by decide +kernel
theorem dL_law_1572 : decode cL_law 1572 = .ok (.invokevirtual 177, 3) := by decide +kernel
theorem dL_law_1575 : decode cL_law 1575 = .ok (.aload_n 2, 1) := by decide +kernel
theorem dL_law_1576 : decode cL_law 1576 = .ok (.invokevirtual 180, 3) := by decide +kernel
theorem dL_law_1579 : decode cL_law 1579 = .ok (.if_icmp .eq 374, 3) := by decide +kernel
theorem dL_law_1582 : decode cL_law 1582 = .ok (.iconst 0, 1) := by decide +kernel
theorem dL_law_1583 : decode cL_law 1583 = .ok (.ireturn, 1) := by decide +kernel
theorem dL_law_1584 : decode cL_law 1584 = .ok (.aload_n 1, 1) := by decide +kernel
theorem dL_law_1585 : decode cL_law 1585 = .ok (.invokevirtual 181, 3) := by decide +kernel
theorem dL_law_1588 : decode cL_law 1588 = .ok (.aload_n 2, 1) := by decide +kernel
theorem dL_law_1589 : decode cL_law 1589 = .ok (.invokevirtual 184, 3) := by decide +kernel
theorem dL_law_1592 : decode cL_law 1592 = .ok (.if_icmp .eq 361, 3) := by decide +kernel
theorem dL_law_1595 : decode cL_law 1595 = .ok (.iconst 0, 1) := by decide +kernel
theorem dL_law_1596 : decode cL_law 1596 = .ok (.ireturn, 1) := by decide +kernel
theorem dL_law_1597 : decode cL_law 1597 = .ok (.aload_n 1, 1) := by decide +kernel
theorem dL_law_1598 : decode cL_law 1598 = .ok (.aload_n 0, 1) := by decide +kernel
theorem dL_law_1599 : decode cL_law 1599 = .ok (.iload_n 3, 1) := by decide +kernel
theorem dL_law_1600 : decode cL_law 1600 = .ok (.iconst 1, 1) := by decide +kernel
theorem dL_law_1601 : decode cL_law 1601 = .ok (.iadd, 1) := by decide +kernel
theorem dL_law_1602 : decode cL_law 1602 = .ok (.iaload, 1) := by decide +kernel
theorem dL_law_1603 : decode cL_law 1603 = .ok (.aload_n 0, 1) := by decide +kernel
theorem dL_law_1604 : decode cL_law 1604 = .ok (.iload_n 3, 1) := by decide +kernel
theorem dL_law_1605 : decode cL_law 1605 = .ok (.iconst 2, 1) := by decide +kernel
theorem dL_law_1606 : decode cL_law 1606 = .ok (.iadd, 1) := by decide +kernel
theorem dL_law_1607 : decode cL_law 1607 = .ok (.iaload, 1) := by decide +kernel
theorem dL_law_1608 : decode cL_law 1608 = .ok (.invokevirtual 185, 3) := by decide +kernel
theorem dL_law_1611 : decode cL_law 1611 = .ok (.aload_n 2, 1) := by decide +kernel
theorem dL_law_1612 : decode cL_law 1612 = .ok (.aload_n 0, 1) := by decide +kernel
theorem dL_law_1613 : decode cL_law 1613 = .ok (.iload_n 3, 1) := by decide +kernel
theorem dL_law_1614 : decode cL_law 1614 = .ok (.iconst 1, 1) := by decide +kernel
theorem dL_law_1615 : decode cL_law 1615 = .ok (.iadd, 1) := by decide +kernel
theorem dL_law_1616 : decode cL_law 1616 = .ok (.iaload, 1) := by decide +kernel
theorem dL_law_1617 : decode cL_law 1617 = .ok (.aload_n 0, 1) := by decide +kernel
theorem dL_law_1618 : decode cL_law 1618 = .ok (.iload_n 3, 1) := by decide +kernel
theorem dL_law_1619 : decode cL_law 1619 = .ok (.iconst 2, 1) := by decide +kernel
theorem dL_law_1620 : decode cL_law 1620 = .ok (.iadd, 1) := by decide +kernel
theorem dL_law_1621 : decode cL_law 1621 = .ok (.iaload, 1) := by decide +kernel
theorem dL_law_1622 : decode cL_law 1622 = .ok (.invokevirtual 188, 3) := by decide +kernel
theorem dL_law_1625 : decode cL_law 1625 = .ok (.if_icmp .eq 328, 3) := by decide +kernel
theorem dL_law_1628 : decode cL_law 1628 = .ok (.iconst 0, 1) := by decide +kernel
theorem dL_law_1629 : decode cL_law 1629 = .ok (.ireturn, 1) := by decide +kernel
theorem dL_law_1630 : decode cL_law 1630 = .ok (.aload_n 1, 1) := by decide +kernel
theorem dL_law_1631 : decode cL_law 1631 = .ok (.aload_n 0, 1) := by decide +kernel
theorem dL_law_1632 : decode cL_law 1632 = .ok (.iload_n 3, 1) := by decide +kernel
theorem dL_law_1633 : decode cL_law 1633 = .ok (.iconst 1, 1) := by decide +kernel
theorem dL_law_1634 : decode cL_law 1634 = .ok (.iadd, 1) := by decide +kernel
theorem dL_law_1635 : decode cL_law 1635 = .ok (.iaload, 1) := by decide +kernel
theorem dL_law_1636 : decode cL_law 1636 = .ok (.aload_n 0, 1) := by decide +kernel
theorem dL_law_1637 : decode cL_law 1637 = .ok (.iload_n 3, 1) := by decide +kernel
theorem dL_law_1638 : decode cL_law 1638 = .ok (.iconst 2, 1) := by decide +kernel
theorem dL_law_1639 : decode cL_law 1639 = .ok (.iadd, 1) := by decide +kernel
theorem dL_law_1640 : decode cL_law 1640 = .ok (.iaload, 1) := by decide +kernel
theorem dL_law_1641 : decode cL_law 1641 = .ok (.invokevirtual 189, 3) := by decide +kernel
theorem dL_law_1644 : decode cL_law 1644 = .ok (.aload_n 2, 1) := by decide +kernel
theorem dL_law_1645 : decode cL_law 1645 = .ok (.aload_n 0, 1) := by decide +kernel
theorem dL_law_1646 : decode cL_law 1646 = .ok (.iload_n 3, 1) := by decide +kernel
theorem dL_law_1647 : decode cL_law 1647 = .ok (.iconst 1, 1) := by decide +kernel
theorem dL_law_1648 : decode cL_law 1648 = .ok (.iadd, 1) := by decide +kernel
theorem dL_law_1649 : decode cL_law 1649 = .ok (.iaload, 1) := by decide +kernel
theorem dL_law_1650 : decode cL_law 1650 = .ok (.aload_n 0, 1) := by decide +kernel
theorem dL_law_1651 : decode cL_law 1651 = .ok (.iload_n 3, 1) := by decide +kernel
theorem dL_law_1652 : decode cL_law 1652 = .ok (.iconst 2, 1) := by decide +kernel
theorem dL_law_1653 : decode cL_law 1653 = .ok (.iadd, 1) := by decide +kernel
theorem dL_law_1654 : decode cL_law 1654 = .ok (.iaload, 1) := by decide +kernel
theorem dL_law_1655 : decode cL_law 1655 = .ok (.invokevirtual 192, 3) := by decide +kernel
theorem dL_law_1658 : decode cL_law 1658 = .ok (.if_icmp .eq 295, 3) := by decide +kernel
theorem dL_law_1661 : decode cL_law 1661 = .ok (.iconst 0, 1) := by decide +kernel
theorem dL_law_1662 : decode cL_law 1662 = .ok (.ireturn, 1) := by decide +kernel
theorem dL_law_1663 : decode cL_law 1663 = .ok (.aload_n 1, 1) := by decide +kernel
theorem dL_law_1664 : decode cL_law 1664 = .ok (.aload_n 0, 1) := by decide +kernel
theorem dL_law_1665 : decode cL_law 1665 = .ok (.iload_n 3, 1) := by decide +kernel
theorem dL_law_1666 : decode cL_law 1666 = .ok (.iconst 1, 1) := by decide +kernel
theorem dL_law_1667 : decode cL_law 1667 = .ok (.iadd, 1) := by decide +kernel
theorem dL_law_1668 : decode cL_law 1668 = .ok (.iaload, 1) := by decide +kernel
theorem dL_law_1669 : decode cL_law 1669 = .ok (.aload_n 0, 1) := by decide +kernel
theorem dL_law_1670 : decode cL_law 1670 = .ok (.iload_n 3, 1) := by decide +kernel
theorem dL_law_1671 : decode cL_law 1671 = .ok (.iconst 2, 1) := by decide +kernel
theorem dL_law_1672 : decode cL_law 1672 = .ok (.iadd, 1) := by decide +kernel
theorem dL_law_1673 : decode cL_law 1673 = .ok (.iaload, 1) := by decide +kernel
theorem dL_law_1674 : decode cL_law 1674 = .ok (.aload_n 0, 1) := by decide +kernel
theorem dL_law_1675 : decode cL_law 1675 = .ok (.iload_n 3, 1) := by decide +kernel
theorem dL_law_1676 : decode cL_law 1676 = .ok (.iconst 3, 1) := by decide +kernel
theorem dL_law_1677 : decode cL_law 1677 = .ok (.iadd, 1) := by decide +kernel
theorem dL_law_1678 : decode cL_law 1678 = .ok (.iaload, 1) := by decide +kernel
theorem dL_law_1679 : decode cL_law 1679 = .ok (.invokevirtual 193, 3) := by decide +kernel
theorem dL_law_1682 : decode cL_law 1682 = .ok (.aload_n 2, 1) := by decide +kernel
theorem dL_law_1683 : decode cL_law 1683 = .ok (.aload_n 0, 1) := by decide +kernel
theorem dL_law_1684 : decode cL_law 1684 = .ok (.iload_n 3, 1) := by decide +kernel
theorem dL_law_1685 : decode cL_law 1685 = .ok (.iconst 1, 1) := by decide +kernel
theorem dL_law_1686 : decode cL_law 1686 = .ok (.iadd, 1) := by decide +kernel
theorem dL_law_1687 : decode cL_law 1687 = .ok (.iaload, 1) := by decide +kernel
theorem dL_law_1688 : decode cL_law 1688 = .ok (.aload_n 0, 1) := by decide +kernel
theorem dL_law_1689 : decode cL_law 1689 = .ok (.iload_n 3, 1) := by decide +kernel
theorem dL_law_1690 : decode cL_law 1690 = .ok (.iconst 2, 1) := by decide +kernel
theorem dL_law_1691 : decode cL_law 1691 = .ok (.iadd, 1) := by decide +kernel
theorem dL_law_1692 : decode cL_law 1692 = .ok (.iaload, 1) := by decide +kernel
theorem dL_law_1693 : decode cL_law 1693 = .ok (.aload_n 0, 1) := by decide +kernel
theorem dL_law_1694 : decode cL_law 1694 = .ok (.iload_n 3, 1) := by decide +kernel
theorem dL_law_1695 : decode cL_law 1695 = .ok (.iconst 3, 1) := by decide +kernel
theorem dL_law_1696 : decode cL_law 1696 = .ok (.iadd, 1) := by decide +kernel
theorem dL_law_1697 : decode cL_law 1697 = .ok (.iaload, 1) := by decide +kernel
theorem dL_law_1698 : decode cL_law 1698 = .ok (.invokevirtual 196, 3) := by decide +kernel
theorem dL_law_1701 : decode cL_law 1701 = .ok (.if_icmp .eq 252, 3) := by decide +kernel
theorem dL_law_1704 : decode cL_law 1704 = .ok (.iconst 0, 1) := by decide +kernel
theorem dL_law_1705 : decode cL_law 1705 = .ok (.ireturn, 1) := by decide +kernel
theorem dL_law_1706 : decode cL_law 1706 = .ok (.aload_n 1, 1) := by decide +kernel
theorem dL_law_1707 : decode cL_law 1707 = .ok (.aload_n 0, 1) := by decide +kernel
theorem dL_law_1708 : decode cL_law 1708 = .ok (.iload_n 3, 1) := by decide +kernel
theorem dL_law_1709 : decode cL_law 1709 = .ok (.iconst 1, 1) := by decide +kernel
theorem dL_law_1710 : decode cL_law 1710 = .ok (.iadd, 1) := by decide +kernel
theorem dL_law_1711 : decode cL_law 1711 = .ok (.iaload, 1) := by decide +kernel
theorem dL_law_1712 : decode cL_law 1712 = .ok (.aload_n 0, 1) := by decide +kernel
theorem dL_law_1713 : decode cL_law 1713 = .ok (.iload_n 3, 1) := by decide +kernel
theorem dL_law_1714 : decode cL_law 1714 = .ok (.iconst 2, 1) := by decide +kernel
theorem dL_law_1715 : decode cL_law 1715 = .ok (.iadd, 1) := by decide +kernel
theorem dL_law_1716 : decode cL_law 1716 = .ok (.iaload, 1) := by decide +kernel
theorem dL_law_1717 : decode cL_law 1717 = .ok (.aload_n 0, 1) := by decide +kernel
theorem dL_law_1718 : decode cL_law 1718 = .ok (.iload_n 3, 1) := by decide +kernel
theorem dL_law_1719 : decode cL_law 1719 = .ok (.iconst 3, 1) := by decide +kernel
theorem dL_law_1720 : decode cL_law 1720 = .ok (.iadd, 1) := by decide +kernel
theorem dL_law_1721 : decode cL_law 1721 = .ok (.iaload, 1) := by decide +kernel
theorem dL_law_1722 : decode cL_law 1722 = .ok (.invokevirtual 197, 3) := by decide +kernel
theorem dL_law_1725 : decode cL_law 1725 = .ok (.aload_n 2, 1) := by decide +kernel
theorem dL_law_1726 : decode cL_law 1726 = .ok (.aload_n 0, 1) := by decide +kernel
theorem dL_law_1727 : decode cL_law 1727 = .ok (.iload_n 3, 1) := by decide +kernel
theorem dL_law_1728 : decode cL_law 1728 = .ok (.iconst 1, 1) := by decide +kernel
theorem dL_law_1729 : decode cL_law 1729 = .ok (.iadd, 1) := by decide +kernel
theorem dL_law_1730 : decode cL_law 1730 = .ok (.iaload, 1) := by decide +kernel
theorem dL_law_1731 : decode cL_law 1731 = .ok (.aload_n 0, 1) := by decide +kernel
theorem dL_law_1732 : decode cL_law 1732 = .ok (.iload_n 3, 1) := by decide +kernel
theorem dL_law_1733 : decode cL_law 1733 = .ok (.iconst 2, 1) := by decide +kernel
theorem dL_law_1734 : decode cL_law 1734 = .ok (.iadd, 1) := by decide +kernel
theorem dL_law_1735 : decode cL_law 1735 = .ok (.iaload, 1) := by decide +kernel
theorem dL_law_1736 : decode cL_law 1736 = .ok (.aload_n 0, 1) := by decide +kernel
theorem dL_law_1737 : decode cL_law 1737 = .ok (.iload_n 3, 1) := by decide +kernel
theorem dL_law_1738 : decode cL_law 1738 = .ok (.iconst 3, 1) := by decide +kernel
theorem dL_law_1739 : decode cL_law 1739 = .ok (.iadd, 1) := by decide +kernel
theorem dL_law_1740 : decode cL_law 1740 = .ok (.iaload, 1) := by decide +kernel
theorem dL_law_1741 : decode cL_law 1741 = .ok (.invokevirtual 200, 3) := by decide +kernel
theorem dL_law_1744 : decode cL_law 1744 = .ok (.if_icmp .eq 209, 3) := by decide +kernel
theorem dL_law_1747 : decode cL_law 1747 = .ok (.iconst 0, 1) := by decide +kernel
theorem dL_law_1748 : decode cL_law 1748 = .ok (.ireturn, 1) := by decide +kernel
theorem dL_law_1749 : decode cL_law 1749 = .ok (.aload_n 1, 1) := by decide +kernel
theorem dL_law_1750 : decode cL_law 1750 = .ok (.aload_n 0, 1) := by decide +kernel
theorem dL_law_1751 : decode cL_law 1751 = .ok (.iload_n 3, 1) := by decide +kernel
theorem dL_law_1752 : decode cL_law 1752 = .ok (.iconst 1, 1) := by decide +kernel
theorem dL_law_1753 : decode cL_law 1753 = .ok (.iadd, 1) := by decide +kernel
theorem dL_law_1754 : decode cL_law 1754 = .ok (.iaload, 1) := by decide +kernel
theorem dL_law_1755 : decode cL_law 1755 = .ok (.aload_n 0, 1) := by decide +kernel
theorem dL_law_1756 : decode cL_law 1756 = .ok (.iload_n 3, 1) := by decide +kernel
theorem dL_law_1757 : decode cL_law 1757 = .ok (.iconst 2, 1) := by decide +kernel
theorem dL_law_1758 : decode cL_law 1758 = .ok (.iadd, 1) := by decide +kernel
theorem dL_law_1759 : decode cL_law 1759 = .ok (.iaload, 1) := by decide +kernel
theorem dL_law_1760 : decode cL_law 1760 = .ok (.aload_n 0, 1) := by decide +kernel
theorem dL_law_1761 : decode cL_law 1761 = .ok (.iload_n 3, 1) := by decide +kernel
theorem dL_law_1762 : decode cL_law 1762 = .ok (.iconst 3, 1) := by decide +kernel
theorem dL_law_1763 : decode cL_law 1763 = .ok (.iadd, 1) := by decide +kernel
theorem dL_law_1764 : decode cL_law 1764 = .ok (.iaload, 1) := by decide +kernel
theorem dL_law_1765 : decode cL_law 1765 = .ok (.aload_n 0, 1) := by decide +kernel
theorem dL_law_1766 : decode cL_law 1766 = .ok (.iload_n 3, 1) := by decide +kernel
theorem dL_law_1767 : decode cL_law 1767 = .ok (.iconst 4, 1) := by decide +kernel
theorem dL_law_1768 : decode cL_law 1768 = .ok (.iadd, 1) := by decide +kernel
theorem dL_law_1769 : decode cL_law 1769 = .ok (.iaload, 1) := by decide +kernel
theorem dL_law_1770 : decode cL_law 1770 = .ok (.aload_n 0, 1) := by decide +kernel
theorem dL_law_1771 : decode cL_law 1771 = .ok (.iload_n 3, 1) := by decide +kernel
theorem dL_law_1772 : decode cL_law 1772 = .ok (.iconst 5, 1) := by decide +kernel
theorem dL_law_1773 : decode cL_law 1773 = .ok (.iadd, 1) := by decide +kernel
theorem dL_law_1774 : decode cL_law 1774 = .ok (.iaload, 1) := by decide +kernel
theorem dL_law_1775 : decode cL_law 1775 = .ok (.invokevirtual 201, 3) := by decide +kernel
theorem dL_law_1778 : decode cL_law 1778 = .ok (.aload_n 2, 1) := by decide +kernel
theorem dL_law_1779 : decode cL_law 1779 = .ok (.aload_n 0, 1) := by decide +kernel
theorem dL_law_1780 : decode cL_law 1780 = .ok (.iload_n 3, 1) := by decide +kernel
theorem dL_law_1781 : decode cL_law 1781 = .ok (.iconst 1, 1) := by decide +kernel
theorem dL_law_1782 : decode cL_law 1782 = .ok (.iadd, 1) := by decide +kernel
theorem dL_law_1783 : decode cL_law 1783 = .ok (.iaload, 1) := by decide +kernel
theorem dL_law_1784 : decode cL_law 1784 = .ok (.aload_n 0, 1) := by decide +kernel
theorem dL_law_1785 : decode cL_law 1785 = .ok (.iload_n 3, 1) := by decide +kernel
theorem dL_law_1786 : decode cL_law 1786 = .ok (.iconst 2, 1) := by decide +kernel
theorem dL_law_1787 : decode cL_law 1787 = .ok (.iadd, 1) := by decide +kernel
theorem dL_law_1788 : decode cL_law 1788 = .ok (.iaload, 1) := by decide +kernel
theorem dL_law_1789 : decode cL_law 1789 = .ok (.aload_n 0, 1) := by decide +kernel
theorem dL_law_1790 : decode cL_law 1790 = .ok (.iload_n 3, 1) := by decide +kernel
theorem dL_law_1791 : decode cL_law 1791 = .ok (.iconst 3, 1) := by decide +kernel
theorem dL_law_1792 : decode cL_law 1792 = .ok (.iadd, 1) := by decide +kernel
theorem dL_law_1793 : decode cL_law 1793 = .ok (.iaload, 1) := by decide +kernel
theorem dL_law_1794 : decode cL_law 1794 = .ok (.aload_n 0, 1) := by decide +kernel
theorem dL_law_1795 : decode cL_law 1795 = .ok (.iload_n 3, 1) := by decide +kernel
theorem dL_law_1796 : decode cL_law 1796 = .ok (.iconst 4, 1) := by decide +kernel
theorem dL_law_1797 : decode cL_law 1797 = .ok (.iadd, 1) := by decide +kernel
theorem dL_law_1798 : decode cL_law 1798 = .ok (.iaload, 1) := by decide +kernel
theorem dL_law_1799 : decode cL_law 1799 = .ok (.aload_n 0, 1) := by decide +kernel
theorem dL_law_1800 : decode cL_law 1800 = .ok (.iload_n 3, 1) := by decide +kernel
theorem dL_law_1801 : decode cL_law 1801 = .ok (.iconst 5, 1) := by decide +kernel
theorem dL_law_1802 : decode cL_law 1802 = .ok (.iadd, 1) := by decide +kernel
theorem dL_law_1803 : decode cL_law 1803 = .ok (.iaload, 1) := by decide +kernel
theorem dL_law_1804 : decode cL_law 1804 = .ok (.invokevirtual 205, 3) := by decide +kernel
theorem dL_law_1807 : decode cL_law 1807 = .ok (.if_icmp .eq 146, 3) := by decide +kernel
theorem dL_law_1810 : decode cL_law 1810 = .ok (.iconst 0, 1) := by decide +kernel
theorem dL_law_1811 : decode cL_law 1811 = .ok (.ireturn, 1) := by decide +kernel
theorem dL_law_1812 : decode cL_law 1812 = .ok (.aload_n 1, 1) := by decide +kernel
theorem dL_law_1813 : decode cL_law 1813 = .ok (.aload_n 0, 1) := by decide +kernel
theorem dL_law_1814 : decode cL_law 1814 = .ok (.iload_n 3, 1) := by decide +kernel
theorem dL_law_1815 : decode cL_law 1815 = .ok (.iconst 1, 1) := by decide +kernel
theorem dL_law_1816 : decode cL_law 1816 = .ok (.iadd, 1) := by decide +kernel
theorem dL_law_1817 : decode cL_law 1817 = .ok (.iaload, 1) := by decide +kernel
theorem dL_law_1818 : decode cL_law 1818 = .ok (.invokevirtual 206, 3) := by decide +kernel
theorem dL_law_1821 : decode cL_law 1821 = .ok (.aload_n 2, 1) := by decide +kernel
theorem dL_law_1822 : decode cL_law 1822 = .ok (.aload_n 0, 1) := by decide +kernel
theorem dL_law_1823 : decode cL_law 1823 = .ok (.iload_n 3, 1) := by decide +kernel
theorem dL_law_1824 : decode cL_law 1824 = .ok (.iconst 1, 1) := by decide +kernel
theorem dL_law_1825 : decode cL_law 1825 = .ok (.iadd, 1) := by decide +kernel
theorem dL_law_1826 : decode cL_law 1826 = .ok (.iaload, 1) := by decide +kernel
theorem dL_law_1827 : decode cL_law 1827 = .ok (.invokevirtual 209, 3) := by decide +kernel
theorem dL_law_1830 : decode cL_law 1830 = .ok (.if_icmp .eq 123, 3) := by decide +kernel
theorem dL_law_1833 : decode cL_law 1833 = .ok (.iconst 0, 1) := by decide +kernel
theorem dL_law_1834 : decode cL_law 1834 = .ok (.ireturn, 1) := by decide +kernel
theorem dL_law_1835 : decode cL_law 1835 = .ok (.aload_n 1, 1) := by decide +kernel
theorem dL_law_1836 : decode cL_law 1836 = .ok (.aload_n 0, 1) := by decide +kernel
theorem dL_law_1837 : decode cL_law 1837 = .ok (.iload_n 3, 1) := by decide +kernel
theorem dL_law_1838 : decode cL_law 1838 = .ok (.iconst 1, 1) := by decide +kernel
theorem dL_law_1839 : decode cL_law 1839 = .ok (.iadd, 1) := by decide +kernel
theorem dL_law_1840 : decode cL_law 1840 = .ok (.iaload, 1) := by decide +kernel
theorem dL_law_1841 : decode cL_law 1841 = .ok (.aload_n 0, 1) := by decide +kernel
theorem dL_law_1842 : decode cL_law 1842 = .ok (.iload_n 3, 1) := by decide +kernel
theorem dL_law_1843 : decode cL_law 1843 = .ok (.iconst 2, 1) := by decide +kernel
theorem dL_law_1844 : decode cL_law 1844 = .ok (.iadd, 1) := by decide +kernel
theorem dL_law_1845 : decode cL_law 1845 = .ok (.iaload, 1) := by decide +kernel
theorem dL_law_1846 : decode cL_law 1846 = .ok (.invokevirtual 210, 3) := by decide +kernel
theorem dL_law_1849 : decode cL_law 1849 = .ok (.aload_n 2, 1) := by decide +kernel
theorem dL_law_1850 : decode cL_law 1850 = .ok (.aload_n 0, 1) := by decide +kernel
theorem dL_law_1851 : decode cL_law 1851 = .ok (.iload_n 3, 1) := by decide +kernel
theorem dL_law_1852 : decode cL_law 1852 = .ok (.iconst 1, 1) := by decide +kernel
theorem dL_law_1853 : decode cL_law 1853 = .ok (.iadd, 1) := by decide +kernel
theorem dL_law_1854 : decode cL_law 1854 = .ok (.iaload, 1) := by decide +kernel
theorem dL_law_1855 : decode cL_law 1855 = .ok (.aload_n 0, 1) := by decide +kernel
theorem dL_law_1856 : decode cL_law 1856 = .ok (.iload_n 3, 1) := by decide +kernel
theorem dL_law_1857 : decode cL_law 1857 = .ok (.iconst 2, 1) := by decide +kernel
theorem dL_law_1858 : decode cL_law 1858 = .ok (.iadd, 1) := by decide +kernel
theorem dL_law_1859 : decode cL_law 1859 = .ok (.iaload, 1) := by decide +kernel
theorem dL_law_1860 : decode cL_law 1860 = .ok (.invokevirtual 213, 3) := by decide +kernel
theorem dL_law_1863 : decode cL_law 1863 = .ok (.if_icmp .eq 90, 3) := by decide +kernel
theorem dL_law_1866 : decode cL_law 1866 = .ok (.iconst 0, 1) := by decide +kernel
theorem dL_law_1867 : decode cL_law 1867 = .ok (.ireturn, 1) := by decide +kernel
theorem dL_law_1868 : decode cL_law 1868 = .ok (.aload_n 1, 1) := by decide +kernel
theorem dL_law_1869 : decode cL_law 1869 = .ok (.invokevirtual 214, 3) := by decide +kernel
theorem dL_law_1872 : decode cL_law 1872 = .ok (.aload_n 2, 1) := by decide +kernel
theorem dL_law_1873 : decode cL_law 1873 = .ok (.invokevirtual 217, 3) := by decide +kernel
theorem dL_law_1876 : decode cL_law 1876 = .ok (.if_icmp .eq 77, 3) := by decide +kernel
theorem dL_law_1879 : decode cL_law 1879 = .ok (.iconst 0, 1) := by decide +kernel
theorem dL_law_1880 : decode cL_law 1880 = .ok (.ireturn, 1) := by decide +kernel
theorem dL_law_1881 : decode cL_law 1881 = .ok (.aload_n 1, 1) := by decide +kernel
theorem dL_law_1882 : decode cL_law 1882 = .ok (.invokevirtual 218, 3) := by decide +kernel
theorem dL_law_1885 : decode cL_law 1885 = .ok (.aload_n 2, 1) := by decide +kernel
theorem dL_law_1886 : decode cL_law 1886 = .ok (.invokevirtual 221, 3) := by decide +kernel
theorem dL_law_1889 : decode cL_law 1889 = .ok (.if_icmp .eq 64, 3) := by decide +kernel
theorem dL_law_1892 : decode cL_law 1892 = .ok (.iconst 0, 1) := by decide +kernel
theorem dL_law_1893 : decode cL_law 1893 = .ok (.ireturn, 1) := by decide +kernel
theorem dL_law_1894 : decode cL_law 1894 = .ok (.aload_n 1, 1) := by decide +kernel
theorem dL_law_1895 : decode cL_law 1895 = .ok (.invokevirtual 222, 3) := by decide +kernel
theorem dL_law_1898 : decode cL_law 1898 = .ok (.aload_n 2, 1) := by decide +kernel
theorem dL_law_1899 : decode cL_law 1899 = .ok (.invokevirtual 225, 3) := by decide +kernel
theorem dL_law_1902 : decode cL_law 1902 = .ok (.if_icmp .eq 51, 3) := by decide +kernel
theorem dL_law_1905 : decode cL_law 1905 = .ok (.iconst 0, 1) := by decide +kernel
theorem dL_law_1906 : decode cL_law 1906 = .ok (.ireturn, 1) := by decide +kernel
theorem dL_law_1907 : decode cL_law 1907 = .ok (.aload_n 1, 1) := by decide +kernel
theorem dL_law_1908 : decode cL_law 1908 = .ok (.aload_n 0, 1) := by decide +kernel
theorem dL_law_1909 : decode cL_law 1909 = .ok (.iload_n 3, 1) := by decide +kernel
theorem dL_law_1910 : decode cL_law 1910 = .ok (.iconst 1, 1) := by decide +kernel
theorem dL_law_1911 : decode cL_law 1911 = .ok (.iadd, 1) := by decide +kernel
theorem dL_law_1912 : decode cL_law 1912 = .ok (.iaload, 1) := by decide +kernel
theorem dL_law_1913 : decode cL_law 1913 = .ok (.invokevirtual 226, 3) := by decide +kernel
theorem dL_law_1916 : decode cL_law 1916 = .ok (.aload_n 2, 1) := by decide +kernel
theorem dL_law_1917 : decode cL_law 1917 = .ok (.aload_n 0, 1) := by decide +kernel
theorem dL_law_1918 : decode cL_law 1918 = .ok (.iload_n 3, 1) := by decide +kernel
theorem dL_law_1919 : decode cL_law 1919 = .ok (.iconst 1, 1) := by decide +kernel
theorem dL_law_1920 : decode cL_law 1920 = .ok (.iadd, 1) := by decide +kernel
theorem dL_law_1921 : decode cL_law 1921 = .ok (.iaload, 1) := by decide +kernel
theorem dL_law_1922 : decode cL_law 1922 = .ok (.invokevirtual 229, 3) := by decide +kernel
theorem dL_law_1925 : decode cL_law 1925 = .ok (.if_icmp .eq 28, 3) := by decide +kernel
theorem dL_law_1928 : decode cL_law 1928 = .ok (.iconst 0, 1) := by decide +kernel
theorem dL_law_1929 : decode cL_law 1929 = .ok (.ireturn, 1) := by decide +kernel
theorem dL_law_1930 : decode cL_law 1930 = .ok (.aload_n 1, 1) := by decide +kernel
theorem dL_law_1931 : decode cL_law 1931 = .ok (.aload_n 0, 1) := by decide +kernel
theorem dL_law_1932 : decode cL_law 1932 = .ok (.iload_n 3, 1) := by decide +kernel
theorem dL_law_1933 : decode cL_law 1933 = .ok (.iconst 1, 1) := by decide +kernel
theorem dL_law_1934 : decode cL_law 1934 = .ok (.iadd, 1) := by decide +kernel
theorem dL_law_1935 : decode cL_law 1935 = .ok (.iaload, 1) := by decide +kernel
theorem dL_law_1936 : decode cL_law 1936 = .ok (.invokevirtual 230, 3) := by decide +kernel
theorem dL_law_1939 : decode cL_law 1939 = .ok (.aload_n 2, 1) := by decide +kernel
theorem dL_law_1940 : decode cL_law 1940 = .ok (.aload_n 0, 1) := by decide +kernel
theorem dL_law_1941 : decode cL_law 1941 = .ok (.iload_n 3, 1) := by decide +kernel
theorem dL_law_1942 : decode cL_law 1942 = .ok (.iconst 1, 1) := by decide +kernel
theorem dL_law_1943 : decode cL_law 1943 = .ok (.iadd, 1) := by decide +kernel
theorem dL_law_1944 : decode cL_law 1944 = .ok (.iaload, 1) := by decide +kernel
theorem dL_law_1945 : decode cL_law 1945 = .ok (.invokevirtual 233, 3) := by decide +kernel
theorem dL_law_1948 : decode cL_law 1948 = .ok (.if_icmp .eq 5, 3) := by decide +kernel
theorem dL_law_1951 : decode cL_law 1951 = .ok (.iconst 0, 1) := by decide +kernel
theorem dL_law_1952 : decode cL_law 1952 = .ok (.ireturn, 1) := by decide +kernel
theorem dL_law_1953 : decode cL_law 1953 = .ok (.iinc 3 6, 3) := by decide +kernel
theorem dL_law_1956 : decode cL_law 1956 = .ok (.goto (-1938), 3) := by decide +kernel
theorem dL_law_1959 : decode cL_law 1959 = .ok (.iconst 1, 1) := by decide +kernel
theorem dL_law_1960 : decode cL_law 1960 = .ok (.ireturn, 1) := by decide +kernel
end
