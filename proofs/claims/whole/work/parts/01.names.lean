-- ===== PART A: goes FIRST, ahead of the names: the tables' words, and 'selects' of the private methods out of them =====
/-- a private method of a class that the tables say can be made, by its rows of tables_1 -/
def lw_okq (q : MethodName × Nat) : Prop := (q.1.cls ≠ "java/lang/invoke/MethodHandle" ∧ q.1.cls ≠ "java/lang/invoke/VarHandle") ∧ Cond.instantiable q.1.cls q.2 ∈ tables_1 ∧ Cond.privateMethod q.1 ∈ tables_1 ∧ Cond.instanceMethod q.1 ∈ tables_1
theorem lw_p0 : lw_okq (⟨"HouseInRoom", "finding", "(I)I"⟩, 8) := ⟨⟨by decide +kernel, by decide +kernel⟩, List.mem_of_getElem? (i := 18) (by decide +kernel), List.mem_of_getElem? (i := 240) (by decide +kernel), List.mem_of_getElem? (i := 241) (by decide +kernel)⟩
theorem lw_p1 : lw_okq (⟨"HouseInRoom", "isThing", "(I)Z"⟩, 8) := ⟨⟨by decide +kernel, by decide +kernel⟩, List.mem_of_getElem? (i := 18) (by decide +kernel), List.mem_of_getElem? (i := 277) (by decide +kernel), List.mem_of_getElem? (i := 278) (by decide +kernel)⟩
theorem lw_p2 : lw_okq (⟨"HouseInRoom", "isOne", "(I)Z"⟩, 8) := ⟨⟨by decide +kernel, by decide +kernel⟩, List.mem_of_getElem? (i := 18) (by decide +kernel), List.mem_of_getElem? (i := 318) (by decide +kernel), List.mem_of_getElem? (i := 319) (by decide +kernel)⟩
theorem lw_p3 : lw_okq (⟨"HouseInRoom", "goTo", "(II)I"⟩, 8) := ⟨⟨by decide +kernel, by decide +kernel⟩, List.mem_of_getElem? (i := 18) (by decide +kernel), List.mem_of_getElem? (i := 367) (by decide +kernel), List.mem_of_getElem? (i := 368) (by decide +kernel)⟩
theorem lw_p4 : lw_okq (⟨"HouseInRoom$World", "standingIn", "(I)I"⟩, 18) := ⟨⟨by decide +kernel, by decide +kernel⟩, List.mem_of_getElem? (i := 26) (by decide +kernel), List.mem_of_getElem? (i := 394) (by decide +kernel), List.mem_of_getElem? (i := 395) (by decide +kernel)⟩
theorem lw_p5 : lw_okq (⟨"HouseInRoom$World", "enter", "(IIIII)V"⟩, 18) := ⟨⟨by decide +kernel, by decide +kernel⟩, List.mem_of_getElem? (i := 26) (by decide +kernel), List.mem_of_getElem? (i := 398) (by decide +kernel), List.mem_of_getElem? (i := 399) (by decide +kernel)⟩
theorem lw_p6 : lw_okq (⟨"HouseInRoom", "foundOrNone", "(I)I"⟩, 8) := ⟨⟨by decide +kernel, by decide +kernel⟩, List.mem_of_getElem? (i := 18) (by decide +kernel), List.mem_of_getElem? (i := 457) (by decide +kernel), List.mem_of_getElem? (i := 458) (by decide +kernel)⟩
theorem lw_p7 : lw_okq (⟨"HouseInRoom", "isTask", "(III)Z"⟩, 8) := ⟨⟨by decide +kernel, by decide +kernel⟩, List.mem_of_getElem? (i := 18) (by decide +kernel), List.mem_of_getElem? (i := 465) (by decide +kernel), List.mem_of_getElem? (i := 466) (by decide +kernel)⟩
theorem lw_p8 : lw_okq (⟨"HouseInRoom$Search", "explore", "(LHouseInRoom$World;IIIZ)V"⟩, 4) := ⟨⟨by decide +kernel, by decide +kernel⟩, List.mem_of_getElem? (i := 107) (by decide +kernel), List.mem_of_getElem? (i := 473) (by decide +kernel), List.mem_of_getElem? (i := 474) (by decide +kernel)⟩
theorem lw_p9 : lw_okq (⟨"HouseInRoom$Search", "settle", "(I)Z"⟩, 4) := ⟨⟨by decide +kernel, by decide +kernel⟩, List.mem_of_getElem? (i := 107) (by decide +kernel), List.mem_of_getElem? (i := 487) (by decide +kernel), List.mem_of_getElem? (i := 488) (by decide +kernel)⟩
theorem lw_p10 : lw_okq (⟨"HouseInRoom$Search", "spread", "(LHouseInRoom$World;IJZ)V"⟩, 4) := ⟨⟨by decide +kernel, by decide +kernel⟩, List.mem_of_getElem? (i := 107) (by decide +kernel), List.mem_of_getElem? (i := 491) (by decide +kernel), List.mem_of_getElem? (i := 492) (by decide +kernel)⟩
theorem lw_p11 : lw_okq (⟨"HouseInRoom", "isRoomAndThing", "(I)Z"⟩, 8) := ⟨⟨by decide +kernel, by decide +kernel⟩, List.mem_of_getElem? (i := 18) (by decide +kernel), List.mem_of_getElem? (i := 553) (by decide +kernel), List.mem_of_getElem? (i := 554) (by decide +kernel)⟩
theorem lw_p12 : lw_okq (⟨"HouseInRoom", "stepsWithDoor", "(IIIII)I"⟩, 8) := ⟨⟨by decide +kernel, by decide +kernel⟩, List.mem_of_getElem? (i := 18) (by decide +kernel), List.mem_of_getElem? (i := 561) (by decide +kernel), List.mem_of_getElem? (i := 562) (by decide +kernel)⟩
theorem lw_p13 : lw_okq (⟨"HouseInRoom$World", "actByDraws", "(I)V"⟩, 18) := ⟨⟨by decide +kernel, by decide +kernel⟩, List.mem_of_getElem? (i := 26) (by decide +kernel), List.mem_of_getElem? (i := 594) (by decide +kernel), List.mem_of_getElem? (i := 595) (by decide +kernel)⟩
theorem lw_p14 : lw_okq (⟨"HouseInRoom$World", "draw", "()I"⟩, 18) := ⟨⟨by decide +kernel, by decide +kernel⟩, List.mem_of_getElem? (i := 26) (by decide +kernel), List.mem_of_getElem? (i := 598) (by decide +kernel), List.mem_of_getElem? (i := 599) (by decide +kernel)⟩
theorem lw_p15 : lw_okq (⟨"HouseInRoom$Tape", "endOf", "(I)I"⟩, 6) := ⟨⟨by decide +kernel, by decide +kernel⟩, List.mem_of_getElem? (i := 133) (by decide +kernel), List.mem_of_getElem? (i := 641) (by decide +kernel), List.mem_of_getElem? (i := 642) (by decide +kernel)⟩
def lw_privs_1 : List (MethodName × Nat) := [(⟨"HouseInRoom", "finding", "(I)I"⟩, 8), (⟨"HouseInRoom", "isThing", "(I)Z"⟩, 8), (⟨"HouseInRoom", "isOne", "(I)Z"⟩, 8), (⟨"HouseInRoom", "goTo", "(II)I"⟩, 8), (⟨"HouseInRoom$World", "standingIn", "(I)I"⟩, 18), (⟨"HouseInRoom$World", "enter", "(IIIII)V"⟩, 18), (⟨"HouseInRoom", "foundOrNone", "(I)I"⟩, 8), (⟨"HouseInRoom", "isTask", "(III)Z"⟩, 8), (⟨"HouseInRoom$Search", "explore", "(LHouseInRoom$World;IIIZ)V"⟩, 4), (⟨"HouseInRoom$Search", "settle", "(I)Z"⟩, 4), (⟨"HouseInRoom$Search", "spread", "(LHouseInRoom$World;IJZ)V"⟩, 4), (⟨"HouseInRoom", "isRoomAndThing", "(I)Z"⟩, 8), (⟨"HouseInRoom", "stepsWithDoor", "(IIIII)I"⟩, 8), (⟨"HouseInRoom$World", "actByDraws", "(I)V"⟩, 18), (⟨"HouseInRoom$World", "draw", "()I"⟩, 18), (⟨"HouseInRoom$Tape", "endOf", "(I)I"⟩, 6)]
theorem lw_r1 : ∀ q ∈ lw_privs_1, lw_okq q := List.forall_mem_cons.mpr ⟨lw_p0, List.forall_mem_cons.mpr ⟨lw_p1, List.forall_mem_cons.mpr ⟨lw_p2, List.forall_mem_cons.mpr ⟨lw_p3, List.forall_mem_cons.mpr ⟨lw_p4, List.forall_mem_cons.mpr ⟨lw_p5, List.forall_mem_cons.mpr ⟨lw_p6, List.forall_mem_cons.mpr ⟨lw_p7, List.forall_mem_cons.mpr ⟨lw_p8, List.forall_mem_cons.mpr ⟨lw_p9, List.forall_mem_cons.mpr ⟨lw_p10, List.forall_mem_cons.mpr ⟨lw_p11, List.forall_mem_cons.mpr ⟨lw_p12, List.forall_mem_cons.mpr ⟨lw_p13, List.forall_mem_cons.mpr ⟨lw_p14, List.forall_mem_cons.mpr ⟨lw_p15, fun _ h => absurd h List.not_mem_nil⟩⟩⟩⟩⟩⟩⟩⟩⟩⟩⟩⟩⟩⟩⟩⟩
theorem lw_p16 : lw_okq (⟨"HouseInRoom$Tape", "valueOf", "(III)I"⟩, 6) := ⟨⟨by decide +kernel, by decide +kernel⟩, List.mem_of_getElem? (i := 133) (by decide +kernel), List.mem_of_getElem? (i := 648) (by decide +kernel), List.mem_of_getElem? (i := 649) (by decide +kernel)⟩
theorem lw_p17 : lw_okq (⟨"HouseInRoom$Tape", "wordIn", "(II)I"⟩, 6) := ⟨⟨by decide +kernel, by decide +kernel⟩, List.mem_of_getElem? (i := 133) (by decide +kernel), List.mem_of_getElem? (i := 652) (by decide +kernel), List.mem_of_getElem? (i := 653) (by decide +kernel)⟩
theorem lw_p18 : lw_okq (⟨"HouseInRoom$Tape", "isWordIn", "(Ljava/lang/String;II)Z"⟩, 6) := ⟨⟨by decide +kernel, by decide +kernel⟩, List.mem_of_getElem? (i := 133) (by decide +kernel), List.mem_of_getElem? (i := 677) (by decide +kernel), List.mem_of_getElem? (i := 678) (by decide +kernel)⟩
theorem lw_p19 : lw_okq (⟨"HouseInRoom$Tape", "numberIn", "(II)I"⟩, 6) := ⟨⟨by decide +kernel, by decide +kernel⟩, List.mem_of_getElem? (i := 133) (by decide +kernel), List.mem_of_getElem? (i := 729) (by decide +kernel), List.mem_of_getElem? (i := 730) (by decide +kernel)⟩
theorem lw_p20 : lw_okq (⟨"HouseInRoom$Tape", "addToken", "(III)V"⟩, 6) := ⟨⟨by decide +kernel, by decide +kernel⟩, List.mem_of_getElem? (i := 133) (by decide +kernel), List.mem_of_getElem? (i := 736) (by decide +kernel), List.mem_of_getElem? (i := 737) (by decide +kernel)⟩
theorem lw_p21 : lw_okq (⟨"HouseInRoom$TextReader", "parseItem", "()V"⟩, 7) := ⟨⟨by decide +kernel, by decide +kernel⟩, List.mem_of_getElem? (i := 127) (by decide +kernel), List.mem_of_getElem? (i := 740) (by decide +kernel), List.mem_of_getElem? (i := 741) (by decide +kernel)⟩
theorem lw_p22 : lw_okq (⟨"HouseInRoom$TextReader", "parseOne", "()V"⟩, 7) := ⟨⟨by decide +kernel, by decide +kernel⟩, List.mem_of_getElem? (i := 127) (by decide +kernel), List.mem_of_getElem? (i := 748) (by decide +kernel), List.mem_of_getElem? (i := 749) (by decide +kernel)⟩
theorem lw_p23 : lw_okq (⟨"HouseInRoom$TextReader", "refuse", "()V"⟩, 7) := ⟨⟨by decide +kernel, by decide +kernel⟩, List.mem_of_getElem? (i := 127) (by decide +kernel), List.mem_of_getElem? (i := 752) (by decide +kernel), List.mem_of_getElem? (i := 753) (by decide +kernel)⟩
theorem lw_p24 : lw_okq (⟨"HouseInRoom$TextReader", "takePerhaps", "(IIII)I"⟩, 7) := ⟨⟨by decide +kernel, by decide +kernel⟩, List.mem_of_getElem? (i := 127) (by decide +kernel), List.mem_of_getElem? (i := 756) (by decide +kernel), List.mem_of_getElem? (i := 757) (by decide +kernel)⟩
theorem lw_p25 : lw_okq (⟨"HouseInRoom$TextReader", "takeNumber", "(III)I"⟩, 7) := ⟨⟨by decide +kernel, by decide +kernel⟩, List.mem_of_getElem? (i := 127) (by decide +kernel), List.mem_of_getElem? (i := 760) (by decide +kernel), List.mem_of_getElem? (i := 761) (by decide +kernel)⟩
theorem lw_p26 : lw_okq (⟨"HouseInRoom$TextReader", "addItem", "(IIII)V"⟩, 7) := ⟨⟨by decide +kernel, by decide +kernel⟩, List.mem_of_getElem? (i := 127) (by decide +kernel), List.mem_of_getElem? (i := 769) (by decide +kernel), List.mem_of_getElem? (i := 770) (by decide +kernel)⟩
theorem lw_p27 : lw_okq (⟨"HouseInRoom$TextReader", "parseDoor", "(I)V"⟩, 7) := ⟨⟨by decide +kernel, by decide +kernel⟩, List.mem_of_getElem? (i := 127) (by decide +kernel), List.mem_of_getElem? (i := 773) (by decide +kernel), List.mem_of_getElem? (i := 774) (by decide +kernel)⟩
theorem lw_p28 : lw_okq (⟨"HouseInRoom$TextReader", "parseRule", "(II)V"⟩, 7) := ⟨⟨by decide +kernel, by decide +kernel⟩, List.mem_of_getElem? (i := 127) (by decide +kernel), List.mem_of_getElem? (i := 777) (by decide +kernel), List.mem_of_getElem? (i := 778) (by decide +kernel)⟩
theorem lw_p29 : lw_okq (⟨"HouseInRoom$TextReader", "parseThing", "(I)V"⟩, 7) := ⟨⟨by decide +kernel, by decide +kernel⟩, List.mem_of_getElem? (i := 127) (by decide +kernel), List.mem_of_getElem? (i := 782) (by decide +kernel), List.mem_of_getElem? (i := 783) (by decide +kernel)⟩
theorem lw_p30 : lw_okq (⟨"HouseInRoom$TextReader", "takeSign", "()V"⟩, 7) := ⟨⟨by decide +kernel, by decide +kernel⟩, List.mem_of_getElem? (i := 127) (by decide +kernel), List.mem_of_getElem? (i := 790) (by decide +kernel), List.mem_of_getElem? (i := 791) (by decide +kernel)⟩
theorem lw_p31 : lw_okq (⟨"HouseInRoom", "makeSo", "(I)V"⟩, 8) := ⟨⟨by decide +kernel, by decide +kernel⟩, List.mem_of_getElem? (i := 18) (by decide +kernel), List.mem_of_getElem? (i := 798) (by decide +kernel), List.mem_of_getElem? (i := 799) (by decide +kernel)⟩
def lw_privs_2 : List (MethodName × Nat) := [(⟨"HouseInRoom$Tape", "valueOf", "(III)I"⟩, 6), (⟨"HouseInRoom$Tape", "wordIn", "(II)I"⟩, 6), (⟨"HouseInRoom$Tape", "isWordIn", "(Ljava/lang/String;II)Z"⟩, 6), (⟨"HouseInRoom$Tape", "numberIn", "(II)I"⟩, 6), (⟨"HouseInRoom$Tape", "addToken", "(III)V"⟩, 6), (⟨"HouseInRoom$TextReader", "parseItem", "()V"⟩, 7), (⟨"HouseInRoom$TextReader", "parseOne", "()V"⟩, 7), (⟨"HouseInRoom$TextReader", "refuse", "()V"⟩, 7), (⟨"HouseInRoom$TextReader", "takePerhaps", "(IIII)I"⟩, 7), (⟨"HouseInRoom$TextReader", "takeNumber", "(III)I"⟩, 7), (⟨"HouseInRoom$TextReader", "addItem", "(IIII)V"⟩, 7), (⟨"HouseInRoom$TextReader", "parseDoor", "(I)V"⟩, 7), (⟨"HouseInRoom$TextReader", "parseRule", "(II)V"⟩, 7), (⟨"HouseInRoom$TextReader", "parseThing", "(I)V"⟩, 7), (⟨"HouseInRoom$TextReader", "takeSign", "()V"⟩, 7), (⟨"HouseInRoom", "makeSo", "(I)V"⟩, 8)]
theorem lw_r2 : ∀ q ∈ lw_privs_2, lw_okq q := List.forall_mem_cons.mpr ⟨lw_p16, List.forall_mem_cons.mpr ⟨lw_p17, List.forall_mem_cons.mpr ⟨lw_p18, List.forall_mem_cons.mpr ⟨lw_p19, List.forall_mem_cons.mpr ⟨lw_p20, List.forall_mem_cons.mpr ⟨lw_p21, List.forall_mem_cons.mpr ⟨lw_p22, List.forall_mem_cons.mpr ⟨lw_p23, List.forall_mem_cons.mpr ⟨lw_p24, List.forall_mem_cons.mpr ⟨lw_p25, List.forall_mem_cons.mpr ⟨lw_p26, List.forall_mem_cons.mpr ⟨lw_p27, List.forall_mem_cons.mpr ⟨lw_p28, List.forall_mem_cons.mpr ⟨lw_p29, List.forall_mem_cons.mpr ⟨lw_p30, List.forall_mem_cons.mpr ⟨lw_p31, fun _ h => absurd h List.not_mem_nil⟩⟩⟩⟩⟩⟩⟩⟩⟩⟩⟩⟩⟩⟩⟩⟩
theorem lw_p32 : lw_okq (⟨"HouseInRoomModel", "opensDoor", "(IIZ)V"⟩, 20) := ⟨⟨by decide +kernel, by decide +kernel⟩, List.mem_of_getElem? (i := 885) (by decide +kernel), List.mem_of_getElem? (i := 891) (by decide +kernel), List.mem_of_getElem? (i := 892) (by decide +kernel)⟩
theorem lw_p33 : lw_okq (⟨"HouseInRoomModel", "finding", "(I)I"⟩, 20) := ⟨⟨by decide +kernel, by decide +kernel⟩, List.mem_of_getElem? (i := 885) (by decide +kernel), List.mem_of_getElem? (i := 967) (by decide +kernel), List.mem_of_getElem? (i := 968) (by decide +kernel)⟩
theorem lw_p34 : lw_okq (⟨"HouseInRoomModel", "isOpen", "(II)Z"⟩, 20) := ⟨⟨by decide +kernel, by decide +kernel⟩, List.mem_of_getElem? (i := 885) (by decide +kernel), List.mem_of_getElem? (i := 972) (by decide +kernel), List.mem_of_getElem? (i := 973) (by decide +kernel)⟩
theorem lw_p35 : lw_okq (⟨"HouseInRoomModel", "lays", "(III)V"⟩, 20) := ⟨⟨by decide +kernel, by decide +kernel⟩, List.mem_of_getElem? (i := 885) (by decide +kernel), List.mem_of_getElem? (i := 989) (by decide +kernel), List.mem_of_getElem? (i := 990) (by decide +kernel)⟩
theorem lw_p36 : lw_okq (⟨"HouseInRoomModel", "isThing", "(I)Z"⟩, 20) := ⟨⟨by decide +kernel, by decide +kernel⟩, List.mem_of_getElem? (i := 885) (by decide +kernel), List.mem_of_getElem? (i := 997) (by decide +kernel), List.mem_of_getElem? (i := 998) (by decide +kernel)⟩
theorem lw_p37 : lw_okq (⟨"HouseInRoomModel", "weighs", "(II)I"⟩, 20) := ⟨⟨by decide +kernel, by decide +kernel⟩, List.mem_of_getElem? (i := 885) (by decide +kernel), List.mem_of_getElem? (i := 1001) (by decide +kernel), List.mem_of_getElem? (i := 1002) (by decide +kernel)⟩
theorem lw_p38 : lw_okq (⟨"HouseInRoomModel", "comes", "(II)V"⟩, 20) := ⟨⟨by decide +kernel, by decide +kernel⟩, List.mem_of_getElem? (i := 885) (by decide +kernel), List.mem_of_getElem? (i := 1021) (by decide +kernel), List.mem_of_getElem? (i := 1022) (by decide +kernel)⟩
theorem lw_p39 : lw_okq (⟨"HouseInRoomModel", "isOne", "(I)Z"⟩, 20) := ⟨⟨by decide +kernel, by decide +kernel⟩, List.mem_of_getElem? (i := 885) (by decide +kernel), List.mem_of_getElem? (i := 1029) (by decide +kernel), List.mem_of_getElem? (i := 1030) (by decide +kernel)⟩
theorem lw_p40 : lw_okq (⟨"HouseInRoomModel", "canWalk", "(II)Z"⟩, 20) := ⟨⟨by decide +kernel, by decide +kernel⟩, List.mem_of_getElem? (i := 885) (by decide +kernel), List.mem_of_getElem? (i := 1045) (by decide +kernel), List.mem_of_getElem? (i := 1046) (by decide +kernel)⟩
theorem lw_p41 : lw_okq (⟨"HouseInRoomModel", "roomOf", "(I)I"⟩, 20) := ⟨⟨by decide +kernel, by decide +kernel⟩, List.mem_of_getElem? (i := 885) (by decide +kernel), List.mem_of_getElem? (i := 1049) (by decide +kernel), List.mem_of_getElem? (i := 1050) (by decide +kernel)⟩
theorem lw_p42 : lw_okq (⟨"HouseInRoomModel", "levelOf", "(I)I"⟩, 20) := ⟨⟨by decide +kernel, by decide +kernel⟩, List.mem_of_getElem? (i := 885) (by decide +kernel), List.mem_of_getElem? (i := 1053) (by decide +kernel), List.mem_of_getElem? (i := 1054) (by decide +kernel)⟩
theorem lw_p43 : lw_okq (⟨"HouseInRoomModel", "goes", "(III)V"⟩, 20) := ⟨⟨by decide +kernel, by decide +kernel⟩, List.mem_of_getElem? (i := 885) (by decide +kernel), List.mem_of_getElem? (i := 1057) (by decide +kernel), List.mem_of_getElem? (i := 1058) (by decide +kernel)⟩
theorem lw_p44 : lw_okq (⟨"HouseInRoomModel", "isBefore", "(I)Z"⟩, 20) := ⟨⟨by decide +kernel, by decide +kernel⟩, List.mem_of_getElem? (i := 885) (by decide +kernel), List.mem_of_getElem? (i := 1065) (by decide +kernel), List.mem_of_getElem? (i := 1066) (by decide +kernel)⟩
theorem lw_p45 : lw_okq (⟨"HouseInRoomModel", "canCarry", "(III)Z"⟩, 20) := ⟨⟨by decide +kernel, by decide +kernel⟩, List.mem_of_getElem? (i := 885) (by decide +kernel), List.mem_of_getElem? (i := 1077) (by decide +kernel), List.mem_of_getElem? (i := 1078) (by decide +kernel)⟩
theorem lw_p46 : lw_okq (⟨"HouseInRoomModel", "standing", "(II)I"⟩, 20) := ⟨⟨by decide +kernel, by decide +kernel⟩, List.mem_of_getElem? (i := 885) (by decide +kernel), List.mem_of_getElem? (i := 1081) (by decide +kernel), List.mem_of_getElem? (i := 1082) (by decide +kernel)⟩
theorem lw_p47 : lw_okq (⟨"HouseInRoomModel", "brings", "(IIII)I"⟩, 20) := ⟨⟨by decide +kernel, by decide +kernel⟩, List.mem_of_getElem? (i := 885) (by decide +kernel), List.mem_of_getElem? (i := 1085) (by decide +kernel), List.mem_of_getElem? (i := 1086) (by decide +kernel)⟩
def lw_privs_3 : List (MethodName × Nat) := [(⟨"HouseInRoomModel", "opensDoor", "(IIZ)V"⟩, 20), (⟨"HouseInRoomModel", "finding", "(I)I"⟩, 20), (⟨"HouseInRoomModel", "isOpen", "(II)Z"⟩, 20), (⟨"HouseInRoomModel", "lays", "(III)V"⟩, 20), (⟨"HouseInRoomModel", "isThing", "(I)Z"⟩, 20), (⟨"HouseInRoomModel", "weighs", "(II)I"⟩, 20), (⟨"HouseInRoomModel", "comes", "(II)V"⟩, 20), (⟨"HouseInRoomModel", "isOne", "(I)Z"⟩, 20), (⟨"HouseInRoomModel", "canWalk", "(II)Z"⟩, 20), (⟨"HouseInRoomModel", "roomOf", "(I)I"⟩, 20), (⟨"HouseInRoomModel", "levelOf", "(I)I"⟩, 20), (⟨"HouseInRoomModel", "goes", "(III)V"⟩, 20), (⟨"HouseInRoomModel", "isBefore", "(I)Z"⟩, 20), (⟨"HouseInRoomModel", "canCarry", "(III)Z"⟩, 20), (⟨"HouseInRoomModel", "standing", "(II)I"⟩, 20), (⟨"HouseInRoomModel", "brings", "(IIII)I"⟩, 20)]
theorem lw_r3 : ∀ q ∈ lw_privs_3, lw_okq q := List.forall_mem_cons.mpr ⟨lw_p32, List.forall_mem_cons.mpr ⟨lw_p33, List.forall_mem_cons.mpr ⟨lw_p34, List.forall_mem_cons.mpr ⟨lw_p35, List.forall_mem_cons.mpr ⟨lw_p36, List.forall_mem_cons.mpr ⟨lw_p37, List.forall_mem_cons.mpr ⟨lw_p38, List.forall_mem_cons.mpr ⟨lw_p39, List.forall_mem_cons.mpr ⟨lw_p40, List.forall_mem_cons.mpr ⟨lw_p41, List.forall_mem_cons.mpr ⟨lw_p42, List.forall_mem_cons.mpr ⟨lw_p43, List.forall_mem_cons.mpr ⟨lw_p44, List.forall_mem_cons.mpr ⟨lw_p45, List.forall_mem_cons.mpr ⟨lw_p46, List.forall_mem_cons.mpr ⟨lw_p47, fun _ h => absurd h List.not_mem_nil⟩⟩⟩⟩⟩⟩⟩⟩⟩⟩⟩⟩⟩⟩⟩⟩
theorem lw_p48 : lw_okq (⟨"HouseInRoomModel", "canReach", "(III)Z"⟩, 20) := ⟨⟨by decide +kernel, by decide +kernel⟩, List.mem_of_getElem? (i := 885) (by decide +kernel), List.mem_of_getElem? (i := 1094) (by decide +kernel), List.mem_of_getElem? (i := 1095) (by decide +kernel)⟩
theorem lw_p49 : lw_okq (⟨"HouseInRoomModel", "walksAll", "(IIZ)V"⟩, 20) := ⟨⟨by decide +kernel, by decide +kernel⟩, List.mem_of_getElem? (i := 885) (by decide +kernel), List.mem_of_getElem? (i := 1115) (by decide +kernel), List.mem_of_getElem? (i := 1116) (by decide +kernel)⟩
theorem lw_p50 : lw_okq (⟨"HouseInRoomModel", "finds", "(III)V"⟩, 20) := ⟨⟨by decide +kernel, by decide +kernel⟩, List.mem_of_getElem? (i := 885) (by decide +kernel), List.mem_of_getElem? (i := 1119) (by decide +kernel), List.mem_of_getElem? (i := 1120) (by decide +kernel)⟩
theorem lw_p51 : lw_okq (⟨"HouseInRoomModel", "stepsFrom", "(IIZIII)V"⟩, 20) := ⟨⟨by decide +kernel, by decide +kernel⟩, List.mem_of_getElem? (i := 885) (by decide +kernel), List.mem_of_getElem? (i := 1123) (by decide +kernel), List.mem_of_getElem? (i := 1124) (by decide +kernel)⟩
theorem lw_p52 : lw_okq (⟨"HouseInRoomModel", "orNone", "(I)I"⟩, 20) := ⟨⟨by decide +kernel, by decide +kernel⟩, List.mem_of_getElem? (i := 885) (by decide +kernel), List.mem_of_getElem? (i := 1131) (by decide +kernel), List.mem_of_getElem? (i := 1132) (by decide +kernel)⟩
theorem lw_p53 : lw_okq (⟨"HouseInRoomModel", "isTask", "(III)Z"⟩, 20) := ⟨⟨by decide +kernel, by decide +kernel⟩, List.mem_of_getElem? (i := 885) (by decide +kernel), List.mem_of_getElem? (i := 1139) (by decide +kernel), List.mem_of_getElem? (i := 1140) (by decide +kernel)⟩
theorem lw_p54 : lw_okq (⟨"HouseInRoomModel", "stepsOf", "(III)I"⟩, 20) := ⟨⟨by decide +kernel, by decide +kernel⟩, List.mem_of_getElem? (i := 885) (by decide +kernel), List.mem_of_getElem? (i := 1143) (by decide +kernel), List.mem_of_getElem? (i := 1144) (by decide +kernel)⟩
theorem lw_p55 : lw_okq (⟨"HouseInRoomModel", "leastFor", "(I)I"⟩, 20) := ⟨⟨by decide +kernel, by decide +kernel⟩, List.mem_of_getElem? (i := 885) (by decide +kernel), List.mem_of_getElem? (i := 1147) (by decide +kernel), List.mem_of_getElem? (i := 1148) (by decide +kernel)⟩
theorem lw_p56 : lw_okq (⟨"HouseInRoomModel", "begins", "()V"⟩, 20) := ⟨⟨by decide +kernel, by decide +kernel⟩, List.mem_of_getElem? (i := 885) (by decide +kernel), List.mem_of_getElem? (i := 1155) (by decide +kernel), List.mem_of_getElem? (i := 1156) (by decide +kernel)⟩
theorem lw_p57 : lw_okq (⟨"HouseInRoomModel", "tries", "(II)V"⟩, 20) := ⟨⟨by decide +kernel, by decide +kernel⟩, List.mem_of_getElem? (i := 885) (by decide +kernel), List.mem_of_getElem? (i := 1159) (by decide +kernel), List.mem_of_getElem? (i := 1160) (by decide +kernel)⟩
theorem lw_p58 : lw_okq (⟨"HouseInRoomModel", "roomsFor", "(IIZ)I"⟩, 20) := ⟨⟨by decide +kernel, by decide +kernel⟩, List.mem_of_getElem? (i := 885) (by decide +kernel), List.mem_of_getElem? (i := 1167) (by decide +kernel), List.mem_of_getElem? (i := 1168) (by decide +kernel)⟩
theorem lw_p59 : lw_okq (⟨"HouseInRoomModel", "isSafe", "(I)Z"⟩, 20) := ⟨⟨by decide +kernel, by decide +kernel⟩, List.mem_of_getElem? (i := 885) (by decide +kernel), List.mem_of_getElem? (i := 1191) (by decide +kernel), List.mem_of_getElem? (i := 1192) (by decide +kernel)⟩
theorem lw_p60 : lw_okq (⟨"HouseInRoomModel", "isReach", "(I)Z"⟩, 20) := ⟨⟨by decide +kernel, by decide +kernel⟩, List.mem_of_getElem? (i := 885) (by decide +kernel), List.mem_of_getElem? (i := 1203) (by decide +kernel), List.mem_of_getElem? (i := 1204) (by decide +kernel)⟩
theorem lw_p61 : lw_okq (⟨"HouseInRoomModel", "lends", "()V"⟩, 20) := ⟨⟨by decide +kernel, by decide +kernel⟩, List.mem_of_getElem? (i := 885) (by decide +kernel), List.mem_of_getElem? (i := 1207) (by decide +kernel), List.mem_of_getElem? (i := 1208) (by decide +kernel)⟩
theorem lw_p62 : lw_okq (⟨"HouseInRoomModel", "reaches", "(II)V"⟩, 20) := ⟨⟨by decide +kernel, by decide +kernel⟩, List.mem_of_getElem? (i := 885) (by decide +kernel), List.mem_of_getElem? (i := 1214) (by decide +kernel), List.mem_of_getElem? (i := 1215) (by decide +kernel)⟩
theorem lw_p63 : lw_okq (⟨"HouseInRoomModel", "laysBack", "()V"⟩, 20) := ⟨⟨by decide +kernel, by decide +kernel⟩, List.mem_of_getElem? (i := 885) (by decide +kernel), List.mem_of_getElem? (i := 1218) (by decide +kernel), List.mem_of_getElem? (i := 1219) (by decide +kernel)⟩
def lw_privs_4 : List (MethodName × Nat) := [(⟨"HouseInRoomModel", "canReach", "(III)Z"⟩, 20), (⟨"HouseInRoomModel", "walksAll", "(IIZ)V"⟩, 20), (⟨"HouseInRoomModel", "finds", "(III)V"⟩, 20), (⟨"HouseInRoomModel", "stepsFrom", "(IIZIII)V"⟩, 20), (⟨"HouseInRoomModel", "orNone", "(I)I"⟩, 20), (⟨"HouseInRoomModel", "isTask", "(III)Z"⟩, 20), (⟨"HouseInRoomModel", "stepsOf", "(III)I"⟩, 20), (⟨"HouseInRoomModel", "leastFor", "(I)I"⟩, 20), (⟨"HouseInRoomModel", "begins", "()V"⟩, 20), (⟨"HouseInRoomModel", "tries", "(II)V"⟩, 20), (⟨"HouseInRoomModel", "roomsFor", "(IIZ)I"⟩, 20), (⟨"HouseInRoomModel", "isSafe", "(I)Z"⟩, 20), (⟨"HouseInRoomModel", "isReach", "(I)Z"⟩, 20), (⟨"HouseInRoomModel", "lends", "()V"⟩, 20), (⟨"HouseInRoomModel", "reaches", "(II)V"⟩, 20), (⟨"HouseInRoomModel", "laysBack", "()V"⟩, 20)]
theorem lw_r4 : ∀ q ∈ lw_privs_4, lw_okq q := List.forall_mem_cons.mpr ⟨lw_p48, List.forall_mem_cons.mpr ⟨lw_p49, List.forall_mem_cons.mpr ⟨lw_p50, List.forall_mem_cons.mpr ⟨lw_p51, List.forall_mem_cons.mpr ⟨lw_p52, List.forall_mem_cons.mpr ⟨lw_p53, List.forall_mem_cons.mpr ⟨lw_p54, List.forall_mem_cons.mpr ⟨lw_p55, List.forall_mem_cons.mpr ⟨lw_p56, List.forall_mem_cons.mpr ⟨lw_p57, List.forall_mem_cons.mpr ⟨lw_p58, List.forall_mem_cons.mpr ⟨lw_p59, List.forall_mem_cons.mpr ⟨lw_p60, List.forall_mem_cons.mpr ⟨lw_p61, List.forall_mem_cons.mpr ⟨lw_p62, List.forall_mem_cons.mpr ⟨lw_p63, fun _ h => absurd h List.not_mem_nil⟩⟩⟩⟩⟩⟩⟩⟩⟩⟩⟩⟩⟩⟩⟩⟩
theorem lw_p64 : lw_okq (⟨"HouseInRoomModel", "daysGo", "(I)I"⟩, 20) := ⟨⟨by decide +kernel, by decide +kernel⟩, List.mem_of_getElem? (i := 885) (by decide +kernel), List.mem_of_getElem? (i := 1261) (by decide +kernel), List.mem_of_getElem? (i := 1262) (by decide +kernel)⟩
theorem lw_p65 : lw_okq (⟨"HouseInRoomModel", "aDay", "()V"⟩, 20) := ⟨⟨by decide +kernel, by decide +kernel⟩, List.mem_of_getElem? (i := 885) (by decide +kernel), List.mem_of_getElem? (i := 1265) (by decide +kernel), List.mem_of_getElem? (i := 1266) (by decide +kernel)⟩
theorem lw_p66 : lw_okq (⟨"HouseInRoomModel", "dayOf", "(I)V"⟩, 20) := ⟨⟨by decide +kernel, by decide +kernel⟩, List.mem_of_getElem? (i := 885) (by decide +kernel), List.mem_of_getElem? (i := 1269) (by decide +kernel), List.mem_of_getElem? (i := 1270) (by decide +kernel)⟩
theorem lw_p67 : lw_okq (⟨"HouseInRoomModel", "draw", "()I"⟩, 20) := ⟨⟨by decide +kernel, by decide +kernel⟩, List.mem_of_getElem? (i := 885) (by decide +kernel), List.mem_of_getElem? (i := 1273) (by decide +kernel), List.mem_of_getElem? (i := 1274) (by decide +kernel)⟩
theorem lw_p68 : lw_okq (⟨"HouseInRoomModel", "next", "()V"⟩, 20) := ⟨⟨by decide +kernel, by decide +kernel⟩, List.mem_of_getElem? (i := 885) (by decide +kernel), List.mem_of_getElem? (i := 1302) (by decide +kernel), List.mem_of_getElem? (i := 1303) (by decide +kernel)⟩
theorem lw_p69 : lw_okq (⟨"HouseInRoomModel", "isByte", "(III)Z"⟩, 20) := ⟨⟨by decide +kernel, by decide +kernel⟩, List.mem_of_getElem? (i := 885) (by decide +kernel), List.mem_of_getElem? (i := 1306) (by decide +kernel), List.mem_of_getElem? (i := 1307) (by decide +kernel)⟩
theorem lw_p70 : lw_okq (⟨"HouseInRoomModel", "item", "()V"⟩, 20) := ⟨⟨by decide +kernel, by decide +kernel⟩, List.mem_of_getElem? (i := 885) (by decide +kernel), List.mem_of_getElem? (i := 1310) (by decide +kernel), List.mem_of_getElem? (i := 1311) (by decide +kernel)⟩
theorem lw_p71 : lw_okq (⟨"HouseInRoomModel", "kindHere", "()I"⟩, 20) := ⟨⟨by decide +kernel, by decide +kernel⟩, List.mem_of_getElem? (i := 885) (by decide +kernel), List.mem_of_getElem? (i := 1314) (by decide +kernel), List.mem_of_getElem? (i := 1315) (by decide +kernel)⟩
theorem lw_p72 : lw_okq (⟨"HouseInRoomModel", "isWord", "(Ljava/lang/String;)Z"⟩, 20) := ⟨⟨by decide +kernel, by decide +kernel⟩, List.mem_of_getElem? (i := 885) (by decide +kernel), List.mem_of_getElem? (i := 1328) (by decide +kernel), List.mem_of_getElem? (i := 1329) (by decide +kernel)⟩
theorem lw_p73 : lw_okq (⟨"HouseInRoomModel", "thingTold", "(I)V"⟩, 20) := ⟨⟨by decide +kernel, by decide +kernel⟩, List.mem_of_getElem? (i := 885) (by decide +kernel), List.mem_of_getElem? (i := 1334) (by decide +kernel), List.mem_of_getElem? (i := 1335) (by decide +kernel)⟩
theorem lw_p74 : lw_okq (⟨"HouseInRoomModel", "perhaps", "(Ljava/lang/String;III)I"⟩, 20) := ⟨⟨by decide +kernel, by decide +kernel⟩, List.mem_of_getElem? (i := 885) (by decide +kernel), List.mem_of_getElem? (i := 1339) (by decide +kernel), List.mem_of_getElem? (i := 1340) (by decide +kernel)⟩
theorem lw_p75 : lw_okq (⟨"HouseInRoomModel", "takes", "(Ljava/lang/String;)Z"⟩, 20) := ⟨⟨by decide +kernel, by decide +kernel⟩, List.mem_of_getElem? (i := 885) (by decide +kernel), List.mem_of_getElem? (i := 1343) (by decide +kernel), List.mem_of_getElem? (i := 1344) (by decide +kernel)⟩
theorem lw_p76 : lw_okq (⟨"HouseInRoomModel", "numberHere", "()I"⟩, 20) := ⟨⟨by decide +kernel, by decide +kernel⟩, List.mem_of_getElem? (i := 885) (by decide +kernel), List.mem_of_getElem? (i := 1347) (by decide +kernel), List.mem_of_getElem? (i := 1348) (by decide +kernel)⟩
theorem lw_p77 : lw_okq (⟨"HouseInRoomModel", "number", "(I)I"⟩, 20) := ⟨⟨by decide +kernel, by decide +kernel⟩, List.mem_of_getElem? (i := 885) (by decide +kernel), List.mem_of_getElem? (i := 1351) (by decide +kernel), List.mem_of_getElem? (i := 1352) (by decide +kernel)⟩
theorem lw_p78 : lw_okq (⟨"HouseInRoomModel", "oneTold", "()V"⟩, 20) := ⟨⟨by decide +kernel, by decide +kernel⟩, List.mem_of_getElem? (i := 885) (by decide +kernel), List.mem_of_getElem? (i := 1357) (by decide +kernel), List.mem_of_getElem? (i := 1358) (by decide +kernel)⟩
theorem lw_p79 : lw_okq (⟨"HouseInRoomModel", "doorTold", "(Z)V"⟩, 20) := ⟨⟨by decide +kernel, by decide +kernel⟩, List.mem_of_getElem? (i := 885) (by decide +kernel), List.mem_of_getElem? (i := 1364) (by decide +kernel), List.mem_of_getElem? (i := 1365) (by decide +kernel)⟩
def lw_privs_5 : List (MethodName × Nat) := [(⟨"HouseInRoomModel", "daysGo", "(I)I"⟩, 20), (⟨"HouseInRoomModel", "aDay", "()V"⟩, 20), (⟨"HouseInRoomModel", "dayOf", "(I)V"⟩, 20), (⟨"HouseInRoomModel", "draw", "()I"⟩, 20), (⟨"HouseInRoomModel", "next", "()V"⟩, 20), (⟨"HouseInRoomModel", "isByte", "(III)Z"⟩, 20), (⟨"HouseInRoomModel", "item", "()V"⟩, 20), (⟨"HouseInRoomModel", "kindHere", "()I"⟩, 20), (⟨"HouseInRoomModel", "isWord", "(Ljava/lang/String;)Z"⟩, 20), (⟨"HouseInRoomModel", "thingTold", "(I)V"⟩, 20), (⟨"HouseInRoomModel", "perhaps", "(Ljava/lang/String;III)I"⟩, 20), (⟨"HouseInRoomModel", "takes", "(Ljava/lang/String;)Z"⟩, 20), (⟨"HouseInRoomModel", "numberHere", "()I"⟩, 20), (⟨"HouseInRoomModel", "number", "(I)I"⟩, 20), (⟨"HouseInRoomModel", "oneTold", "()V"⟩, 20), (⟨"HouseInRoomModel", "doorTold", "(Z)V"⟩, 20)]
theorem lw_r5 : ∀ q ∈ lw_privs_5, lw_okq q := List.forall_mem_cons.mpr ⟨lw_p64, List.forall_mem_cons.mpr ⟨lw_p65, List.forall_mem_cons.mpr ⟨lw_p66, List.forall_mem_cons.mpr ⟨lw_p67, List.forall_mem_cons.mpr ⟨lw_p68, List.forall_mem_cons.mpr ⟨lw_p69, List.forall_mem_cons.mpr ⟨lw_p70, List.forall_mem_cons.mpr ⟨lw_p71, List.forall_mem_cons.mpr ⟨lw_p72, List.forall_mem_cons.mpr ⟨lw_p73, List.forall_mem_cons.mpr ⟨lw_p74, List.forall_mem_cons.mpr ⟨lw_p75, List.forall_mem_cons.mpr ⟨lw_p76, List.forall_mem_cons.mpr ⟨lw_p77, List.forall_mem_cons.mpr ⟨lw_p78, List.forall_mem_cons.mpr ⟨lw_p79, fun _ h => absurd h List.not_mem_nil⟩⟩⟩⟩⟩⟩⟩⟩⟩⟩⟩⟩⟩⟩⟩⟩
theorem lw_p80 : lw_okq (⟨"HouseInRoomModel", "ruleTold", "(II)V"⟩, 20) := ⟨⟨by decide +kernel, by decide +kernel⟩, List.mem_of_getElem? (i := 885) (by decide +kernel), List.mem_of_getElem? (i := 1370) (by decide +kernel), List.mem_of_getElem? (i := 1371) (by decide +kernel)⟩
theorem lw_p81 : lw_okq (⟨"HouseInRoomModel", "lacksOf", "(I)I"⟩, 20) := ⟨⟨by decide +kernel, by decide +kernel⟩, List.mem_of_getElem? (i := 885) (by decide +kernel), List.mem_of_getElem? (i := 1403) (by decide +kernel), List.mem_of_getElem? (i := 1404) (by decide +kernel)⟩
theorem lw_p82 : lw_okq (⟨"HouseInRoomModel", "isStep", "(II)Z"⟩, 20) := ⟨⟨by decide +kernel, by decide +kernel⟩, List.mem_of_getElem? (i := 885) (by decide +kernel), List.mem_of_getElem? (i := 1422) (by decide +kernel), List.mem_of_getElem? (i := 1423) (by decide +kernel)⟩
theorem lw_p83 : lw_okq (⟨"HouseInRoomModel", "holding", "()I"⟩, 20) := ⟨⟨by decide +kernel, by decide +kernel⟩, List.mem_of_getElem? (i := 885) (by decide +kernel), List.mem_of_getElem? (i := 1442) (by decide +kernel), List.mem_of_getElem? (i := 1443) (by decide +kernel)⟩
def lw_privs_6 : List (MethodName × Nat) := [(⟨"HouseInRoomModel", "ruleTold", "(II)V"⟩, 20), (⟨"HouseInRoomModel", "lacksOf", "(I)I"⟩, 20), (⟨"HouseInRoomModel", "isStep", "(II)Z"⟩, 20), (⟨"HouseInRoomModel", "holding", "()I"⟩, 20)]
theorem lw_r6 : ∀ q ∈ lw_privs_6, lw_okq q := List.forall_mem_cons.mpr ⟨lw_p80, List.forall_mem_cons.mpr ⟨lw_p81, List.forall_mem_cons.mpr ⟨lw_p82, List.forall_mem_cons.mpr ⟨lw_p83, fun _ h => absurd h List.not_mem_nil⟩⟩⟩⟩
def lw_privs : List (MethodName × Nat) := lw_privs_1 ++ (lw_privs_2 ++ (lw_privs_3 ++ (lw_privs_4 ++ (lw_privs_5 ++ (lw_privs_6)))))
def lw_tbl : List Cond := k2_sels lw_privs ++ tables_1
theorem lw_privs_ok : ∀ q ∈ lw_privs, lw_okq q := by
  show ∀ q ∈ lw_privs_1 ++ (lw_privs_2 ++ (lw_privs_3 ++ (lw_privs_4 ++ (lw_privs_5 ++ (lw_privs_6))))), lw_okq q
  exact List.forall_mem_append.mpr ⟨lw_r1, List.forall_mem_append.mpr ⟨lw_r2, List.forall_mem_append.mpr ⟨lw_r3, List.forall_mem_append.mpr ⟨lw_r4, List.forall_mem_append.mpr ⟨lw_r5, lw_r6⟩⟩⟩⟩⟩
/-! ===== BEGIN words of one list among another's, by their places ===== -/
theorem goodIn_r {big : List Cond} (ws : List Cond) (ps : List Nat) (hp : ws = ps.filterMap (fun i => big[i]?)) (h : ws.all goodWord = true) : GoodIn big ws := by
  intro w hw
  have h1 := List.all_eq_true.mp h w hw
  rw [hp] at hw
  obtain ⟨i, -, hi⟩ := List.mem_filterMap.mp hw
  have hm : w ∈ big := by first | exact List.mem_of_getElem? hi | exact List.getElem?_mem hi
  exact ⟨hm, good_of_word h1⟩
theorem goodIn_app {big a b : List Cond} (ha : GoodIn big a) (hb : GoodIn big b) : GoodIn big (a ++ b) := fun w h => (List.mem_append.mp h).elim (ha w) (hb w)
theorem goodIn_ca {big a b : List Cond} {c : Cond} (ha : GoodIn big (c :: a)) (hb : GoodIn big b) : GoodIn big (c :: (a ++ b)) := fun w h => (List.mem_cons.mp h).elim (fun e => ha w (List.mem_cons.mpr (Or.inl e))) (fun h => (List.mem_append.mp h).elim (fun h => ha w (List.mem_cons.mpr (Or.inr h))) (hb w))
theorem goodIn_sub {big ws : List Cond} (hm : ∀ w ∈ ws, w ∈ big) (h : ws.all goodWord = true) : GoodIn big ws := fun w hw => ⟨hm w hw, good_of_word (List.all_eq_true.mp h w hw)⟩
/-! ===== END ===== -/
def RX0 : String := "HouseInRoom$Kinds"
def TX0 : u_T := fun k => match k with
  | _ => ("", "", "", false)
def tyX0 : Nat → FieldType := fun k => match k with
  | _ => .int
abbrev wsX00 : List Cond := u_ws RX0 TX0 0
theorem nmX0 : ∀ a, a < 0 → ∀ b, b < 0 → a ≠ b → (TX0 a).2.1 ≠ (TX0 b).2.1 := by decide +kernel
theorem tyX0_ok : ∀ k, k < 0 → parseFieldDescriptor (TX0 k).2.2.1 = some (tyX0 k) := by decide +kernel
abbrev cX0_weightOf : ByteArray := prog_2_method_2_code
def yX0_weightOf : MethodName := ⟨RX0, "weightOf", "(III)I"⟩
abbrev cX0_isUnder : ByteArray := prog_2_method_3_code
def yX0_isUnder : MethodName := ⟨RX0, "isUnder", "(II)Z"⟩
abbrev cX0_kindAbove : ByteArray := prog_2_method_4_code
def yX0_kindAbove : MethodName := ⟨RX0, "kindAbove", "(I)I"⟩
def RX1 : String := "HouseInRoom$Search"
def TX1 : u_T := fun k => match k with
  | 0 => ("HouseInRoom$Search", "known", "[J", true)
  | 1 => ("HouseInRoom$Search", "edge", "[J", true)
  | 2 => ("HouseInRoom$Search", "next", "[J", true)
  | _ => ("HouseInRoom$Search", "fewest", "[I", true)
def tyX1 : Nat → FieldType := fun k => match k with
  | 0 => .array .long
  | 1 => .array .long
  | 2 => .array .long
  | _ => .array .int
abbrev wsX10 : List Cond := u_ws RX1 TX1 4
theorem nmX1 : ∀ a, a < 4 → ∀ b, b < 4 → a ≠ b → (TX1 a).2.1 ≠ (TX1 b).2.1 := by decide +kernel
theorem tyX1_ok : ∀ k, k < 4 → parseFieldDescriptor (TX1 k).2.2.1 = some (tyX1 k) := by decide +kernel
abbrev cX1_init : ByteArray := prog_3_method_1_code
def yX1_init : MethodName := ⟨RX1, "<init>", "()V"⟩
abbrev cX1_placesFrom : ByteArray := prog_3_method_2_code
def yX1_placesFrom : MethodName := ⟨RX1, "placesFrom", "(LHouseInRoom$World;I)J"⟩
abbrev cX1_stepsTo : ByteArray := prog_3_method_3_code
def yX1_stepsTo : MethodName := ⟨RX1, "stepsTo", "(LHouseInRoom$World;II)I"⟩
abbrev cX1_fewestFor : ByteArray := prog_3_method_4_code
def yX1_fewestFor : MethodName := ⟨RX1, "fewestFor", "(LHouseInRoom$World;III)I"⟩
abbrev cX1_roomsFor : ByteArray := prog_3_method_5_code
def yX1_roomsFor : MethodName := ⟨RX1, "roomsFor", "(LHouseInRoom$World;IIZ)I"⟩
abbrev cX1_explore : ByteArray := prog_3_method_6_code
def yX1_explore : MethodName := ⟨RX1, "explore", "(LHouseInRoom$World;IIIZ)V"⟩
abbrev cX1_settle : ByteArray := prog_3_method_7_code
def yX1_settle : MethodName := ⟨RX1, "settle", "(I)Z"⟩
abbrev cX1_spread : ByteArray := prog_3_method_8_code
def yX1_spread : MethodName := ⟨RX1, "spread", "(LHouseInRoom$World;IJZ)V"⟩
def RX2 : String := "HouseInRoom$Sheet"
def TX2 : u_T := fun k => match k with
  | 0 => ("HouseInRoom$Sheet", "bits", "I", false)
  | 1 => ("HouseInRoom$Sheet", "length", "I", false)
  | _ => ("HouseInRoom$Sheet", "numbers", "[I", true)
def tyX2 : Nat → FieldType := fun k => match k with
  | 0 => .int
  | 1 => .int
  | _ => .array .int
abbrev wsX20 : List Cond := u_ws RX2 TX2 3
theorem nmX2 : ∀ a, a < 3 → ∀ b, b < 3 → a ≠ b → (TX2 a).2.1 ≠ (TX2 b).2.1 := by decide +kernel
theorem tyX2_ok : ∀ k, k < 3 → parseFieldDescriptor (TX2 k).2.2.1 = some (tyX2 k) := by decide +kernel
abbrev cX2_init : ByteArray := prog_4_method_1_code
def yX2_init : MethodName := ⟨RX2, "<init>", "()V"⟩
abbrev cX2_isMissing : ByteArray := prog_4_method_2_code
def yX2_isMissing : MethodName := ⟨RX2, "isMissing", "()Z"⟩
abbrev cX2_renew : ByteArray := prog_4_method_3_code
def yX2_renew : MethodName := ⟨RX2, "renew", "(II)V"⟩
abbrev cX2_put : ByteArray := prog_4_method_4_code
def yX2_put : MethodName := ⟨RX2, "put", "(II)V"⟩
abbrev cX2_hasRow : ByteArray := prog_4_method_5_code
def yX2_hasRow : MethodName := ⟨RX2, "hasRow", "(II)Z"⟩
def RX3 : String := "HouseInRoom$Tape"
def TX3 : u_T := fun k => match k with
  | 0 => ("HouseInRoom$Tape", "bytes", "[I", true)
  | 1 => ("HouseInRoom$Tape", "length", "I", false)
  | 2 => ("HouseInRoom$Tape", "kinds", "[I", true)
  | 3 => ("HouseInRoom$Tape", "values", "[I", true)
  | 4 => ("HouseInRoom$Tape", "begins", "[I", true)
  | _ => ("HouseInRoom$Tape", "tokens", "I", false)
def tyX3 : Nat → FieldType := fun k => match k with
  | 0 => .array .int
  | 1 => .int
  | 2 => .array .int
  | 3 => .array .int
  | 4 => .array .int
  | _ => .int
abbrev wsX30 : List Cond := u_ws RX3 TX3 6
theorem nmX3 : ∀ a, a < 6 → ∀ b, b < 6 → a ≠ b → (TX3 a).2.1 ≠ (TX3 b).2.1 := by decide +kernel
theorem tyX3_ok : ∀ k, k < 6 → parseFieldDescriptor (TX3 k).2.2.1 = some (tyX3 k) := by decide +kernel
abbrev cX3_init : ByteArray := prog_5_method_1_code
def yX3_init : MethodName := ⟨RX3, "<init>", "()V"⟩
abbrev cX3_append : ByteArray := prog_5_method_2_code
def yX3_append : MethodName := ⟨RX3, "append", "(II)V"⟩
abbrev cX3_split : ByteArray := prog_5_method_3_code
def yX3_split : MethodName := ⟨RX3, "split", "()V"⟩
abbrev cX3_kindAt : ByteArray := prog_5_method_4_code
def yX3_kindAt : MethodName := ⟨RX3, "kindAt", "(I)I"⟩
abbrev cX3_beginAt : ByteArray := prog_5_method_5_code
def yX3_beginAt : MethodName := ⟨RX3, "beginAt", "(I)I"⟩
abbrev cX3_wordAt : ByteArray := prog_5_method_6_code
def yX3_wordAt : MethodName := ⟨RX3, "wordAt", "(I)I"⟩
abbrev cX3_numberAt : ByteArray := prog_5_method_7_code
def yX3_numberAt : MethodName := ⟨RX3, "numberAt", "(I)I"⟩
abbrev cX3_addToken : ByteArray := prog_5_method_8_code
def yX3_addToken : MethodName := ⟨RX3, "addToken", "(III)V"⟩
abbrev cX3_endOf : ByteArray := prog_5_method_9_code
def yX3_endOf : MethodName := ⟨RX3, "endOf", "(I)I"⟩
abbrev cX3_kindOf : ByteArray := prog_5_method_10_code
def yX3_kindOf : MethodName := ⟨RX3, "kindOf", "(I)I"⟩
abbrev cX3_valueOf : ByteArray := prog_5_method_11_code
def yX3_valueOf : MethodName := ⟨RX3, "valueOf", "(III)I"⟩
abbrev cX3_wordIn : ByteArray := prog_5_method_12_code
def yX3_wordIn : MethodName := ⟨RX3, "wordIn", "(II)I"⟩
abbrev cX3_isWordIn : ByteArray := prog_5_method_13_code
def yX3_isWordIn : MethodName := ⟨RX3, "isWordIn", "(Ljava/lang/String;II)Z"⟩
abbrev cX3_numberIn : ByteArray := prog_5_method_14_code
def yX3_numberIn : MethodName := ⟨RX3, "numberIn", "(II)I"⟩
def RX4 : String := "HouseInRoom$TextReader"
def TX4 : u_T := fun k => match k with
  | 0 => ("HouseInRoom$TextReader", "tape", "LHouseInRoom$Tape;", true)
  | 1 => ("HouseInRoom$TextReader", "items", "[I", true)
  | 2 => ("HouseInRoom$TextReader", "count", "I", false)
  | 3 => ("HouseInRoom$TextReader", "at", "I", false)
  | 4 => ("HouseInRoom$TextReader", "things", "I", false)
  | 5 => ("HouseInRoom$TextReader", "people", "I", false)
  | _ => ("HouseInRoom$TextReader", "wrong", "I", false)
def tyX4 : Nat → FieldType := fun k => match k with
  | 0 => .object "HouseInRoom$Tape"
  | 1 => .array .int
  | 2 => .int
  | 3 => .int
  | 4 => .int
  | 5 => .int
  | _ => .int
abbrev wsX40 : List Cond := u_ws RX4 TX4 7
theorem nmX4 : ∀ a, a < 7 → ∀ b, b < 7 → a ≠ b → (TX4 a).2.1 ≠ (TX4 b).2.1 := by decide +kernel
theorem tyX4_ok : ∀ k, k < 7 → parseFieldDescriptor (TX4 k).2.2.1 = some (tyX4 k) := by decide +kernel
abbrev cX4_init : ByteArray := prog_6_method_1_code
def yX4_init : MethodName := ⟨RX4, "<init>", "()V"⟩
abbrev cX4_parse : ByteArray := prog_6_method_2_code
def yX4_parse : MethodName := ⟨RX4, "parse", "(II)I"⟩
abbrev cX4_parseItem : ByteArray := prog_6_method_3_code
def yX4_parseItem : MethodName := ⟨RX4, "parseItem", "()V"⟩
abbrev cX4_parseThing : ByteArray := prog_6_method_4_code
def yX4_parseThing : MethodName := ⟨RX4, "parseThing", "(I)V"⟩
abbrev cX4_parseOne : ByteArray := prog_6_method_5_code
def yX4_parseOne : MethodName := ⟨RX4, "parseOne", "()V"⟩
abbrev cX4_parseDoor : ByteArray := prog_6_method_6_code
def yX4_parseDoor : MethodName := ⟨RX4, "parseDoor", "(I)V"⟩
abbrev cX4_parseRule : ByteArray := prog_6_method_7_code
def yX4_parseRule : MethodName := ⟨RX4, "parseRule", "(II)V"⟩
abbrev cX4_takePerhaps : ByteArray := prog_6_method_8_code
def yX4_takePerhaps : MethodName := ⟨RX4, "takePerhaps", "(IIII)I"⟩
abbrev cX4_takeNumber : ByteArray := prog_6_method_9_code
def yX4_takeNumber : MethodName := ⟨RX4, "takeNumber", "(III)I"⟩
abbrev cX4_takeSign : ByteArray := prog_6_method_10_code
def yX4_takeSign : MethodName := ⟨RX4, "takeSign", "()V"⟩
abbrev cX4_refuse : ByteArray := prog_6_method_11_code
def yX4_refuse : MethodName := ⟨RX4, "refuse", "()V"⟩
abbrev cX4_addItem : ByteArray := prog_6_method_12_code
def yX4_addItem : MethodName := ⟨RX4, "addItem", "(IIII)V"⟩
def RX5 : String := "HouseInRoom$Words"
def TX5 : u_T := fun k => match k with
  | _ => ("", "", "", false)
def tyX5 : Nat → FieldType := fun k => match k with
  | _ => .int
abbrev wsX50 : List Cond := u_ws RX5 TX5 0
theorem nmX5 : ∀ a, a < 0 → ∀ b, b < 0 → a ≠ b → (TX5 a).2.1 ≠ (TX5 b).2.1 := by decide +kernel
theorem tyX5_ok : ∀ k, k < 0 → parseFieldDescriptor (TX5 k).2.2.1 = some (tyX5 k) := by decide +kernel
abbrev cX5_nameOf : ByteArray := prog_7_method_2_code
def yX5_nameOf : MethodName := ⟨RX5, "nameOf", "(I)Ljava/lang/String;"⟩
def RX6 : String := "HouseInRoom$World"
def TX6 : u_T := fun k => match k with
  | 0 => ("HouseInRoom$World", "doors", "[I", true)
  | 1 => ("HouseInRoom$World", "small", "I", false)
  | 2 => ("HouseInRoom$World", "gate", "I", false)
  | 3 => ("HouseInRoom$World", "slip", "I", false)
  | 4 => ("HouseInRoom$World", "things", "I", false)
  | 5 => ("HouseInRoom$World", "kinds", "[I", true)
  | 6 => ("HouseInRoom$World", "rooms", "[I", true)
  | 7 => ("HouseInRoom$World", "bulks", "[I", true)
  | 8 => ("HouseInRoom$World", "people", "I", false)
  | 9 => ("HouseInRoom$World", "places", "[I", true)
  | 10 => ("HouseInRoom$World", "strengths", "[I", true)
  | 11 => ("HouseInRoom$World", "moves", "I", false)
  | 12 => ("HouseInRoom$World", "met", "I", false)
  | 13 => ("HouseInRoom$World", "booked", "I", false)
  | 14 => ("HouseInRoom$World", "books", "[I", true)
  | 15 => ("HouseInRoom$World", "day", "I", false)
  | 16 => ("HouseInRoom$World", "z", "I", false)
  | _ => ("HouseInRoom$World", "spots", "[I", true)
def tyX6 : Nat → FieldType := fun k => match k with
  | 0 => .array .int
  | 1 => .int
  | 2 => .int
  | 3 => .int
  | 4 => .int
  | 5 => .array .int
  | 6 => .array .int
  | 7 => .array .int
  | 8 => .int
  | 9 => .array .int
  | 10 => .array .int
  | 11 => .int
  | 12 => .int
  | 13 => .int
  | 14 => .array .int
  | 15 => .int
  | 16 => .int
  | _ => .array .int
abbrev wsX60 : List Cond := u_ws RX6 TX6 18
theorem nmX6 : ∀ a, a < 18 → ∀ b, b < 18 → a ≠ b → (TX6 a).2.1 ≠ (TX6 b).2.1 := by decide +kernel
theorem tyX6_ok : ∀ k, k < 18 → parseFieldDescriptor (TX6 k).2.2.1 = some (tyX6 k) := by decide +kernel
abbrev cX6_init : ByteArray := prog_8_method_1_code
def yX6_init : MethodName := ⟨RX6, "<init>", "()V"⟩
abbrev cX6_become : ByteArray := prog_8_method_2_code
def yX6_become : MethodName := ⟨RX6, "become", "(LHouseInRoom$World;)V"⟩
abbrev cX6_isOpen : ByteArray := prog_8_method_3_code
def yX6_isOpen : MethodName := ⟨RX6, "isOpen", "(II)Z"⟩
abbrev cX6_setDoor : ByteArray := prog_8_method_4_code
def yX6_setDoor : MethodName := ⟨RX6, "setDoor", "(IIZ)V"⟩
abbrev cX6_setRule : ByteArray := prog_8_method_5_code
def yX6_setRule : MethodName := ⟨RX6, "setRule", "(II)I"⟩
abbrev cX6_addThing : ByteArray := prog_8_method_6_code
def yX6_addThing : MethodName := ⟨RX6, "addThing", "(III)I"⟩
abbrev cX6_partOf : ByteArray := prog_8_method_7_code
def yX6_partOf : MethodName := ⟨RX6, "partOf", "(II)I"⟩
abbrev cX6_setPart : ByteArray := prog_8_method_8_code
def yX6_setPart : MethodName := ⟨RX6, "setPart", "(III)V"⟩
abbrev cX6_weightIn : ByteArray := prog_8_method_9_code
def yX6_weightIn : MethodName := ⟨RX6, "weightIn", "(II)I"⟩
abbrev cX6_weighsSomewhere : ByteArray := prog_8_method_10_code
def yX6_weighsSomewhere : MethodName := ⟨RX6, "weighsSomewhere", "(II)Z"⟩
abbrev cX6_thingsIn : ByteArray := prog_8_method_11_code
def yX6_thingsIn : MethodName := ⟨RX6, "thingsIn", "(I)I"⟩
abbrev cX6_addOne : ByteArray := prog_8_method_12_code
def yX6_addOne : MethodName := ⟨RX6, "addOne", "(II)I"⟩
abbrev cX6_traitOf : ByteArray := prog_8_method_13_code
def yX6_traitOf : MethodName := ⟨RX6, "traitOf", "(II)I"⟩
abbrev cX6_setTrait : ByteArray := prog_8_method_14_code
def yX6_setTrait : MethodName := ⟨RX6, "setTrait", "(III)V"⟩
abbrev cX6_roomOf : ByteArray := prog_8_method_15_code
def yX6_roomOf : MethodName := ⟨RX6, "roomOf", "(I)I"⟩
abbrev cX6_levelOf : ByteArray := prog_8_method_16_code
def yX6_levelOf : MethodName := ⟨RX6, "levelOf", "(I)I"⟩
abbrev cX6_moveTo : ByteArray := prog_8_method_17_code
def yX6_moveTo : MethodName := ⟨RX6, "moveTo", "(II)V"⟩
abbrev cX6_placeInside : ByteArray := prog_8_method_18_code
def yX6_placeInside : MethodName := ⟨RX6, "placeInside", "(I)I"⟩
abbrev cX6_placeOutside : ByteArray := prog_8_method_19_code
def yX6_placeOutside : MethodName := ⟨RX6, "placeOutside", "(I)I"⟩
abbrev cX6_nextPlaces : ByteArray := prog_8_method_20_code
def yX6_nextPlaces : MethodName := ⟨RX6, "nextPlaces", "(J)J"⟩
abbrev cX6_lightLevels : ByteArray := prog_8_method_21_code
def yX6_lightLevels : MethodName := ⟨RX6, "lightLevels", "(II)J"⟩
abbrev cX6_canCarry : ByteArray := prog_8_method_22_code
def yX6_canCarry : MethodName := ⟨RX6, "canCarry", "(II)Z"⟩
abbrev cX6_canReach : ByteArray := prog_8_method_23_code
def yX6_canReach : MethodName := ⟨RX6, "canReach", "(II)Z"⟩
abbrev cX6_canLift : ByteArray := prog_8_method_24_code
def yX6_canLift : MethodName := ⟨RX6, "canLift", "(II)Z"⟩
abbrev cX6_carryOver : ByteArray := prog_8_method_25_code
def yX6_carryOver : MethodName := ⟨RX6, "carryOver", "(III)I"⟩
abbrev cX6_reachOver : ByteArray := prog_8_method_26_code
def yX6_reachOver : MethodName := ⟨RX6, "reachOver", "(III)I"⟩
abbrev cX6_standingIn : ByteArray := prog_8_method_27_code
def yX6_standingIn : MethodName := ⟨RX6, "standingIn", "(I)I"⟩
abbrev cX6_enter : ByteArray := prog_8_method_28_code
def yX6_enter : MethodName := ⟨RX6, "enter", "(IIIII)V"⟩
abbrev cX6_roomsHitBy : ByteArray := prog_8_method_29_code
def yX6_roomsHitBy : MethodName := ⟨RX6, "roomsHitBy", "(II)I"⟩
abbrev cX6_passDays : ByteArray := prog_8_method_30_code
def yX6_passDays : MethodName := ⟨RX6, "passDays", "(I)I"⟩
abbrev cX6_actByDraws : ByteArray := prog_8_method_31_code
def yX6_actByDraws : MethodName := ⟨RX6, "actByDraws", "(I)V"⟩
abbrev cX6_draw : ByteArray := prog_8_method_32_code
def yX6_draw : MethodName := ⟨RX6, "draw", "()I"⟩
abbrev cX6_fullSpots : ByteArray := prog_8_method_33_code
def yX6_fullSpots : MethodName := ⟨RX6, "fullSpots", "()I"⟩
def RX7 : String := "HouseInRoom"
def TX7 : u_T := fun k => match k with
  | 0 => ("HouseInRoom", "world", "LHouseInRoom$World;", true)
  | 1 => ("HouseInRoom", "kept", "LHouseInRoom$World;", true)
  | 2 => ("HouseInRoom", "trial", "LHouseInRoom$World;", true)
  | 3 => ("HouseInRoom", "keeps", "Z", false)
  | 4 => ("HouseInRoom", "search", "LHouseInRoom$Search;", true)
  | 5 => ("HouseInRoom", "reader", "LHouseInRoom$TextReader;", true)
  | 6 => ("HouseInRoom", "sheets", "[LHouseInRoom$Sheet;", true)
  | _ => ("HouseInRoom", "tallies", "[I", true)
def tyX7 : Nat → FieldType := fun k => match k with
  | 0 => .object "HouseInRoom$World"
  | 1 => .object "HouseInRoom$World"
  | 2 => .object "HouseInRoom$World"
  | 3 => .boolean
  | 4 => .object "HouseInRoom$Search"
  | 5 => .object "HouseInRoom$TextReader"
  | 6 => .array (.object "HouseInRoom$Sheet")
  | _ => .array .int
abbrev wsX70 : List Cond := u_ws RX7 TX7 8
theorem nmX7 : ∀ a, a < 8 → ∀ b, b < 8 → a ≠ b → (TX7 a).2.1 ≠ (TX7 b).2.1 := by decide +kernel
theorem tyX7_ok : ∀ k, k < 8 → parseFieldDescriptor (TX7 k).2.2.1 = some (tyX7 k) := by decide +kernel
abbrev cX7_init : ByteArray := prog_1_method_1_code
def yX7_init : MethodName := ⟨RX7, "<init>", "()V"⟩
abbrev cX7_door : ByteArray := prog_1_method_2_code
def yX7_door : MethodName := ⟨RX7, "door", "(III)I"⟩
abbrev cX7_rule : ByteArray := prog_1_method_3_code
def yX7_rule : MethodName := ⟨RX7, "rule", "(II)I"⟩
abbrev cX7_thing : ByteArray := prog_1_method_4_code
def yX7_thing : MethodName := ⟨RX7, "thing", "(II)I"⟩
abbrev cX7_of : ByteArray := prog_1_method_5_code
def yX7_of : MethodName := ⟨RX7, "of", "(II)I"⟩
abbrev cX7_change : ByteArray := prog_1_method_6_code
def yX7_change : MethodName := ⟨RX7, "change", "(III)I"⟩
abbrev cX7_one : ByteArray := prog_1_method_7_code
def yX7_one : MethodName := ⟨RX7, "one", "(I)I"⟩
abbrev cX7_person : ByteArray := prog_1_method_8_code
def yX7_person : MethodName := ⟨RX7, "person", "(III)I"⟩
abbrev cX7_tell : ByteArray := prog_1_method_9_code
def yX7_tell : MethodName := ⟨RX7, "tell", "(II)I"⟩
abbrev cX7_lie : ByteArray := prog_1_method_10_code
def yX7_lie : MethodName := ⟨RX7, "lie", "(I)I"⟩
abbrev cX7_walk : ByteArray := prog_1_method_11_code
def yX7_walk : MethodName := ⟨RX7, "walk", "(II)I"⟩
abbrev cX7_in : ByteArray := prog_1_method_12_code
def yX7_in : MethodName := ⟨RX7, "in", "(I)I"⟩
abbrev cX7_out : ByteArray := prog_1_method_13_code
def yX7_out : MethodName := ⟨RX7, "out", "(I)I"⟩
abbrev cX7_carry : ByteArray := prog_1_method_14_code
def yX7_carry : MethodName := ⟨RX7, "carry", "(III)I"⟩
abbrev cX7_reach : ByteArray := prog_1_method_15_code
def yX7_reach : MethodName := ⟨RX7, "reach", "(III)I"⟩
abbrev cX7_lift : ByteArray := prog_1_method_16_code
def yX7_lift : MethodName := ⟨RX7, "lift", "(III)I"⟩
abbrev cX7_now : ByteArray := prog_1_method_17_code
def yX7_now : MethodName := ⟨RX7, "now", "(I)I"⟩
abbrev cX7_book : ByteArray := prog_1_method_18_code
def yX7_book : MethodName := ⟨RX7, "book", "(II)I"⟩
abbrev cX7_ways : ByteArray := prog_1_method_19_code
def yX7_ways : MethodName := ⟨RX7, "ways", "(I)J"⟩
abbrev cX7_far : ByteArray := prog_1_method_20_code
def yX7_far : MethodName := ⟨RX7, "far", "(II)I"⟩
abbrev cX7_task : ByteArray := prog_1_method_21_code
def yX7_task : MethodName := ⟨RX7, "task", "(III)I"⟩
abbrev cX7_who : ByteArray := prog_1_method_22_code
def yX7_who : MethodName := ⟨RX7, "who", "(II)I"⟩
abbrev cX7_can : ByteArray := prog_1_method_23_code
def yX7_can : MethodName := ⟨RX7, "can", "(II)I"⟩
abbrev cX7_above : ByteArray := prog_1_method_24_code
def yX7_above : MethodName := ⟨RX7, "above", "(II)I"⟩
abbrev cX7_strong : ByteArray := prog_1_method_25_code
def yX7_strong : MethodName := ⟨RX7, "strong", "(III)I"⟩
abbrev cX7_kindFor : ByteArray := prog_1_method_26_code
def yX7_kindFor : MethodName := ⟨RX7, "kindFor", "(III)I"⟩
abbrev cX7_place : ByteArray := prog_1_method_27_code
def yX7_place : MethodName := ⟨RX7, "place", "(III)I"⟩
abbrev cX7_safe : ByteArray := prog_1_method_28_code
def yX7_safe : MethodName := ⟨RX7, "safe", "()I"⟩
abbrev cX7_selves : ByteArray := prog_1_method_29_code
def yX7_selves : MethodName := ⟨RX7, "selves", "()I"⟩
abbrev cX7_agree : ByteArray := prog_1_method_30_code
def yX7_agree : MethodName := ⟨RX7, "agree", "(IIII)I"⟩
abbrev cX7_opens : ByteArray := prog_1_method_31_code
def yX7_opens : MethodName := ⟨RX7, "opens", "(III)I"⟩
abbrev cX7_copies : ByteArray := prog_1_method_32_code
def yX7_copies : MethodName := ⟨RX7, "copies", "(II)J"⟩
abbrev cX7_all : ByteArray := prog_1_method_33_code
def yX7_all : MethodName := ⟨RX7, "all", "(II)J"⟩
abbrev cX7_weight : ByteArray := prog_1_method_34_code
def yX7_weight : MethodName := ⟨RX7, "weight", "(III)J"⟩
abbrev cX7_deep : ByteArray := prog_1_method_35_code
def yX7_deep : MethodName := ⟨RX7, "deep", "(II)I"⟩
abbrev cX7_days : ByteArray := prog_1_method_36_code
def yX7_days : MethodName := ⟨RX7, "days", "(I)I"⟩
abbrev cX7_ahead : ByteArray := prog_1_method_37_code
def yX7_ahead : MethodName := ⟨RX7, "ahead", "(II)I"⟩
abbrev cX7_when : ByteArray := prog_1_method_38_code
def yX7_when : MethodName := ⟨RX7, "when", "(II)I"⟩
abbrev cX7_seed : ByteArray := prog_1_method_39_code
def yX7_seed : MethodName := ⟨RX7, "seed", "(I)I"⟩
abbrev cX7_feed : ByteArray := prog_1_method_40_code
def yX7_feed : MethodName := ⟨RX7, "feed", "(II)I"⟩
abbrev cX7_wipe : ByteArray := prog_1_method_41_code
def yX7_wipe : MethodName := ⟨RX7, "wipe", "()I"⟩
abbrev cX7_text : ByteArray := prog_1_method_42_code
def yX7_text : MethodName := ⟨RX7, "text", "()I"⟩
abbrev cX7_hold : ByteArray := prog_1_method_43_code
def yX7_hold : MethodName := ⟨RX7, "hold", "(II)I"⟩
abbrev cX7_as : ByteArray := prog_1_method_44_code
def yX7_as : MethodName := ⟨RX7, "as", "(II)I"⟩
abbrev cX7_sheet : ByteArray := prog_1_method_45_code
def yX7_sheet : MethodName := ⟨RX7, "sheet", "(III)I"⟩
abbrev cX7_write : ByteArray := prog_1_method_46_code
def yX7_write : MethodName := ⟨RX7, "write", "(III)I"⟩
abbrev cX7_copy : ByteArray := prog_1_method_47_code
def yX7_copy : MethodName := ⟨RX7, "copy", "(IIIII)I"⟩
abbrev cX7_load : ByteArray := prog_1_method_48_code
def yX7_load : MethodName := ⟨RX7, "load", "(I)I"⟩
abbrev cX7_judge : ByteArray := prog_1_method_49_code
def yX7_judge : MethodName := ⟨RX7, "judge", "(II)I"⟩
abbrev cX7_image : ByteArray := prog_1_method_50_code
def yX7_image : MethodName := ⟨RX7, "image", "()I"⟩
abbrev cX7_undo : ByteArray := prog_1_method_51_code
def yX7_undo : MethodName := ⟨RX7, "undo", "()I"⟩
abbrev cX7_tear : ByteArray := prog_1_method_52_code
def yX7_tear : MethodName := ⟨RX7, "tear", "()I"⟩
abbrev cX7_count : ByteArray := prog_1_method_53_code
def yX7_count : MethodName := ⟨RX7, "count", "(I)I"⟩
abbrev cX7_status : ByteArray := prog_1_method_54_code
def yX7_status : MethodName := ⟨RX7, "status", "(I)I"⟩
abbrev cX7_finding : ByteArray := prog_1_method_55_code
def yX7_finding : MethodName := ⟨RX7, "finding", "(I)I"⟩
abbrev cX7_foundOrNone : ByteArray := prog_1_method_56_code
def yX7_foundOrNone : MethodName := ⟨RX7, "foundOrNone", "(I)I"⟩
abbrev cX7_isFewer : ByteArray := prog_1_method_57_code
def yX7_isFewer : MethodName := ⟨RX7, "isFewer", "(II)Z"⟩
abbrev cX7_isWithin : ByteArray := prog_1_method_58_code
def yX7_isWithin : MethodName := ⟨RX7, "isWithin", "(III)Z"⟩
abbrev cX7_isRoom : ByteArray := prog_1_method_59_code
def yX7_isRoom : MethodName := ⟨RX7, "isRoom", "(I)Z"⟩
abbrev cX7_isPlace : ByteArray := prog_1_method_60_code
def yX7_isPlace : MethodName := ⟨RX7, "isPlace", "(I)Z"⟩
abbrev cX7_isKind : ByteArray := prog_1_method_61_code
def yX7_isKind : MethodName := ⟨RX7, "isKind", "(I)Z"⟩
abbrev cX7_isSheet : ByteArray := prog_1_method_62_code
def yX7_isSheet : MethodName := ⟨RX7, "isSheet", "(I)Z"⟩
abbrev cX7_isThing : ByteArray := prog_1_method_63_code
def yX7_isThing : MethodName := ⟨RX7, "isThing", "(I)Z"⟩
abbrev cX7_isOne : ByteArray := prog_1_method_64_code
def yX7_isOne : MethodName := ⟨RX7, "isOne", "(I)Z"⟩
abbrev cX7_isTask : ByteArray := prog_1_method_65_code
def yX7_isTask : MethodName := ⟨RX7, "isTask", "(III)Z"⟩
abbrev cX7_isRoomAndThing : ByteArray := prog_1_method_66_code
def yX7_isRoomAndThing : MethodName := ⟨RX7, "isRoomAndThing", "(I)Z"⟩
abbrev cX7_canBePart : ByteArray := prog_1_method_67_code
def yX7_canBePart : MethodName := ⟨RX7, "canBePart", "(II)Z"⟩
abbrev cX7_goTo : ByteArray := prog_1_method_68_code
def yX7_goTo : MethodName := ⟨RX7, "goTo", "(II)I"⟩
abbrev cX7_stepsWithDoor : ByteArray := prog_1_method_69_code
def yX7_stepsWithDoor : MethodName := ⟨RX7, "stepsWithDoor", "(IIIII)I"⟩
abbrev cX7_makeSo : ByteArray := prog_1_method_70_code
def yX7_makeSo : MethodName := ⟨RX7, "makeSo", "(I)V"⟩
def RX8 : String := "HouseInRoomModel"
def TX8 : u_T := fun k => match k with
  | 0 => ("HouseInRoomModel", "s", "[I", true)
  | 1 => ("HouseInRoomModel", "kept", "[I", true)
  | 2 => ("HouseInRoomModel", "aside", "[I", true)
  | 3 => ("HouseInRoomModel", "isKept", "Z", false)
  | 4 => ("HouseInRoomModel", "tape", "[I", true)
  | 5 => ("HouseInRoomModel", "taped", "I", false)
  | 6 => ("HouseInRoomModel", "found", "[I", true)
  | 7 => ("HouseInRoomModel", "steps", "[I", true)
  | 8 => ("HouseInRoomModel", "queue", "[I", true)
  | 9 => ("HouseInRoomModel", "queued", "I", false)
  | 10 => ("HouseInRoomModel", "done", "I", false)
  | 11 => ("HouseInRoomModel", "best", "I", false)
  | 12 => ("HouseInRoomModel", "fewest", "I", false)
  | 13 => ("HouseInRoomModel", "from", "I", false)
  | 14 => ("HouseInRoomModel", "to", "I", false)
  | 15 => ("HouseInRoomModel", "isWrong", "Z", false)
  | 16 => ("HouseInRoomModel", "bitsOf", "[I", true)
  | 17 => ("HouseInRoomModel", "sizeOf", "[I", true)
  | 18 => ("HouseInRoomModel", "number", "[I", true)
  | _ => ("HouseInRoomModel", "moved", "[I", true)
def tyX8 : Nat → FieldType := fun k => match k with
  | 0 => .array .int
  | 1 => .array .int
  | 2 => .array .int
  | 3 => .boolean
  | 4 => .array .int
  | 5 => .int
  | 6 => .array .int
  | 7 => .array .int
  | 8 => .array .int
  | 9 => .int
  | 10 => .int
  | 11 => .int
  | 12 => .int
  | 13 => .int
  | 14 => .int
  | 15 => .boolean
  | 16 => .array .int
  | 17 => .array .int
  | 18 => .array .int
  | _ => .array .int
abbrev wsX80 : List Cond := u_ws RX8 TX8 20
theorem nmX8 : ∀ a, a < 20 → ∀ b, b < 20 → a ≠ b → (TX8 a).2.1 ≠ (TX8 b).2.1 := by decide +kernel
theorem tyX8_ok : ∀ k, k < 20 → parseFieldDescriptor (TX8 k).2.2.1 = some (tyX8 k) := by decide +kernel
abbrev cX8_init : ByteArray := prog_10_method_1_code
def yX8_init : MethodName := ⟨RX8, "<init>", "()V"⟩
abbrev cX8_become : ByteArray := prog_10_method_2_code
def yX8_become : MethodName := ⟨RX8, "become", "([I[I)V"⟩
abbrev cX8_lends : ByteArray := prog_10_method_3_code
def yX8_lends : MethodName := ⟨RX8, "lends", "()V"⟩
abbrev cX8_laysBack : ByteArray := prog_10_method_4_code
def yX8_laysBack : MethodName := ⟨RX8, "laysBack", "()V"⟩
abbrev cX8_finding : ByteArray := prog_10_method_5_code
def yX8_finding : MethodName := ⟨RX8, "finding", "(I)I"⟩
abbrev cX8_within : ByteArray := prog_10_method_6_code
def yX8_within : MethodName := ⟨RX8, "within", "(JJJ)Z"⟩
abbrev cX8_isRoom : ByteArray := prog_10_method_7_code
def yX8_isRoom : MethodName := ⟨RX8, "isRoom", "(I)Z"⟩
abbrev cX8_isThing : ByteArray := prog_10_method_8_code
def yX8_isThing : MethodName := ⟨RX8, "isThing", "(I)Z"⟩
abbrev cX8_isOne : ByteArray := prog_10_method_9_code
def yX8_isOne : MethodName := ⟨RX8, "isOne", "(I)Z"⟩
abbrev cX8_isKind : ByteArray := prog_10_method_10_code
def yX8_isKind : MethodName := ⟨RX8, "isKind", "(I)Z"⟩
abbrev cX8_isPlace : ByteArray := prog_10_method_11_code
def yX8_isPlace : MethodName := ⟨RX8, "isPlace", "(I)Z"⟩
abbrev cX8_isOpen : ByteArray := prog_10_method_12_code
def yX8_isOpen : MethodName := ⟨RX8, "isOpen", "(II)Z"⟩
abbrev cX8_opensDoor : ByteArray := prog_10_method_13_code
def yX8_opensDoor : MethodName := ⟨RX8, "opensDoor", "(IIZ)V"⟩
abbrev cX8_above : ByteArray := prog_10_method_14_code
def yX8_above : MethodName := ⟨RX8, "above", "(I)I"⟩
abbrev cX8_isUnder : ByteArray := prog_10_method_15_code
def yX8_isUnder : MethodName := ⟨RX8, "isUnder", "(II)Z"⟩
abbrev cX8_heft : ByteArray := prog_10_method_16_code
def yX8_heft : MethodName := ⟨RX8, "heft", "(III)I"⟩
abbrev cX8_weighs : ByteArray := prog_10_method_17_code
def yX8_weighs : MethodName := ⟨RX8, "weighs", "(II)I"⟩
abbrev cX8_roomOf : ByteArray := prog_10_method_18_code
def yX8_roomOf : MethodName := ⟨RX8, "roomOf", "(I)I"⟩
abbrev cX8_levelOf : ByteArray := prog_10_method_19_code
def yX8_levelOf : MethodName := ⟨RX8, "levelOf", "(I)I"⟩
abbrev cX8_door : ByteArray := prog_10_method_20_code
def yX8_door : MethodName := ⟨RX8, "door", "(III)I"⟩
abbrev cX8_rule : ByteArray := prog_10_method_21_code
def yX8_rule : MethodName := ⟨RX8, "rule", "(II)I"⟩
abbrev cX8_lays : ByteArray := prog_10_method_22_code
def yX8_lays : MethodName := ⟨RX8, "lays", "(III)V"⟩
abbrev cX8_thing : ByteArray := prog_10_method_23_code
def yX8_thing : MethodName := ⟨RX8, "thing", "(II)I"⟩
abbrev cX8_of : ByteArray := prog_10_method_24_code
def yX8_of : MethodName := ⟨RX8, "of", "(II)I"⟩
abbrev cX8_change : ByteArray := prog_10_method_25_code
def yX8_change : MethodName := ⟨RX8, "change", "(III)I"⟩
abbrev cX8_comes : ByteArray := prog_10_method_26_code
def yX8_comes : MethodName := ⟨RX8, "comes", "(II)V"⟩
abbrev cX8_one : ByteArray := prog_10_method_27_code
def yX8_one : MethodName := ⟨RX8, "one", "(I)I"⟩
abbrev cX8_person : ByteArray := prog_10_method_28_code
def yX8_person : MethodName := ⟨RX8, "person", "(III)I"⟩
abbrev cX8_tell : ByteArray := prog_10_method_29_code
def yX8_tell : MethodName := ⟨RX8, "tell", "(II)I"⟩
abbrev cX8_lie : ByteArray := prog_10_method_30_code
def yX8_lie : MethodName := ⟨RX8, "lie", "(I)I"⟩
abbrev cX8_canWalk : ByteArray := prog_10_method_31_code
def yX8_canWalk : MethodName := ⟨RX8, "canWalk", "(II)Z"⟩
abbrev cX8_goes : ByteArray := prog_10_method_32_code
def yX8_goes : MethodName := ⟨RX8, "goes", "(III)V"⟩
abbrev cX8_walk : ByteArray := prog_10_method_33_code
def yX8_walk : MethodName := ⟨RX8, "walk", "(II)I"⟩
abbrev cX8_isBefore : ByteArray := prog_10_method_34_code
def yX8_isBefore : MethodName := ⟨RX8, "isBefore", "(I)Z"⟩
abbrev cX8_in : ByteArray := prog_10_method_35_code
def yX8_in : MethodName := ⟨RX8, "in", "(I)I"⟩
abbrev cX8_out : ByteArray := prog_10_method_36_code
def yX8_out : MethodName := ⟨RX8, "out", "(I)I"⟩
abbrev cX8_canCarry : ByteArray := prog_10_method_37_code
def yX8_canCarry : MethodName := ⟨RX8, "canCarry", "(III)Z"⟩
abbrev cX8_canReach : ByteArray := prog_10_method_38_code
def yX8_canReach : MethodName := ⟨RX8, "canReach", "(III)Z"⟩
abbrev cX8_standing : ByteArray := prog_10_method_39_code
def yX8_standing : MethodName := ⟨RX8, "standing", "(II)I"⟩
abbrev cX8_brings : ByteArray := prog_10_method_40_code
def yX8_brings : MethodName := ⟨RX8, "brings", "(IIII)I"⟩
abbrev cX8_carry : ByteArray := prog_10_method_41_code
def yX8_carry : MethodName := ⟨RX8, "carry", "(III)I"⟩
abbrev cX8_reach : ByteArray := prog_10_method_42_code
def yX8_reach : MethodName := ⟨RX8, "reach", "(III)I"⟩
abbrev cX8_lift : ByteArray := prog_10_method_43_code
def yX8_lift : MethodName := ⟨RX8, "lift", "(III)I"⟩
abbrev cX8_now : ByteArray := prog_10_method_44_code
def yX8_now : MethodName := ⟨RX8, "now", "(I)I"⟩
abbrev cX8_book : ByteArray := prog_10_method_45_code
def yX8_book : MethodName := ⟨RX8, "book", "(II)I"⟩
abbrev cX8_finds : ByteArray := prog_10_method_46_code
def yX8_finds : MethodName := ⟨RX8, "finds", "(III)V"⟩
abbrev cX8_stepsFrom : ByteArray := prog_10_method_47_code
def yX8_stepsFrom : MethodName := ⟨RX8, "stepsFrom", "(IIZIII)V"⟩
abbrev cX8_walksAll : ByteArray := prog_10_method_48_code
def yX8_walksAll : MethodName := ⟨RX8, "walksAll", "(IIZ)V"⟩
abbrev cX8_ways : ByteArray := prog_10_method_49_code
def yX8_ways : MethodName := ⟨RX8, "ways", "(I)J"⟩
abbrev cX8_orNone : ByteArray := prog_10_method_50_code
def yX8_orNone : MethodName := ⟨RX8, "orNone", "(I)I"⟩
abbrev cX8_far : ByteArray := prog_10_method_51_code
def yX8_far : MethodName := ⟨RX8, "far", "(II)I"⟩
abbrev cX8_leastFor : ByteArray := prog_10_method_52_code
def yX8_leastFor : MethodName := ⟨RX8, "leastFor", "(I)I"⟩
abbrev cX8_stepsOf : ByteArray := prog_10_method_53_code
def yX8_stepsOf : MethodName := ⟨RX8, "stepsOf", "(III)I"⟩
abbrev cX8_isTask : ByteArray := prog_10_method_54_code
def yX8_isTask : MethodName := ⟨RX8, "isTask", "(III)Z"⟩
abbrev cX8_task : ByteArray := prog_10_method_55_code
def yX8_task : MethodName := ⟨RX8, "task", "(III)I"⟩
abbrev cX8_begins : ByteArray := prog_10_method_56_code
def yX8_begins : MethodName := ⟨RX8, "begins", "()V"⟩
abbrev cX8_tries : ByteArray := prog_10_method_57_code
def yX8_tries : MethodName := ⟨RX8, "tries", "(II)V"⟩
abbrev cX8_who : ByteArray := prog_10_method_58_code
def yX8_who : MethodName := ⟨RX8, "who", "(II)I"⟩
abbrev cX8_roomsFor : ByteArray := prog_10_method_59_code
def yX8_roomsFor : MethodName := ⟨RX8, "roomsFor", "(IIZ)I"⟩
abbrev cX8_can : ByteArray := prog_10_method_60_code
def yX8_can : MethodName := ⟨RX8, "can", "(II)I"⟩
abbrev cX8_above_ : ByteArray := prog_10_method_61_code
def yX8_above_ : MethodName := ⟨RX8, "above", "(II)I"⟩
abbrev cX8_strong : ByteArray := prog_10_method_62_code
def yX8_strong : MethodName := ⟨RX8, "strong", "(III)I"⟩
abbrev cX8_kindFor : ByteArray := prog_10_method_63_code
def yX8_kindFor : MethodName := ⟨RX8, "kindFor", "(III)I"⟩
abbrev cX8_place : ByteArray := prog_10_method_64_code
def yX8_place : MethodName := ⟨RX8, "place", "(III)I"⟩
abbrev cX8_isSafe : ByteArray := prog_10_method_65_code
def yX8_isSafe : MethodName := ⟨RX8, "isSafe", "(I)Z"⟩
abbrev cX8_safe : ByteArray := prog_10_method_66_code
def yX8_safe : MethodName := ⟨RX8, "safe", "()I"⟩
abbrev cX8_selves : ByteArray := prog_10_method_67_code
def yX8_selves : MethodName := ⟨RX8, "selves", "()I"⟩
abbrev cX8_reaches : ByteArray := prog_10_method_68_code
def yX8_reaches : MethodName := ⟨RX8, "reaches", "(II)V"⟩
abbrev cX8_isReach : ByteArray := prog_10_method_69_code
def yX8_isReach : MethodName := ⟨RX8, "isReach", "(I)Z"⟩
abbrev cX8_agree : ByteArray := prog_10_method_70_code
def yX8_agree : MethodName := ⟨RX8, "agree", "(IIII)I"⟩
abbrev cX8_opens : ByteArray := prog_10_method_71_code
def yX8_opens : MethodName := ⟨RX8, "opens", "(III)I"⟩
abbrev cX8_power : ByteArray := prog_10_method_72_code
def yX8_power : MethodName := ⟨RX8, "power", "(II)J"⟩
abbrev cX8_isHouses : ByteArray := prog_10_method_73_code
def yX8_isHouses : MethodName := ⟨RX8, "isHouses", "(III)Z"⟩
abbrev cX8_copies : ByteArray := prog_10_method_74_code
def yX8_copies : MethodName := ⟨RX8, "copies", "(II)J"⟩
abbrev cX8_all : ByteArray := prog_10_method_75_code
def yX8_all : MethodName := ⟨RX8, "all", "(II)J"⟩
abbrev cX8_divisor : ByteArray := prog_10_method_76_code
def yX8_divisor : MethodName := ⟨RX8, "divisor", "(JJ)J"⟩
abbrev cX8_weight : ByteArray := prog_10_method_77_code
def yX8_weight : MethodName := ⟨RX8, "weight", "(III)J"⟩
abbrev cX8_deep : ByteArray := prog_10_method_78_code
def yX8_deep : MethodName := ⟨RX8, "deep", "(II)I"⟩
abbrev cX8_draw : ByteArray := prog_10_method_79_code
def yX8_draw : MethodName := ⟨RX8, "draw", "()I"⟩
abbrev cX8_dayOf : ByteArray := prog_10_method_80_code
def yX8_dayOf : MethodName := ⟨RX8, "dayOf", "(I)V"⟩
abbrev cX8_aDay : ByteArray := prog_10_method_81_code
def yX8_aDay : MethodName := ⟨RX8, "aDay", "()V"⟩
abbrev cX8_daysGo : ByteArray := prog_10_method_82_code
def yX8_daysGo : MethodName := ⟨RX8, "daysGo", "(I)I"⟩
abbrev cX8_days : ByteArray := prog_10_method_83_code
def yX8_days : MethodName := ⟨RX8, "days", "(I)I"⟩
abbrev cX8_ahead : ByteArray := prog_10_method_84_code
def yX8_ahead : MethodName := ⟨RX8, "ahead", "(II)I"⟩
abbrev cX8_when : ByteArray := prog_10_method_85_code
def yX8_when : MethodName := ⟨RX8, "when", "(II)I"⟩
abbrev cX8_seed : ByteArray := prog_10_method_86_code
def yX8_seed : MethodName := ⟨RX8, "seed", "(I)I"⟩
abbrev cX8_feed : ByteArray := prog_10_method_87_code
def yX8_feed : MethodName := ⟨RX8, "feed", "(II)I"⟩
abbrev cX8_wipe : ByteArray := prog_10_method_88_code
def yX8_wipe : MethodName := ⟨RX8, "wipe", "()I"⟩
abbrev cX8_isByte : ByteArray := prog_10_method_89_code
def yX8_isByte : MethodName := ⟨RX8, "isByte", "(III)Z"⟩
abbrev cX8_next : ByteArray := prog_10_method_90_code
def yX8_next : MethodName := ⟨RX8, "next", "()V"⟩
abbrev cX8_isWord : ByteArray := prog_10_method_91_code
def yX8_isWord : MethodName := ⟨RX8, "isWord", "(Ljava/lang/String;)Z"⟩
abbrev cX8_takes : ByteArray := prog_10_method_92_code
def yX8_takes : MethodName := ⟨RX8, "takes", "(Ljava/lang/String;)Z"⟩
abbrev cX8_numberHere : ByteArray := prog_10_method_94_code
def yX8_numberHere : MethodName := ⟨RX8, "numberHere", "()I"⟩
abbrev cX8_number : ByteArray := prog_10_method_95_code
def yX8_number : MethodName := ⟨RX8, "number", "(I)I"⟩
abbrev cX8_wordOf : ByteArray := prog_10_method_96_code
def yX8_wordOf : MethodName := ⟨RX8, "wordOf", "(I)Ljava/lang/String;"⟩
abbrev cX8_kindHere : ByteArray := prog_10_method_97_code
def yX8_kindHere : MethodName := ⟨RX8, "kindHere", "()I"⟩
abbrev cX8_perhaps : ByteArray := prog_10_method_98_code
def yX8_perhaps : MethodName := ⟨RX8, "perhaps", "(Ljava/lang/String;III)I"⟩
abbrev cX8_thingTold : ByteArray := prog_10_method_99_code
def yX8_thingTold : MethodName := ⟨RX8, "thingTold", "(I)V"⟩
abbrev cX8_oneTold : ByteArray := prog_10_method_100_code
def yX8_oneTold : MethodName := ⟨RX8, "oneTold", "()V"⟩
abbrev cX8_doorTold : ByteArray := prog_10_method_101_code
def yX8_doorTold : MethodName := ⟨RX8, "doorTold", "(Z)V"⟩
abbrev cX8_ruleTold : ByteArray := prog_10_method_102_code
def yX8_ruleTold : MethodName := ⟨RX8, "ruleTold", "(II)V"⟩
abbrev cX8_item : ByteArray := prog_10_method_103_code
def yX8_item : MethodName := ⟨RX8, "item", "()V"⟩
abbrev cX8_text : ByteArray := prog_10_method_104_code
def yX8_text : MethodName := ⟨RX8, "text", "()I"⟩
abbrev cX8_hold : ByteArray := prog_10_method_105_code
def yX8_hold : MethodName := ⟨RX8, "hold", "(II)I"⟩
abbrev cX8_as : ByteArray := prog_10_method_106_code
def yX8_as : MethodName := ⟨RX8, "as", "(II)I"⟩
abbrev cX8_isSheet : ByteArray := prog_10_method_107_code
def yX8_isSheet : MethodName := ⟨RX8, "isSheet", "(I)Z"⟩
abbrev cX8_cut : ByteArray := prog_10_method_108_code
def yX8_cut : MethodName := ⟨RX8, "cut", "(II)I"⟩
abbrev cX8_sheet : ByteArray := prog_10_method_109_code
def yX8_sheet : MethodName := ⟨RX8, "sheet", "(III)I"⟩
abbrev cX8_lacksOf : ByteArray := prog_10_method_110_code
def yX8_lacksOf : MethodName := ⟨RX8, "lacksOf", "(I)I"⟩
abbrev cX8_write : ByteArray := prog_10_method_111_code
def yX8_write : MethodName := ⟨RX8, "write", "(III)I"⟩
abbrev cX8_copy : ByteArray := prog_10_method_112_code
def yX8_copy : MethodName := ⟨RX8, "copy", "(IIIII)I"⟩
abbrev cX8_load : ByteArray := prog_10_method_113_code
def yX8_load : MethodName := ⟨RX8, "load", "(I)I"⟩
abbrev cX8_isStep : ByteArray := prog_10_method_114_code
def yX8_isStep : MethodName := ⟨RX8, "isStep", "(II)Z"⟩
abbrev cX8_judge : ByteArray := prog_10_method_115_code
def yX8_judge : MethodName := ⟨RX8, "judge", "(II)I"⟩
abbrev cX8_image : ByteArray := prog_10_method_116_code
def yX8_image : MethodName := ⟨RX8, "image", "()I"⟩
abbrev cX8_undo : ByteArray := prog_10_method_117_code
def yX8_undo : MethodName := ⟨RX8, "undo", "()I"⟩
abbrev cX8_tear : ByteArray := prog_10_method_118_code
def yX8_tear : MethodName := ⟨RX8, "tear", "()I"⟩
abbrev cX8_holding : ByteArray := prog_10_method_119_code
def yX8_holding : MethodName := ⟨RX8, "holding", "()I"⟩
abbrev cX8_count : ByteArray := prog_10_method_120_code
def yX8_count : MethodName := ⟨RX8, "count", "(I)I"⟩
abbrev cX8_status : ByteArray := prog_10_method_121_code
def yX8_status : MethodName := ⟨RX8, "status", "(I)I"⟩
def RJx145de : String := "java/io/Serializable"
def TJx145de : u_T := fun k => match k with
  | _ => ("", "", "", false)
def tyJx145de : Nat → FieldType := fun k => match k with
  | _ => .int
theorem nmJx145de : ∀ a, a < 0 → ∀ b, b < 0 → a ≠ b → (TJx145de a).2.1 ≠ (TJx145de b).2.1 := by decide +kernel
theorem tyJx145de_ok : ∀ k, k < 0 → parseFieldDescriptor (TJx145de k).2.2.1 = some (tyJx145de k) := by decide +kernel
def RJx9f9b0 : String := "java/lang/CharSequence"
def TJx9f9b0 : u_T := fun k => match k with
  | _ => ("", "", "", false)
def tyJx9f9b0 : Nat → FieldType := fun k => match k with
  | _ => .int
theorem nmJx9f9b0 : ∀ a, a < 0 → ∀ b, b < 0 → a ≠ b → (TJx9f9b0 a).2.1 ≠ (TJx9f9b0 b).2.1 := by decide +kernel
theorem tyJx9f9b0_ok : ∀ k, k < 0 → parseFieldDescriptor (TJx9f9b0 k).2.2.1 = some (tyJx9f9b0 k) := by decide +kernel
def RJxb160c : String := "java/lang/Comparable"
def TJxb160c : u_T := fun k => match k with
  | _ => ("", "", "", false)
def tyJxb160c : Nat → FieldType := fun k => match k with
  | _ => .int
theorem nmJxb160c : ∀ a, a < 0 → ∀ b, b < 0 → a ≠ b → (TJxb160c a).2.1 ≠ (TJxb160c b).2.1 := by decide +kernel
theorem tyJxb160c_ok : ∀ k, k < 0 → parseFieldDescriptor (TJxb160c k).2.2.1 = some (tyJxb160c k) := by decide +kernel
def RJ9 : String := "java/lang/Math"
def TJ9 : u_T := fun k => match k with
  | _ => ("", "", "", false)
def tyJ9 : Nat → FieldType := fun k => match k with
  | _ => .int
theorem nmJ9 : ∀ a, a < 0 → ∀ b, b < 0 → a ≠ b → (TJ9 a).2.1 ≠ (TJ9 b).2.1 := by decide +kernel
theorem tyJ9_ok : ∀ k, k < 0 → parseFieldDescriptor (TJ9 k).2.2.1 = some (tyJ9 k) := by decide +kernel
abbrev cJ9_min_7cf53 : ByteArray := prog_11_method_69_code
def yJ9_min_7cf53 : MethodName := ⟨RJ9, "min", "(II)I"⟩
def RJ0 : String := "java/lang/String"
def TJ0 : u_T := fun k => match k with
  | _ => ("", "", "", false)
def tyJ0 : Nat → FieldType := fun k => match k with
  | _ => .int
theorem nmJ0 : ∀ a, a < 0 → ∀ b, b < 0 → a ≠ b → (TJ0 a).2.1 ≠ (TJ0 b).2.1 := by decide +kernel
theorem tyJ0_ok : ∀ k, k < 0 → parseFieldDescriptor (TJ0 k).2.2.1 = some (tyJ0 k) := by decide +kernel
abbrev cJ0_length_8abf5 : ByteArray := prog_12_method_54_code
def yJ0_length_8abf5 : MethodName := ⟨RJ0, "length", "()I"⟩
abbrev cJ0_charAt_5068e : ByteArray := prog_12_method_56_code
def yJ0_charAt_5068e : MethodName := ⟨RJ0, "charAt", "(I)C"⟩
abbrev cJ0_coder_7d493 : ByteArray := prog_12_method_152_code
def yJ0_coder_7d493 : MethodName := ⟨RJ0, "coder", "()B"⟩
abbrev cJ0_isLatin1_aae02 : ByteArray := prog_12_method_154_code
def yJ0_isLatin1_aae02 : MethodName := ⟨RJ0, "isLatin1", "()Z"⟩
abbrev cJ0_checkIndex_df160 : ByteArray := prog_12_method_155_code
def yJ0_checkIndex_df160 : MethodName := ⟨RJ0, "checkIndex", "(II)V"⟩
def RJ1 : String := "java/lang/StringLatin1"
def TJ1 : u_T := fun k => match k with
  | _ => ("", "", "", false)
def tyJ1 : Nat → FieldType := fun k => match k with
  | _ => .int
theorem nmJ1 : ∀ a, a < 0 → ∀ b, b < 0 → a ≠ b → (TJ1 a).2.1 ≠ (TJ1 b).2.1 := by decide +kernel
theorem tyJ1_ok : ∀ k, k < 0 → parseFieldDescriptor (TJ1 k).2.2.1 = some (tyJ1 k) := by decide +kernel
abbrev cJ1_charAt_3b067 : ByteArray := prog_13_method_2_code
def yJ1_charAt_3b067 : MethodName := ⟨RJ1, "charAt", "([BI)C"⟩
def RJ2 : String := "java/lang/StringUTF16"
def TJ2 : u_T := fun k => match k with
  | _ => ("", "", "", false)
def tyJ2 : Nat → FieldType := fun k => match k with
  | _ => .int
theorem nmJ2 : ∀ a, a < 0 → ∀ b, b < 0 → a ≠ b → (TJ2 a).2.1 ≠ (TJ2 b).2.1 := by decide +kernel
theorem tyJ2_ok : ∀ k, k < 0 → parseFieldDescriptor (TJ2 k).2.2.1 = some (tyJ2 k) := by decide +kernel
abbrev cJ2_getChar_3b067 : ByteArray := prog_14_method_5_code
def yJ2_getChar_3b067 : MethodName := ⟨RJ2, "getChar", "([BI)C"⟩
abbrev cJ2_length_9d52b : ByteArray := prog_14_method_6_code
def yJ2_length_9d52b : MethodName := ⟨RJ2, "length", "([B)I"⟩
abbrev cJ2_charAt_3b067 : ByteArray := prog_14_method_83_code
def yJ2_charAt_3b067 : MethodName := ⟨RJ2, "charAt", "([BI)C"⟩
abbrev cJ2_checkIndex_2214a : ByteArray := prog_14_method_91_code
def yJ2_checkIndex_2214a : MethodName := ⟨RJ2, "checkIndex", "(I[B)V"⟩
def RJ10 : String := "java/lang/System"
def TJ10 : u_T := fun k => match k with
  | _ => ("", "", "", false)
def tyJ10 : Nat → FieldType := fun k => match k with
  | _ => .int
theorem nmJ10 : ∀ a, a < 0 → ∀ b, b < 0 → a ≠ b → (TJ10 a).2.1 ≠ (TJ10 b).2.1 := by decide +kernel
theorem tyJ10_ok : ∀ k, k < 0 → parseFieldDescriptor (TJ10 k).2.2.1 = some (tyJ10 k) := by decide +kernel
def RJxfd54e : String := "java/lang/constant/Constable"
def TJxfd54e : u_T := fun k => match k with
  | _ => ("", "", "", false)
def tyJxfd54e : Nat → FieldType := fun k => match k with
  | _ => .int
theorem nmJxfd54e : ∀ a, a < 0 → ∀ b, b < 0 → a ≠ b → (TJxfd54e a).2.1 ≠ (TJxfd54e b).2.1 := by decide +kernel
theorem tyJxfd54e_ok : ∀ k, k < 0 → parseFieldDescriptor (TJxfd54e k).2.2.1 = some (tyJxfd54e k) := by decide +kernel
def RJx3cf43 : String := "java/lang/constant/ConstantDesc"
def TJx3cf43 : u_T := fun k => match k with
  | _ => ("", "", "", false)
def tyJx3cf43 : Nat → FieldType := fun k => match k with
  | _ => .int
theorem nmJx3cf43 : ∀ a, a < 0 → ∀ b, b < 0 → a ≠ b → (TJx3cf43 a).2.1 ≠ (TJx3cf43 b).2.1 := by decide +kernel
theorem tyJx3cf43_ok : ∀ k, k < 0 → parseFieldDescriptor (TJx3cf43 k).2.2.1 = some (tyJx3cf43 k) := by decide +kernel
def RJ7 : String := "java/util/Arrays"
def TJ7 : u_T := fun k => match k with
  | _ => ("", "", "", false)
def tyJ7 : Nat → FieldType := fun k => match k with
  | _ => .int
theorem nmJ7 : ∀ a, a < 0 → ∀ b, b < 0 → a ≠ b → (TJ7 a).2.1 ≠ (TJ7 b).2.1 := by decide +kernel
theorem tyJ7_ok : ∀ k, k < 0 → parseFieldDescriptor (TJ7 k).2.2.1 = some (tyJ7 k) := by decide +kernel
abbrev cJ7_fill_d0a16 : ByteArray := prog_16_method_101_code
def yJ7_fill_d0a16 : MethodName := ⟨RJ7, "fill", "([JJ)V"⟩
abbrev cJ7_fill_53178 : ByteArray := prog_16_method_103_code
def yJ7_fill_53178 : MethodName := ⟨RJ7, "fill", "([II)V"⟩
def RJ3 : String := "jdk/internal/util/Preconditions"
def TJ3 : u_T := fun k => match k with
  | _ => ("", "", "", false)
def tyJ3 : Nat → FieldType := fun k => match k with
  | _ => .int
theorem nmJ3 : ∀ a, a < 0 → ∀ b, b < 0 → a ≠ b → (TJ3 a).2.1 ≠ (TJ3 b).2.1 := by decide +kernel
theorem tyJ3_ok : ∀ k, k < 0 → parseFieldDescriptor (TJ3 k).2.2.1 = some (tyJ3 k) := by decide +kernel
abbrev cJ3_checkIndex_8e157 : ByteArray := prog_17_method_11_code
def yJ3_checkIndex_8e157 : MethodName := ⟨RJ3, "checkIndex", "(IILjava/util/function/BiFunction;)I"⟩
def RL : String := "HouseInRoomLaw"
abbrev cL_law : ByteArray := code
def yL_law : MethodName := ⟨RL, "law", "([I)Z"⟩
abbrev vwCl : List vw_C := [(RX1, TX1, 4), (RX2, TX2, 3), (RX3, TX3, 6), (RX4, TX4, 7), (RX6, TX6, 18), (RX7, TX7, 8), (RX8, TX8, 20)]
