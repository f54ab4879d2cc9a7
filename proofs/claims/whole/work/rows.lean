section
-- ===== PART A: goes FIRST, ahead of the names: the tables' words, and 'selects' of the private methods out of them =====
/-- a private method of a class that the tables say can be made, by its rows of tables_1 -/
def lw_okq (q : MethodName × Nat) : Prop := (q.1.cls ≠ "java/lang/invoke/MethodHandle" ∧ q.1.cls ≠ "java/lang/invoke/VarHandle") ∧ Cond.instantiable q.1.cls q.2 ∈ tables_1 ∧ Cond.privateMethod q.1 ∈ tables_1 ∧ Cond.instanceMethod q.1 ∈ tables_1
theorem lw_p0 : lw_okq (⟨"RoomRings$Text", "peek", "()I"⟩, 6) := ⟨⟨by decide +kernel, by decide +kernel⟩, List.mem_of_getElem? (i := 23) (by decide +kernel), List.mem_of_getElem? (i := 265) (by decide +kernel), List.mem_of_getElem? (i := 266) (by decide +kernel)⟩
theorem lw_p1 : lw_okq (⟨"RoomRings$Text", "readRooms", "(LRoomRings$House;)V"⟩, 6) := ⟨⟨by decide +kernel, by decide +kernel⟩, List.mem_of_getElem? (i := 23) (by decide +kernel), List.mem_of_getElem? (i := 269) (by decide +kernel), List.mem_of_getElem? (i := 270) (by decide +kernel)⟩
theorem lw_p2 : lw_okq (⟨"RoomRings$Text", "expect", "(I)V"⟩, 6) := ⟨⟨by decide +kernel, by decide +kernel⟩, List.mem_of_getElem? (i := 23) (by decide +kernel), List.mem_of_getElem? (i := 273) (by decide +kernel), List.mem_of_getElem? (i := 274) (by decide +kernel)⟩
theorem lw_p3 : lw_okq (⟨"RoomRings$Text", "fail", "(II)V"⟩, 6) := ⟨⟨by decide +kernel, by decide +kernel⟩, List.mem_of_getElem? (i := 23) (by decide +kernel), List.mem_of_getElem? (i := 277) (by decide +kernel), List.mem_of_getElem? (i := 278) (by decide +kernel)⟩
theorem lw_p4 : lw_okq (⟨"RoomRings$Text", "readNumber", "()I"⟩, 6) := ⟨⟨by decide +kernel, by decide +kernel⟩, List.mem_of_getElem? (i := 23) (by decide +kernel), List.mem_of_getElem? (i := 281) (by decide +kernel), List.mem_of_getElem? (i := 282) (by decide +kernel)⟩
theorem lw_p5 : lw_okq (⟨"RoomRings$Text", "readClause", "(LRoomRings$House;)V"⟩, 6) := ⟨⟨by decide +kernel, by decide +kernel⟩, List.mem_of_getElem? (i := 23) (by decide +kernel), List.mem_of_getElem? (i := 291) (by decide +kernel), List.mem_of_getElem? (i := 292) (by decide +kernel)⟩
theorem lw_p6 : lw_okq (⟨"RoomRings$Text", "checkWord", "(II)V"⟩, 6) := ⟨⟨by decide +kernel, by decide +kernel⟩, List.mem_of_getElem? (i := 23) (by decide +kernel), List.mem_of_getElem? (i := 295) (by decide +kernel), List.mem_of_getElem? (i := 296) (by decide +kernel)⟩
theorem lw_p7 : lw_okq (⟨"RoomRings$Text", "readSeat", "(LRoomRings$House;I)V"⟩, 6) := ⟨⟨by decide +kernel, by decide +kernel⟩, List.mem_of_getElem? (i := 23) (by decide +kernel), List.mem_of_getElem? (i := 307) (by decide +kernel), List.mem_of_getElem? (i := 308) (by decide +kernel)⟩
theorem lw_p8 : lw_okq (⟨"RoomRings$Text", "readRoom", "(LRoomRings$House;)I"⟩, 6) := ⟨⟨by decide +kernel, by decide +kernel⟩, List.mem_of_getElem? (i := 23) (by decide +kernel), List.mem_of_getElem? (i := 311) (by decide +kernel), List.mem_of_getElem? (i := 312) (by decide +kernel)⟩
theorem lw_p9 : lw_okq (⟨"RoomRings$Text", "readLiking", "(LRoomRings$House;I)V"⟩, 6) := ⟨⟨by decide +kernel, by decide +kernel⟩, List.mem_of_getElem? (i := 23) (by decide +kernel), List.mem_of_getElem? (i := 328) (by decide +kernel), List.mem_of_getElem? (i := 329) (by decide +kernel)⟩
theorem lw_p10 : lw_okq (⟨"RoomRings", "dealt", "()LRoomRings$Dealing;"⟩, 9) := ⟨⟨by decide +kernel, by decide +kernel⟩, List.mem_of_getElem? (i := 15) (by decide +kernel), List.mem_of_getElem? (i := 367) (by decide +kernel), List.mem_of_getElem? (i := 368) (by decide +kernel)⟩
theorem lw_p11 : lw_okq (⟨"RoomRings$Dealing", "aim", "(LRoomRings$House;)V"⟩, 8) := ⟨⟨by decide +kernel, by decide +kernel⟩, List.mem_of_getElem? (i := 84) (by decide +kernel), List.mem_of_getElem? (i := 378) (by decide +kernel), List.mem_of_getElem? (i := 379) (by decide +kernel)⟩
theorem lw_p12 : lw_okq (⟨"RoomRings$Dealing", "finish", "(III)V"⟩, 8) := ⟨⟨by decide +kernel, by decide +kernel⟩, List.mem_of_getElem? (i := 84) (by decide +kernel), List.mem_of_getElem? (i := 394) (by decide +kernel), List.mem_of_getElem? (i := 395) (by decide +kernel)⟩
theorem lw_p13 : lw_okq (⟨"RoomRings$Dealing", "follow", "(LRoomRings$House;)V"⟩, 8) := ⟨⟨by decide +kernel, by decide +kernel⟩, List.mem_of_getElem? (i := 84) (by decide +kernel), List.mem_of_getElem? (i := 401) (by decide +kernel), List.mem_of_getElem? (i := 402) (by decide +kernel)⟩
theorem lw_p14 : lw_okq (⟨"RoomRings$Dealing", "closeRings", "(LRoomRings$House;)V"⟩, 8) := ⟨⟨by decide +kernel, by decide +kernel⟩, List.mem_of_getElem? (i := 84) (by decide +kernel), List.mem_of_getElem? (i := 411) (by decide +kernel), List.mem_of_getElem? (i := 412) (by decide +kernel)⟩
theorem lw_p15 : lw_okq (⟨"RoomRings$Dealing", "ringFrom", "(I)I"⟩, 8) := ⟨⟨by decide +kernel, by decide +kernel⟩, List.mem_of_getElem? (i := 84) (by decide +kernel), List.mem_of_getElem? (i := 415) (by decide +kernel), List.mem_of_getElem? (i := 416) (by decide +kernel)⟩
def lw_privs_1 : List (MethodName × Nat) := [(⟨"RoomRings$Text", "peek", "()I"⟩, 6), (⟨"RoomRings$Text", "readRooms", "(LRoomRings$House;)V"⟩, 6), (⟨"RoomRings$Text", "expect", "(I)V"⟩, 6), (⟨"RoomRings$Text", "fail", "(II)V"⟩, 6), (⟨"RoomRings$Text", "readNumber", "()I"⟩, 6), (⟨"RoomRings$Text", "readClause", "(LRoomRings$House;)V"⟩, 6), (⟨"RoomRings$Text", "checkWord", "(II)V"⟩, 6), (⟨"RoomRings$Text", "readSeat", "(LRoomRings$House;I)V"⟩, 6), (⟨"RoomRings$Text", "readRoom", "(LRoomRings$House;)I"⟩, 6), (⟨"RoomRings$Text", "readLiking", "(LRoomRings$House;I)V"⟩, 6), (⟨"RoomRings", "dealt", "()LRoomRings$Dealing;"⟩, 9), (⟨"RoomRings$Dealing", "aim", "(LRoomRings$House;)V"⟩, 8), (⟨"RoomRings$Dealing", "finish", "(III)V"⟩, 8), (⟨"RoomRings$Dealing", "follow", "(LRoomRings$House;)V"⟩, 8), (⟨"RoomRings$Dealing", "closeRings", "(LRoomRings$House;)V"⟩, 8), (⟨"RoomRings$Dealing", "ringFrom", "(I)I"⟩, 8)]
theorem lw_r1 : ∀ q ∈ lw_privs_1, lw_okq q := List.forall_mem_cons.mpr ⟨lw_p0, List.forall_mem_cons.mpr ⟨lw_p1, List.forall_mem_cons.mpr ⟨lw_p2, List.forall_mem_cons.mpr ⟨lw_p3, List.forall_mem_cons.mpr ⟨lw_p4, List.forall_mem_cons.mpr ⟨lw_p5, List.forall_mem_cons.mpr ⟨lw_p6, List.forall_mem_cons.mpr ⟨lw_p7, List.forall_mem_cons.mpr ⟨lw_p8, List.forall_mem_cons.mpr ⟨lw_p9, List.forall_mem_cons.mpr ⟨lw_p10, List.forall_mem_cons.mpr ⟨lw_p11, List.forall_mem_cons.mpr ⟨lw_p12, List.forall_mem_cons.mpr ⟨lw_p13, List.forall_mem_cons.mpr ⟨lw_p14, List.forall_mem_cons.mpr ⟨lw_p15, fun _ h => absurd h List.not_mem_nil⟩⟩⟩⟩⟩⟩⟩⟩⟩⟩⟩⟩⟩⟩⟩⟩
theorem lw_p16 : lw_okq (⟨"RoomRings", "weighed", "()LRoomRings$Bartering;"⟩, 9) := ⟨⟨by decide +kernel, by decide +kernel⟩, List.mem_of_getElem? (i := 15) (by decide +kernel), List.mem_of_getElem? (i := 433) (by decide +kernel), List.mem_of_getElem? (i := 434) (by decide +kernel)⟩
theorem lw_p17 : lw_okq (⟨"RoomRings$Bartering", "whomEnvies", "(LRoomRings$House;I)I"⟩, 3) := ⟨⟨by decide +kernel, by decide +kernel⟩, List.mem_of_getElem? (i := 117) (by decide +kernel), List.mem_of_getElem? (i := 446) (by decide +kernel), List.mem_of_getElem? (i := 447) (by decide +kernel)⟩
theorem lw_p18 : lw_okq (⟨"RoomRings$Bartering", "hasRing", "(I)Z"⟩, 3) := ⟨⟨by decide +kernel, by decide +kernel⟩, List.mem_of_getElem? (i := 117) (by decide +kernel), List.mem_of_getElem? (i := 455) (by decide +kernel), List.mem_of_getElem? (i := 456) (by decide +kernel)⟩
theorem lw_p19 : lw_okq (⟨"RoomRings", "chosenByLot", "(I)I"⟩, 9) := ⟨⟨by decide +kernel, by decide +kernel⟩, List.mem_of_getElem? (i := 15) (by decide +kernel), List.mem_of_getElem? (i := 498) (by decide +kernel), List.mem_of_getElem? (i := 499) (by decide +kernel)⟩
theorem lw_p20 : lw_okq (⟨"RoomRings$Past", "dropOldest", "()V"⟩, 2) := ⟨⟨by decide +kernel, by decide +kernel⟩, List.mem_of_getElem? (i := 135) (by decide +kernel), List.mem_of_getElem? (i := 534) (by decide +kernel), List.mem_of_getElem? (i := 535) (by decide +kernel)⟩
theorem lw_p21 : lw_okq (⟨"RoomRings", "moveAll", "()I"⟩, 9) := ⟨⟨by decide +kernel, by decide +kernel⟩, List.mem_of_getElem? (i := 15) (by decide +kernel), List.mem_of_getElem? (i := 573) (by decide +kernel), List.mem_of_getElem? (i := 574) (by decide +kernel)⟩
theorem lw_p22 : lw_okq (⟨"RoomRings", "drawDeed", "()V"⟩, 9) := ⟨⟨by decide +kernel, by decide +kernel⟩, List.mem_of_getElem? (i := 15) (by decide +kernel), List.mem_of_getElem? (i := 586) (by decide +kernel), List.mem_of_getElem? (i := 587) (by decide +kernel)⟩
theorem lw_p23 : lw_okq (⟨"RoomRings$House", "member", "(II)I"⟩, 6) := ⟨⟨by decide +kernel, by decide +kernel⟩, List.mem_of_getElem? (i := 51) (by decide +kernel), List.mem_of_getElem? (i := 633) (by decide +kernel), List.mem_of_getElem? (i := 634) (by decide +kernel)⟩
theorem lw_p24 : lw_okq (⟨"RoomRings$Notebook", "fits", "(I)Z"⟩, 6) := ⟨⟨by decide +kernel, by decide +kernel⟩, List.mem_of_getElem? (i := 152) (by decide +kernel), List.mem_of_getElem? (i := 663) (by decide +kernel), List.mem_of_getElem? (i := 664) (by decide +kernel)⟩
theorem lw_p25 : lw_okq (⟨"RoomRings", "imageAt", "(I)LRoomRings$Image;"⟩, 9) := ⟨⟨by decide +kernel, by decide +kernel⟩, List.mem_of_getElem? (i := 15) (by decide +kernel), List.mem_of_getElem? (i := 705) (by decide +kernel), List.mem_of_getElem? (i := 706) (by decide +kernel)⟩
theorem lw_p26 : lw_okq (⟨"RoomRingsModel", "beginLots", "(I)V"⟩, 28) := ⟨⟨by decide +kernel, by decide +kernel⟩, List.mem_of_getElem? (i := 718) (by decide +kernel), List.mem_of_getElem? (i := 724) (by decide +kernel), List.mem_of_getElem? (i := 725) (by decide +kernel)⟩
theorem lw_p27 : lw_okq (⟨"RoomRingsModel", "here", "()I"⟩, 28) := ⟨⟨by decide +kernel, by decide +kernel⟩, List.mem_of_getElem? (i := 718) (by decide +kernel), List.mem_of_getElem? (i := 826) (by decide +kernel), List.mem_of_getElem? (i := 827) (by decide +kernel)⟩
theorem lw_p28 : lw_okq (⟨"RoomRingsModel", "fine", "()Z"⟩, 28) := ⟨⟨by decide +kernel, by decide +kernel⟩, List.mem_of_getElem? (i := 718) (by decide +kernel), List.mem_of_getElem? (i := 830) (by decide +kernel), List.mem_of_getElem? (i := 831) (by decide +kernel)⟩
theorem lw_p29 : lw_okq (⟨"RoomRingsModel", "readClause", "()V"⟩, 28) := ⟨⟨by decide +kernel, by decide +kernel⟩, List.mem_of_getElem? (i := 718) (by decide +kernel), List.mem_of_getElem? (i := 834) (by decide +kernel), List.mem_of_getElem? (i := 835) (by decide +kernel)⟩
theorem lw_p30 : lw_okq (⟨"RoomRingsModel", "fail", "(II)V"⟩, 28) := ⟨⟨by decide +kernel, by decide +kernel⟩, List.mem_of_getElem? (i := 718) (by decide +kernel), List.mem_of_getElem? (i := 838) (by decide +kernel), List.mem_of_getElem? (i := 839) (by decide +kernel)⟩
theorem lw_p31 : lw_okq (⟨"RoomRingsModel", "number", "(II)I"⟩, 28) := ⟨⟨by decide +kernel, by decide +kernel⟩, List.mem_of_getElem? (i := 718) (by decide +kernel), List.mem_of_getElem? (i := 842) (by decide +kernel), List.mem_of_getElem? (i := 843) (by decide +kernel)⟩
def lw_privs_2 : List (MethodName × Nat) := [(⟨"RoomRings", "weighed", "()LRoomRings$Bartering;"⟩, 9), (⟨"RoomRings$Bartering", "whomEnvies", "(LRoomRings$House;I)I"⟩, 3), (⟨"RoomRings$Bartering", "hasRing", "(I)Z"⟩, 3), (⟨"RoomRings", "chosenByLot", "(I)I"⟩, 9), (⟨"RoomRings$Past", "dropOldest", "()V"⟩, 2), (⟨"RoomRings", "moveAll", "()I"⟩, 9), (⟨"RoomRings", "drawDeed", "()V"⟩, 9), (⟨"RoomRings$House", "member", "(II)I"⟩, 6), (⟨"RoomRings$Notebook", "fits", "(I)Z"⟩, 6), (⟨"RoomRings", "imageAt", "(I)LRoomRings$Image;"⟩, 9), (⟨"RoomRingsModel", "beginLots", "(I)V"⟩, 28), (⟨"RoomRingsModel", "here", "()I"⟩, 28), (⟨"RoomRingsModel", "fine", "()Z"⟩, 28), (⟨"RoomRingsModel", "readClause", "()V"⟩, 28), (⟨"RoomRingsModel", "fail", "(II)V"⟩, 28), (⟨"RoomRingsModel", "number", "(II)I"⟩, 28)]
theorem lw_r2 : ∀ q ∈ lw_privs_2, lw_okq q := List.forall_mem_cons.mpr ⟨lw_p16, List.forall_mem_cons.mpr ⟨lw_p17, List.forall_mem_cons.mpr ⟨lw_p18, List.forall_mem_cons.mpr ⟨lw_p19, List.forall_mem_cons.mpr ⟨lw_p20, List.forall_mem_cons.mpr ⟨lw_p21, List.forall_mem_cons.mpr ⟨lw_p22, List.forall_mem_cons.mpr ⟨lw_p23, List.forall_mem_cons.mpr ⟨lw_p24, List.forall_mem_cons.mpr ⟨lw_p25, List.forall_mem_cons.mpr ⟨lw_p26, List.forall_mem_cons.mpr ⟨lw_p27, List.forall_mem_cons.mpr ⟨lw_p28, List.forall_mem_cons.mpr ⟨lw_p29, List.forall_mem_cons.mpr ⟨lw_p30, List.forall_mem_cons.mpr ⟨lw_p31, fun _ h => absurd h List.not_mem_nil⟩⟩⟩⟩⟩⟩⟩⟩⟩⟩⟩⟩⟩⟩⟩⟩
theorem lw_p32 : lw_okq (⟨"RoomRingsModel", "readPerson", "(I)V"⟩, 28) := ⟨⟨by decide +kernel, by decide +kernel⟩, List.mem_of_getElem? (i := 718) (by decide +kernel), List.mem_of_getElem? (i := 846) (by decide +kernel), List.mem_of_getElem? (i := 847) (by decide +kernel)⟩
theorem lw_p33 : lw_okq (⟨"RoomRingsModel", "sitterIn", "(III)I"⟩, 28) := ⟨⟨by decide +kernel, by decide +kernel⟩, List.mem_of_getElem? (i := 718) (by decide +kernel), List.mem_of_getElem? (i := 850) (by decide +kernel), List.mem_of_getElem? (i := 851) (by decide +kernel)⟩
theorem lw_p34 : lw_okq (⟨"RoomRingsModel", "readLike", "(I)V"⟩, 28) := ⟨⟨by decide +kernel, by decide +kernel⟩, List.mem_of_getElem? (i := 718) (by decide +kernel), List.mem_of_getElem? (i := 854) (by decide +kernel), List.mem_of_getElem? (i := 855) (by decide +kernel)⟩
theorem lw_p35 : lw_okq (⟨"RoomRingsModel", "placeOfLike", "(III)I"⟩, 28) := ⟨⟨by decide +kernel, by decide +kernel⟩, List.mem_of_getElem? (i := 718) (by decide +kernel), List.mem_of_getElem? (i := 858) (by decide +kernel), List.mem_of_getElem? (i := 859) (by decide +kernel)⟩
theorem lw_p36 : lw_okq (⟨"RoomRingsModel", "copyRow", "(II)V"⟩, 28) := ⟨⟨by decide +kernel, by decide +kernel⟩, List.mem_of_getElem? (i := 718) (by decide +kernel), List.mem_of_getElem? (i := 862) (by decide +kernel), List.mem_of_getElem? (i := 863) (by decide +kernel)⟩
theorem lw_p37 : lw_okq (⟨"RoomRingsModel", "giveOut", "(I)V"⟩, 28) := ⟨⟨by decide +kernel, by decide +kernel⟩, List.mem_of_getElem? (i := 718) (by decide +kernel), List.mem_of_getElem? (i := 874) (by decide +kernel), List.mem_of_getElem? (i := 875) (by decide +kernel)⟩
theorem lw_p38 : lw_okq (⟨"RoomRingsModel", "dropThoseWithout", "(I)V"⟩, 28) := ⟨⟨by decide +kernel, by decide +kernel⟩, List.mem_of_getElem? (i := 718) (by decide +kernel), List.mem_of_getElem? (i := 878) (by decide +kernel), List.mem_of_getElem? (i := 879) (by decide +kernel)⟩
theorem lw_p39 : lw_okq (⟨"RoomRingsModel", "mostOf", "(III)I"⟩, 28) := ⟨⟨by decide +kernel, by decide +kernel⟩, List.mem_of_getElem? (i := 718) (by decide +kernel), List.mem_of_getElem? (i := 885) (by decide +kernel), List.mem_of_getElem? (i := 886) (by decide +kernel)⟩
theorem lw_p40 : lw_okq (⟨"RoomRingsModel", "layWants", "(II)I"⟩, 28) := ⟨⟨by decide +kernel, by decide +kernel⟩, List.mem_of_getElem? (i := 718) (by decide +kernel), List.mem_of_getElem? (i := 889) (by decide +kernel), List.mem_of_getElem? (i := 890) (by decide +kernel)⟩
theorem lw_p41 : lw_okq (⟨"RoomRingsModel", "giveRings", "(I)V"⟩, 28) := ⟨⟨by decide +kernel, by decide +kernel⟩, List.mem_of_getElem? (i := 718) (by decide +kernel), List.mem_of_getElem? (i := 893) (by decide +kernel), List.mem_of_getElem? (i := 894) (by decide +kernel)⟩
theorem lw_p42 : lw_okq (⟨"RoomRingsModel", "ringFrom", "(II)I"⟩, 28) := ⟨⟨by decide +kernel, by decide +kernel⟩, List.mem_of_getElem? (i := 718) (by decide +kernel), List.mem_of_getElem? (i := 897) (by decide +kernel), List.mem_of_getElem? (i := 898) (by decide +kernel)⟩
theorem lw_p43 : lw_okq (⟨"RoomRingsModel", "next", "(II)I"⟩, 28) := ⟨⟨by decide +kernel, by decide +kernel⟩, List.mem_of_getElem? (i := 718) (by decide +kernel), List.mem_of_getElem? (i := 901) (by decide +kernel), List.mem_of_getElem? (i := 902) (by decide +kernel)⟩
theorem lw_p44 : lw_okq (⟨"RoomRingsModel", "pointsAt", "(II)I"⟩, 28) := ⟨⟨by decide +kernel, by decide +kernel⟩, List.mem_of_getElem? (i := 718) (by decide +kernel), List.mem_of_getElem? (i := 905) (by decide +kernel), List.mem_of_getElem? (i := 906) (by decide +kernel)⟩
theorem lw_p45 : lw_okq (⟨"RoomRingsModel", "firstByLots", "(I)I"⟩, 28) := ⟨⟨by decide +kernel, by decide +kernel⟩, List.mem_of_getElem? (i := 718) (by decide +kernel), List.mem_of_getElem? (i := 909) (by decide +kernel), List.mem_of_getElem? (i := 910) (by decide +kernel)⟩
theorem lw_p46 : lw_okq (⟨"RoomRingsModel", "without", "()I"⟩, 28) := ⟨⟨by decide +kernel, by decide +kernel⟩, List.mem_of_getElem? (i := 718) (by decide +kernel), List.mem_of_getElem? (i := 913) (by decide +kernel), List.mem_of_getElem? (i := 914) (by decide +kernel)⟩
theorem lw_p47 : lw_okq (⟨"RoomRingsModel", "roomsLeft", "(I)I"⟩, 28) := ⟨⟨by decide +kernel, by decide +kernel⟩, List.mem_of_getElem? (i := 718) (by decide +kernel), List.mem_of_getElem? (i := 917) (by decide +kernel), List.mem_of_getElem? (i := 918) (by decide +kernel)⟩
def lw_privs_3 : List (MethodName × Nat) := [(⟨"RoomRingsModel", "readPerson", "(I)V"⟩, 28), (⟨"RoomRingsModel", "sitterIn", "(III)I"⟩, 28), (⟨"RoomRingsModel", "readLike", "(I)V"⟩, 28), (⟨"RoomRingsModel", "placeOfLike", "(III)I"⟩, 28), (⟨"RoomRingsModel", "copyRow", "(II)V"⟩, 28), (⟨"RoomRingsModel", "giveOut", "(I)V"⟩, 28), (⟨"RoomRingsModel", "dropThoseWithout", "(I)V"⟩, 28), (⟨"RoomRingsModel", "mostOf", "(III)I"⟩, 28), (⟨"RoomRingsModel", "layWants", "(II)I"⟩, 28), (⟨"RoomRingsModel", "giveRings", "(I)V"⟩, 28), (⟨"RoomRingsModel", "ringFrom", "(II)I"⟩, 28), (⟨"RoomRingsModel", "next", "(II)I"⟩, 28), (⟨"RoomRingsModel", "pointsAt", "(II)I"⟩, 28), (⟨"RoomRingsModel", "firstByLots", "(I)I"⟩, 28), (⟨"RoomRingsModel", "without", "()I"⟩, 28), (⟨"RoomRingsModel", "roomsLeft", "(I)I"⟩, 28)]
theorem lw_r3 : ∀ q ∈ lw_privs_3, lw_okq q := List.forall_mem_cons.mpr ⟨lw_p32, List.forall_mem_cons.mpr ⟨lw_p33, List.forall_mem_cons.mpr ⟨lw_p34, List.forall_mem_cons.mpr ⟨lw_p35, List.forall_mem_cons.mpr ⟨lw_p36, List.forall_mem_cons.mpr ⟨lw_p37, List.forall_mem_cons.mpr ⟨lw_p38, List.forall_mem_cons.mpr ⟨lw_p39, List.forall_mem_cons.mpr ⟨lw_p40, List.forall_mem_cons.mpr ⟨lw_p41, List.forall_mem_cons.mpr ⟨lw_p42, List.forall_mem_cons.mpr ⟨lw_p43, List.forall_mem_cons.mpr ⟨lw_p44, List.forall_mem_cons.mpr ⟨lw_p45, List.forall_mem_cons.mpr ⟨lw_p46, List.forall_mem_cons.mpr ⟨lw_p47, fun _ h => absurd h List.not_mem_nil⟩⟩⟩⟩⟩⟩⟩⟩⟩⟩⟩⟩⟩⟩⟩⟩
theorem lw_p48 : lw_okq (⟨"RoomRingsModel", "whoGets", "(I)I"⟩, 28) := ⟨⟨by decide +kernel, by decide +kernel⟩, List.mem_of_getElem? (i := 718) (by decide +kernel), List.mem_of_getElem? (i := 921) (by decide +kernel), List.mem_of_getElem? (i := 922) (by decide +kernel)⟩
theorem lw_p49 : lw_okq (⟨"RoomRingsModel", "groups", "(Z)I"⟩, 28) := ⟨⟨by decide +kernel, by decide +kernel⟩, List.mem_of_getElem? (i := 718) (by decide +kernel), List.mem_of_getElem? (i := 925) (by decide +kernel), List.mem_of_getElem? (i := 926) (by decide +kernel)⟩
theorem lw_p50 : lw_okq (⟨"RoomRingsModel", "sitters", "()I"⟩, 28) := ⟨⟨by decide +kernel, by decide +kernel⟩, List.mem_of_getElem? (i := 718) (by decide +kernel), List.mem_of_getElem? (i := 929) (by decide +kernel), List.mem_of_getElem? (i := 930) (by decide +kernel)⟩
theorem lw_p51 : lw_okq (⟨"RoomRingsModel", "partings", "(I)I"⟩, 28) := ⟨⟨by decide +kernel, by decide +kernel⟩, List.mem_of_getElem? (i := 718) (by decide +kernel), List.mem_of_getElem? (i := 933) (by decide +kernel), List.mem_of_getElem? (i := 934) (by decide +kernel)⟩
theorem lw_p52 : lw_okq (⟨"RoomRingsModel", "rankOf", "(III)I"⟩, 28) := ⟨⟨by decide +kernel, by decide +kernel⟩, List.mem_of_getElem? (i := 718) (by decide +kernel), List.mem_of_getElem? (i := 943) (by decide +kernel), List.mem_of_getElem? (i := 944) (by decide +kernel)⟩
theorem lw_p53 : lw_okq (⟨"RoomRingsModel", "isPerson", "(I)Z"⟩, 28) := ⟨⟨by decide +kernel, by decide +kernel⟩, List.mem_of_getElem? (i := 718) (by decide +kernel), List.mem_of_getElem? (i := 951) (by decide +kernel), List.mem_of_getElem? (i := 952) (by decide +kernel)⟩
theorem lw_p54 : lw_okq (⟨"RoomRingsModel", "placeInLots", "(I)I"⟩, 28) := ⟨⟨by decide +kernel, by decide +kernel⟩, List.mem_of_getElem? (i := 718) (by decide +kernel), List.mem_of_getElem? (i := 956) (by decide +kernel), List.mem_of_getElem? (i := 957) (by decide +kernel)⟩
theorem lw_p55 : lw_okq (⟨"RoomRingsModel", "byLot", "(I)I"⟩, 28) := ⟨⟨by decide +kernel, by decide +kernel⟩, List.mem_of_getElem? (i := 718) (by decide +kernel), List.mem_of_getElem? (i := 960) (by decide +kernel), List.mem_of_getElem? (i := 961) (by decide +kernel)⟩
theorem lw_p56 : lw_okq (⟨"RoomRingsModel", "kept", "(I)I"⟩, 28) := ⟨⟨by decide +kernel, by decide +kernel⟩, List.mem_of_getElem? (i := 718) (by decide +kernel), List.mem_of_getElem? (i := 964) (by decide +kernel), List.mem_of_getElem? (i := 965) (by decide +kernel)⟩
theorem lw_p57 : lw_okq (⟨"RoomRingsModel", "better", "(I)I"⟩, 28) := ⟨⟨by decide +kernel, by decide +kernel⟩, List.mem_of_getElem? (i := 718) (by decide +kernel), List.mem_of_getElem? (i := 968) (by decide +kernel), List.mem_of_getElem? (i := 969) (by decide +kernel)⟩
theorem lw_p58 : lw_okq (⟨"RoomRingsModel", "isRoom", "(I)Z"⟩, 28) := ⟨⟨by decide +kernel, by decide +kernel⟩, List.mem_of_getElem? (i := 718) (by decide +kernel), List.mem_of_getElem? (i := 980) (by decide +kernel), List.mem_of_getElem? (i := 981) (by decide +kernel)⟩
theorem lw_p59 : lw_okq (⟨"RoomRingsModel", "remember", "()V"⟩, 28) := ⟨⟨by decide +kernel, by decide +kernel⟩, List.mem_of_getElem? (i := 718) (by decide +kernel), List.mem_of_getElem? (i := 988) (by decide +kernel), List.mem_of_getElem? (i := 989) (by decide +kernel)⟩
theorem lw_p60 : lw_okq (⟨"RoomRingsModel", "putIn", "(IIII)V"⟩, 28) := ⟨⟨by decide +kernel, by decide +kernel⟩, List.mem_of_getElem? (i := 718) (by decide +kernel), List.mem_of_getElem? (i := 992) (by decide +kernel), List.mem_of_getElem? (i := 993) (by decide +kernel)⟩
theorem lw_p61 : lw_okq (⟨"RoomRingsModel", "strikeOut", "(III)V"⟩, 28) := ⟨⟨by decide +kernel, by decide +kernel⟩, List.mem_of_getElem? (i := 718) (by decide +kernel), List.mem_of_getElem? (i := 996) (by decide +kernel), List.mem_of_getElem? (i := 997) (by decide +kernel)⟩
theorem lw_p62 : lw_okq (⟨"RoomRingsModel", "setLot", "(II)V"⟩, 28) := ⟨⟨by decide +kernel, by decide +kernel⟩, List.mem_of_getElem? (i := 718) (by decide +kernel), List.mem_of_getElem? (i := 1009) (by decide +kernel), List.mem_of_getElem? (i := 1010) (by decide +kernel)⟩
theorem lw_p63 : lw_okq (⟨"RoomRingsModel", "moveAll", "()I"⟩, 28) := ⟨⟨by decide +kernel, by decide +kernel⟩, List.mem_of_getElem? (i := 718) (by decide +kernel), List.mem_of_getElem? (i := 1021) (by decide +kernel), List.mem_of_getElem? (i := 1022) (by decide +kernel)⟩
def lw_privs_4 : List (MethodName × Nat) := [(⟨"RoomRingsModel", "whoGets", "(I)I"⟩, 28), (⟨"RoomRingsModel", "groups", "(Z)I"⟩, 28), (⟨"RoomRingsModel", "sitters", "()I"⟩, 28), (⟨"RoomRingsModel", "partings", "(I)I"⟩, 28), (⟨"RoomRingsModel", "rankOf", "(III)I"⟩, 28), (⟨"RoomRingsModel", "isPerson", "(I)Z"⟩, 28), (⟨"RoomRingsModel", "placeInLots", "(I)I"⟩, 28), (⟨"RoomRingsModel", "byLot", "(I)I"⟩, 28), (⟨"RoomRingsModel", "kept", "(I)I"⟩, 28), (⟨"RoomRingsModel", "better", "(I)I"⟩, 28), (⟨"RoomRingsModel", "isRoom", "(I)Z"⟩, 28), (⟨"RoomRingsModel", "remember", "()V"⟩, 28), (⟨"RoomRingsModel", "putIn", "(IIII)V"⟩, 28), (⟨"RoomRingsModel", "strikeOut", "(III)V"⟩, 28), (⟨"RoomRingsModel", "setLot", "(II)V"⟩, 28), (⟨"RoomRingsModel", "moveAll", "()I"⟩, 28)]
theorem lw_r4 : ∀ q ∈ lw_privs_4, lw_okq q := List.forall_mem_cons.mpr ⟨lw_p48, List.forall_mem_cons.mpr ⟨lw_p49, List.forall_mem_cons.mpr ⟨lw_p50, List.forall_mem_cons.mpr ⟨lw_p51, List.forall_mem_cons.mpr ⟨lw_p52, List.forall_mem_cons.mpr ⟨lw_p53, List.forall_mem_cons.mpr ⟨lw_p54, List.forall_mem_cons.mpr ⟨lw_p55, List.forall_mem_cons.mpr ⟨lw_p56, List.forall_mem_cons.mpr ⟨lw_p57, List.forall_mem_cons.mpr ⟨lw_p58, List.forall_mem_cons.mpr ⟨lw_p59, List.forall_mem_cons.mpr ⟨lw_p60, List.forall_mem_cons.mpr ⟨lw_p61, List.forall_mem_cons.mpr ⟨lw_p62, List.forall_mem_cons.mpr ⟨lw_p63, fun _ h => absurd h List.not_mem_nil⟩⟩⟩⟩⟩⟩⟩⟩⟩⟩⟩⟩⟩⟩⟩⟩
theorem lw_p64 : lw_okq (⟨"RoomRingsModel", "time", "()V"⟩, 28) := ⟨⟨by decide +kernel, by decide +kernel⟩, List.mem_of_getElem? (i := 718) (by decide +kernel), List.mem_of_getElem? (i := 1033) (by decide +kernel), List.mem_of_getElem? (i := 1034) (by decide +kernel)⟩
theorem lw_p65 : lw_okq (⟨"RoomRingsModel", "draw", "(I)I"⟩, 28) := ⟨⟨by decide +kernel, by decide +kernel⟩, List.mem_of_getElem? (i := 718) (by decide +kernel), List.mem_of_getElem? (i := 1037) (by decide +kernel), List.mem_of_getElem? (i := 1038) (by decide +kernel)⟩
theorem lw_p66 : lw_okq (⟨"RoomRingsModel", "nextLots", "()Z"⟩, 28) := ⟨⟨by decide +kernel, by decide +kernel⟩, List.mem_of_getElem? (i := 718) (by decide +kernel), List.mem_of_getElem? (i := 1057) (by decide +kernel), List.mem_of_getElem? (i := 1058) (by decide +kernel)⟩
theorem lw_p67 : lw_okq (⟨"RoomRingsModel", "swap", "(II)V"⟩, 28) := ⟨⟨by decide +kernel, by decide +kernel⟩, List.mem_of_getElem? (i := 718) (by decide +kernel), List.mem_of_getElem? (i := 1061) (by decide +kernel), List.mem_of_getElem? (i := 1062) (by decide +kernel)⟩
theorem lw_p68 : lw_okq (⟨"RoomRingsModel", "isRoomOrNone", "(I)Z"⟩, 28) := ⟨⟨by decide +kernel, by decide +kernel⟩, List.mem_of_getElem? (i := 718) (by decide +kernel), List.mem_of_getElem? (i := 1075) (by decide +kernel), List.mem_of_getElem? (i := 1076) (by decide +kernel)⟩
def lw_privs_5 : List (MethodName × Nat) := [(⟨"RoomRingsModel", "time", "()V"⟩, 28), (⟨"RoomRingsModel", "draw", "(I)I"⟩, 28), (⟨"RoomRingsModel", "nextLots", "()Z"⟩, 28), (⟨"RoomRingsModel", "swap", "(II)V"⟩, 28), (⟨"RoomRingsModel", "isRoomOrNone", "(I)Z"⟩, 28)]
theorem lw_r5 : ∀ q ∈ lw_privs_5, lw_okq q := List.forall_mem_cons.mpr ⟨lw_p64, List.forall_mem_cons.mpr ⟨lw_p65, List.forall_mem_cons.mpr ⟨lw_p66, List.forall_mem_cons.mpr ⟨lw_p67, List.forall_mem_cons.mpr ⟨lw_p68, fun _ h => absurd h List.not_mem_nil⟩⟩⟩⟩⟩
def lw_privs : List (MethodName × Nat) := lw_privs_1 ++ (lw_privs_2 ++ (lw_privs_3 ++ (lw_privs_4 ++ (lw_privs_5))))
def lw_tbl : List Cond := k2_sels lw_privs ++ tables_1
theorem lw_privs_ok : ∀ q ∈ lw_privs, lw_okq q := by
  show ∀ q ∈ lw_privs_1 ++ (lw_privs_2 ++ (lw_privs_3 ++ (lw_privs_4 ++ (lw_privs_5)))), lw_okq q
  exact List.forall_mem_append.mpr ⟨lw_r1, List.forall_mem_append.mpr ⟨lw_r2, List.forall_mem_append.mpr ⟨lw_r3, List.forall_mem_append.mpr ⟨lw_r4, lw_r5⟩⟩⟩⟩
end
section
def RX0 : String := "RoomRings$Bartering"
def TX0 : u_T := fun k => match k with
  | 0 => ("RoomRings$Bartering", "least", "I", false)
  | 1 => ("RoomRings$Bartering", "count", "I", false)
  | _ => ("RoomRings$Bartering", "envied", "[I", true)
def tyX0 : Nat → FieldType := fun k => match k with
  | 0 => .int
  | 1 => .int
  | _ => .array .int
theorem nmX0 : ∀ a, a < 3 → ∀ b, b < 3 → a ≠ b → (TX0 a).2.1 ≠ (TX0 b).2.1 := by decide +kernel
theorem tyX0_ok : ∀ k, k < 3 → parseFieldDescriptor (TX0 k).2.2.1 = some (tyX0 k) := by decide +kernel
abbrev cX0_init : ByteArray := prog_2_method_1_code
def yX0_init : MethodName := ⟨RX0, "<init>", "()V"⟩
abbrev cX0_weigh : ByteArray := prog_2_method_2_code
def yX0_weigh : MethodName := ⟨RX0, "weigh", "(LRoomRings$House;)V"⟩
abbrev cX0_whomEnvies : ByteArray := prog_2_method_3_code
def yX0_whomEnvies : MethodName := ⟨RX0, "whomEnvies", "(LRoomRings$House;I)I"⟩
abbrev cX0_hasRing : ByteArray := prog_2_method_4_code
def yX0_hasRing : MethodName := ⟨RX0, "hasRing", "(I)Z"⟩
def RX1 : String := "RoomRings$Dealing"
def TX1 : u_T := fun k => match k with
  | 0 => ("RoomRings$Dealing", "rounds", "I", false)
  | 1 => ("RoomRings$Dealing", "open", "I", false)
  | 2 => ("RoomRings$Dealing", "there", "I", false)
  | 3 => ("RoomRings$Dealing", "got", "[I", true)
  | 4 => ("RoomRings$Dealing", "roundDone", "[I", true)
  | 5 => ("RoomRings$Dealing", "rings", "[I", true)
  | 6 => ("RoomRings$Dealing", "target", "[I", true)
  | _ => ("RoomRings$Dealing", "onward", "[I", true)
def tyX1 : Nat → FieldType := fun k => match k with
  | 0 => .int
  | 1 => .int
  | 2 => .int
  | 3 => .array .int
  | 4 => .array .int
  | 5 => .array .int
  | 6 => .array .int
  | _ => .array .int
theorem nmX1 : ∀ a, a < 8 → ∀ b, b < 8 → a ≠ b → (TX1 a).2.1 ≠ (TX1 b).2.1 := by decide +kernel
theorem tyX1_ok : ∀ k, k < 8 → parseFieldDescriptor (TX1 k).2.2.1 = some (tyX1 k) := by decide +kernel
abbrev cX1_init : ByteArray := prog_3_method_1_code
def yX1_init : MethodName := ⟨RX1, "<init>", "()V"⟩
abbrev cX1_deal : ByteArray := prog_3_method_2_code
def yX1_deal : MethodName := ⟨RX1, "deal", "(LRoomRings$House;)V"⟩
abbrev cX1_roomOf : ByteArray := prog_3_method_3_code
def yX1_roomOf : MethodName := ⟨RX1, "roomOf", "(I)I"⟩
abbrev cX1_roundOf : ByteArray := prog_3_method_4_code
def yX1_roundOf : MethodName := ⟨RX1, "roundOf", "(I)I"⟩
abbrev cX1_ringOf : ByteArray := prog_3_method_5_code
def yX1_ringOf : MethodName := ⟨RX1, "ringOf", "(I)I"⟩
abbrev cX1_winner : ByteArray := prog_3_method_6_code
def yX1_winner : MethodName := ⟨RX1, "winner", "(LRoomRings$House;I)I"⟩
abbrev cX1_emptyHanded : ByteArray := prog_3_method_7_code
def yX1_emptyHanded : MethodName := ⟨RX1, "emptyHanded", "(LRoomRings$House;)I"⟩
abbrev cX1_aim : ByteArray := prog_3_method_8_code
def yX1_aim : MethodName := ⟨RX1, "aim", "(LRoomRings$House;)V"⟩
abbrev cX1_follow : ByteArray := prog_3_method_9_code
def yX1_follow : MethodName := ⟨RX1, "follow", "(LRoomRings$House;)V"⟩
abbrev cX1_closeRings : ByteArray := prog_3_method_10_code
def yX1_closeRings : MethodName := ⟨RX1, "closeRings", "(LRoomRings$House;)V"⟩
abbrev cX1_ringFrom : ByteArray := prog_3_method_11_code
def yX1_ringFrom : MethodName := ⟨RX1, "ringFrom", "(I)I"⟩
abbrev cX1_finish : ByteArray := prog_3_method_12_code
def yX1_finish : MethodName := ⟨RX1, "finish", "(III)V"⟩
def RX2 : String := "RoomRings$Dice"
def TX2 : u_T := fun k => match k with
  | _ => ("RoomRings$Dice", "state", "I", false)
def tyX2 : Nat → FieldType := fun k => match k with
  | _ => .int
theorem nmX2 : ∀ a, a < 1 → ∀ b, b < 1 → a ≠ b → (TX2 a).2.1 ≠ (TX2 b).2.1 := by decide +kernel
theorem tyX2_ok : ∀ k, k < 1 → parseFieldDescriptor (TX2 k).2.2.1 = some (tyX2 k) := by decide +kernel
abbrev cX2_init : ByteArray := prog_4_method_1_code
def yX2_init : MethodName := ⟨RX2, "<init>", "()V"⟩
abbrev cX2_draw : ByteArray := prog_4_method_2_code
def yX2_draw : MethodName := ⟨RX2, "draw", "(I)I"⟩
def RX3 : String := "RoomRings$House"
def TX3 : u_T := fun k => match k with
  | 0 => ("RoomRings$House", "rooms", "I", false)
  | 1 => ("RoomRings$House", "persons", "I", false)
  | 2 => ("RoomRings$House", "seats", "[I", true)
  | 3 => ("RoomRings$House", "amounts", "[I", true)
  | 4 => ("RoomRings$House", "likings", "[I", true)
  | _ => ("RoomRings$House", "order", "[I", true)
def tyX3 : Nat → FieldType := fun k => match k with
  | 0 => .int
  | 1 => .int
  | 2 => .array .int
  | 3 => .array .int
  | 4 => .array .int
  | _ => .array .int
theorem nmX3 : ∀ a, a < 6 → ∀ b, b < 6 → a ≠ b → (TX3 a).2.1 ≠ (TX3 b).2.1 := by decide +kernel
theorem tyX3_ok : ∀ k, k < 6 → parseFieldDescriptor (TX3 k).2.2.1 = some (tyX3 k) := by decide +kernel
abbrev cX3_init : ByteArray := prog_5_method_1_code
def yX3_init : MethodName := ⟨RX3, "<init>", "()V"⟩
abbrev cX3_clear : ByteArray := prog_5_method_2_code
def yX3_clear : MethodName := ⟨RX3, "clear", "()V"⟩
abbrev cX3_copy : ByteArray := prog_5_method_3_code
def yX3_copy : MethodName := ⟨RX3, "copy", "(LRoomRings$House;)V"⟩
abbrev cX3_addPerson : ByteArray := prog_5_method_4_code
def yX3_addPerson : MethodName := ⟨RX3, "addPerson", "()I"⟩
abbrev cX3_hasPerson : ByteArray := prog_5_method_5_code
def yX3_hasPerson : MethodName := ⟨RX3, "hasPerson", "(I)Z"⟩
abbrev cX3_hasRoom : ByteArray := prog_5_method_6_code
def yX3_hasRoom : MethodName := ⟨RX3, "hasRoom", "(I)Z"⟩
abbrev cX3_hasRoomOrNone : ByteArray := prog_5_method_7_code
def yX3_hasRoomOrNone : MethodName := ⟨RX3, "hasRoomOrNone", "(I)Z"⟩
abbrev cX3_seatOf : ByteArray := prog_5_method_8_code
def yX3_seatOf : MethodName := ⟨RX3, "seatOf", "(I)I"⟩
abbrev cX3_seat : ByteArray := prog_5_method_9_code
def yX3_seat : MethodName := ⟨RX3, "seat", "(II)V"⟩
abbrev cX3_sitter : ByteArray := prog_5_method_10_code
def yX3_sitter : MethodName := ⟨RX3, "sitter", "(I)I"⟩
abbrev cX3_seatsOf : ByteArray := prog_5_method_11_code
def yX3_seatsOf : MethodName := ⟨RX3, "seatsOf", "(I)I"⟩
abbrev cX3_emptyRooms : ByteArray := prog_5_method_12_code
def yX3_emptyRooms : MethodName := ⟨RX3, "emptyRooms", "()I"⟩
abbrev cX3_amount : ByteArray := prog_5_method_13_code
def yX3_amount : MethodName := ⟨RX3, "amount", "(I)I"⟩
abbrev cX3_liking : ByteArray := prog_5_method_14_code
def yX3_liking : MethodName := ⟨RX3, "liking", "(II)I"⟩
abbrev cX3_likingPlace : ByteArray := prog_5_method_15_code
def yX3_likingPlace : MethodName := ⟨RX3, "likingPlace", "(II)I"⟩
abbrev cX3_addLiking : ByteArray := prog_5_method_16_code
def yX3_addLiking : MethodName := ⟨RX3, "addLiking", "(II)V"⟩
abbrev cX3_clearLikings : ByteArray := prog_5_method_17_code
def yX3_clearLikings : MethodName := ⟨RX3, "clearLikings", "(I)V"⟩
abbrev cX3_dropLiking : ByteArray := prog_5_method_18_code
def yX3_dropLiking : MethodName := ⟨RX3, "dropLiking", "(II)V"⟩
abbrev cX3_putLiking : ByteArray := prog_5_method_19_code
def yX3_putLiking : MethodName := ⟨RX3, "putLiking", "(III)V"⟩
abbrev cX3_placeOf : ByteArray := prog_5_method_20_code
def yX3_placeOf : MethodName := ⟨RX3, "placeOf", "(I)I"⟩
abbrev cX3_toPlace : ByteArray := prog_5_method_21_code
def yX3_toPlace : MethodName := ⟨RX3, "toPlace", "(II)V"⟩
abbrev cX3_orders : ByteArray := prog_5_method_22_code
def yX3_orders : MethodName := ⟨RX3, "orders", "()I"⟩
abbrev cX3_orderBy : ByteArray := prog_5_method_23_code
def yX3_orderBy : MethodName := ⟨RX3, "orderBy", "(I)V"⟩
abbrev cX3_member : ByteArray := prog_5_method_24_code
def yX3_member : MethodName := ⟨RX3, "member", "(II)I"⟩
abbrev cX3_firstOf : ByteArray := prog_5_method_25_code
def yX3_firstOf : MethodName := ⟨RX3, "firstOf", "(I)I"⟩
abbrev cX3_best : ByteArray := prog_5_method_26_code
def yX3_best : MethodName := ⟨RX3, "best", "(II)I"⟩
abbrev cX3_rank : ByteArray := prog_5_method_27_code
def yX3_rank : MethodName := ⟨RX3, "rank", "(II)I"⟩
def RX4 : String := "RoomRings$Image"
def TX4 : u_T := fun k => match k with
  | 0 => ("RoomRings$Image", "kept", "Z", false)
  | 1 => ("RoomRings$Image", "state", "I", false)
  | _ => ("RoomRings$Image", "house", "LRoomRings$House;", true)
def tyX4 : Nat → FieldType := fun k => match k with
  | 0 => .boolean
  | 1 => .int
  | _ => .object "RoomRings$House"
theorem nmX4 : ∀ a, a < 3 → ∀ b, b < 3 → a ≠ b → (TX4 a).2.1 ≠ (TX4 b).2.1 := by decide +kernel
theorem tyX4_ok : ∀ k, k < 3 → parseFieldDescriptor (TX4 k).2.2.1 = some (tyX4 k) := by decide +kernel
abbrev cX4_init : ByteArray := prog_6_method_1_code
def yX4_init : MethodName := ⟨RX4, "<init>", "()V"⟩
abbrev cX4_store : ByteArray := prog_6_method_2_code
def yX4_store : MethodName := ⟨RX4, "store", "(LRoomRings$House;I)V"⟩
abbrev cX4_drop : ByteArray := prog_6_method_3_code
def yX4_drop : MethodName := ⟨RX4, "drop", "()V"⟩
def RX5 : String := "RoomRings$Notebook"
def TX5 : u_T := fun k => match k with
  | 0 => ("RoomRings$Notebook", "seen", "I", false)
  | 1 => ("RoomRings$Notebook", "entries", "I", false)
  | 2 => ("RoomRings$Notebook", "seenRooms", "[I", true)
  | 3 => ("RoomRings$Notebook", "seenGot", "[I", true)
  | 4 => ("RoomRings$Notebook", "entryPersons", "[I", true)
  | _ => ("RoomRings$Notebook", "entryRooms", "[I", true)
def tyX5 : Nat → FieldType := fun k => match k with
  | 0 => .int
  | 1 => .int
  | 2 => .array .int
  | 3 => .array .int
  | 4 => .array .int
  | _ => .array .int
theorem nmX5 : ∀ a, a < 6 → ∀ b, b < 6 → a ≠ b → (TX5 a).2.1 ≠ (TX5 b).2.1 := by decide +kernel
theorem tyX5_ok : ∀ k, k < 6 → parseFieldDescriptor (TX5 k).2.2.1 = some (tyX5 k) := by decide +kernel
abbrev cX5_init : ByteArray := prog_7_method_1_code
def yX5_init : MethodName := ⟨RX5, "<init>", "()V"⟩
abbrev cX5_clear : ByteArray := prog_7_method_2_code
def yX5_clear : MethodName := ⟨RX5, "clear", "()V"⟩
abbrev cX5_addSeen : ByteArray := prog_7_method_3_code
def yX5_addSeen : MethodName := ⟨RX5, "addSeen", "(IZ)I"⟩
abbrev cX5_addEntry : ByteArray := prog_7_method_4_code
def yX5_addEntry : MethodName := ⟨RX5, "addEntry", "(II)I"⟩
abbrev cX5_fitting : ByteArray := prog_7_method_5_code
def yX5_fitting : MethodName := ⟨RX5, "fitting", "(LRoomRings$Dealing;I)I"⟩
abbrev cX5_fits : ByteArray := prog_7_method_6_code
def yX5_fits : MethodName := ⟨RX5, "fits", "(I)Z"⟩
abbrev cX5_firstWrong : ByteArray := prog_7_method_7_code
def yX5_firstWrong : MethodName := ⟨RX5, "firstWrong", "(LRoomRings$Dealing;)I"⟩
def RX6 : String := "RoomRings$Past"
def TX6 : u_T := fun k => match k with
  | 0 => ("RoomRings$Past", "size", "I", false)
  | _ => ("RoomRings$Past", "houses", "[LRoomRings$House;", true)
def tyX6 : Nat → FieldType := fun k => match k with
  | 0 => .int
  | _ => .array (.object "RoomRings$House")
theorem nmX6 : ∀ a, a < 2 → ∀ b, b < 2 → a ≠ b → (TX6 a).2.1 ≠ (TX6 b).2.1 := by decide +kernel
theorem tyX6_ok : ∀ k, k < 2 → parseFieldDescriptor (TX6 k).2.2.1 = some (tyX6 k) := by decide +kernel
abbrev cX6_init : ByteArray := prog_8_method_1_code
def yX6_init : MethodName := ⟨RX6, "<init>", "()V"⟩
abbrev cX6_forget : ByteArray := prog_8_method_2_code
def yX6_forget : MethodName := ⟨RX6, "forget", "()V"⟩
abbrev cX6_push : ByteArray := prog_8_method_3_code
def yX6_push : MethodName := ⟨RX6, "push", "(LRoomRings$House;)V"⟩
abbrev cX6_pop : ByteArray := prog_8_method_4_code
def yX6_pop : MethodName := ⟨RX6, "pop", "(ILRoomRings$House;)V"⟩
abbrev cX6_dropOldest : ByteArray := prog_8_method_5_code
def yX6_dropOldest : MethodName := ⟨RX6, "dropOldest", "()V"⟩
def RX7 : String := "RoomRings$Text"
def TX7 : u_T := fun k => match k with
  | 0 => ("RoomRings$Text", "length", "I", false)
  | 1 => ("RoomRings$Text", "faultAt", "I", false)
  | 2 => ("RoomRings$Text", "fault", "I", false)
  | 3 => ("RoomRings$Text", "pos", "I", false)
  | 4 => ("RoomRings$Text", "numberAt", "I", false)
  | _ => ("RoomRings$Text", "letters", "[I", true)
def tyX7 : Nat → FieldType := fun k => match k with
  | 0 => .int
  | 1 => .int
  | 2 => .int
  | 3 => .int
  | 4 => .int
  | _ => .array .int
theorem nmX7 : ∀ a, a < 6 → ∀ b, b < 6 → a ≠ b → (TX7 a).2.1 ≠ (TX7 b).2.1 := by decide +kernel
theorem tyX7_ok : ∀ k, k < 6 → parseFieldDescriptor (TX7 k).2.2.1 = some (tyX7 k) := by decide +kernel
abbrev cX7_init : ByteArray := prog_9_method_1_code
def yX7_init : MethodName := ⟨RX7, "<init>", "()V"⟩
abbrev cX7_add : ByteArray := prog_9_method_2_code
def yX7_add : MethodName := ⟨RX7, "add", "(I)I"⟩
abbrev cX7_readInto : ByteArray := prog_9_method_3_code
def yX7_readInto : MethodName := ⟨RX7, "readInto", "(LRoomRings$House;)I"⟩
abbrev cX7_fail : ByteArray := prog_9_method_4_code
def yX7_fail : MethodName := ⟨RX7, "fail", "(II)V"⟩
abbrev cX7_peek : ByteArray := prog_9_method_5_code
def yX7_peek : MethodName := ⟨RX7, "peek", "()I"⟩
abbrev cX7_expect : ByteArray := prog_9_method_6_code
def yX7_expect : MethodName := ⟨RX7, "expect", "(I)V"⟩
abbrev cX7_readRooms : ByteArray := prog_9_method_7_code
def yX7_readRooms : MethodName := ⟨RX7, "readRooms", "(LRoomRings$House;)V"⟩
abbrev cX7_readClause : ByteArray := prog_9_method_8_code
def yX7_readClause : MethodName := ⟨RX7, "readClause", "(LRoomRings$House;)V"⟩
abbrev cX7_checkWord : ByteArray := prog_9_method_9_code
def yX7_checkWord : MethodName := ⟨RX7, "checkWord", "(II)V"⟩
abbrev cX7_readSeat : ByteArray := prog_9_method_10_code
def yX7_readSeat : MethodName := ⟨RX7, "readSeat", "(LRoomRings$House;I)V"⟩
abbrev cX7_readLiking : ByteArray := prog_9_method_11_code
def yX7_readLiking : MethodName := ⟨RX7, "readLiking", "(LRoomRings$House;I)V"⟩
abbrev cX7_readRoom : ByteArray := prog_9_method_12_code
def yX7_readRoom : MethodName := ⟨RX7, "readRoom", "(LRoomRings$House;)I"⟩
abbrev cX7_readNumber : ByteArray := prog_9_method_13_code
def yX7_readNumber : MethodName := ⟨RX7, "readNumber", "()I"⟩
abbrev cX7_isFigure : ByteArray := prog_9_method_14_code
def yX7_isFigure : MethodName := ⟨RX7, "isFigure", "(I)Z"⟩
def RX8 : String := "RoomRings"
def TX8 : u_T := fun k => match k with
  | 0 => ("RoomRings", "text", "LRoomRings$Text;", true)
  | 1 => ("RoomRings", "house", "LRoomRings$House;", true)
  | 2 => ("RoomRings", "trial", "LRoomRings$House;", true)
  | 3 => ("RoomRings", "dealing", "LRoomRings$Dealing;", true)
  | 4 => ("RoomRings", "bartering", "LRoomRings$Bartering;", true)
  | 5 => ("RoomRings", "past", "LRoomRings$Past;", true)
  | 6 => ("RoomRings", "notebook", "LRoomRings$Notebook;", true)
  | 7 => ("RoomRings", "dice", "LRoomRings$Dice;", true)
  | _ => ("RoomRings", "images", "[LRoomRings$Image;", true)
def tyX8 : Nat → FieldType := fun k => match k with
  | 0 => .object "RoomRings$Text"
  | 1 => .object "RoomRings$House"
  | 2 => .object "RoomRings$House"
  | 3 => .object "RoomRings$Dealing"
  | 4 => .object "RoomRings$Bartering"
  | 5 => .object "RoomRings$Past"
  | 6 => .object "RoomRings$Notebook"
  | 7 => .object "RoomRings$Dice"
  | _ => .array (.object "RoomRings$Image")
theorem nmX8 : ∀ a, a < 9 → ∀ b, b < 9 → a ≠ b → (TX8 a).2.1 ≠ (TX8 b).2.1 := by decide +kernel
theorem tyX8_ok : ∀ k, k < 9 → parseFieldDescriptor (TX8 k).2.2.1 = some (tyX8 k) := by decide +kernel
abbrev cX8_init : ByteArray := prog_1_method_1_code
def yX8_init : MethodName := ⟨RX8, "<init>", "()V"⟩
abbrev cX8_feed : ByteArray := prog_1_method_2_code
def yX8_feed : MethodName := ⟨RX8, "feed", "(I)I"⟩
abbrev cX8_hostel : ByteArray := prog_1_method_3_code
def yX8_hostel : MethodName := ⟨RX8, "hostel", "()I"⟩
abbrev cX8_fault : ByteArray := prog_1_method_4_code
def yX8_fault : MethodName := ⟨RX8, "fault", "()I"⟩
abbrev cX8_told : ByteArray := prog_1_method_5_code
def yX8_told : MethodName := ⟨RX8, "told", "(I)I"⟩
abbrev cX8_person : ByteArray := prog_1_method_6_code
def yX8_person : MethodName := ⟨RX8, "person", "(II)I"⟩
abbrev cX8_likes : ByteArray := prog_1_method_7_code
def yX8_likes : MethodName := ⟨RX8, "likes", "(II)I"⟩
abbrev cX8_room : ByteArray := prog_1_method_8_code
def yX8_room : MethodName := ⟨RX8, "room", "(II)I"⟩
abbrev cX8_like : ByteArray := prog_1_method_9_code
def yX8_like : MethodName := ⟨RX8, "like", "(III)I"⟩
abbrev cX8_strike : ByteArray := prog_1_method_10_code
def yX8_strike : MethodName := ⟨RX8, "strike", "(II)I"⟩
abbrev cX8_lot : ByteArray := prog_1_method_11_code
def yX8_lot : MethodName := ⟨RX8, "lot", "(II)I"⟩
abbrev cX8_refuse : ByteArray := prog_1_method_12_code
def yX8_refuse : MethodName := ⟨RX8, "refuse", "(I)I"⟩
abbrev cX8_moved : ByteArray := prog_1_method_13_code
def yX8_moved : MethodName := ⟨RX8, "moved", "()I"⟩
abbrev cX8_leave : ByteArray := prog_1_method_14_code
def yX8_leave : MethodName := ⟨RX8, "leave", "(I)I"⟩
abbrev cX8_drift : ByteArray := prog_1_method_15_code
def yX8_drift : MethodName := ⟨RX8, "drift", "(I)I"⟩
abbrev cX8_undo : ByteArray := prog_1_method_16_code
def yX8_undo : MethodName := ⟨RX8, "undo", "(I)I"⟩
abbrev cX8_otherwise : ByteArray := prog_1_method_17_code
def yX8_otherwise : MethodName := ⟨RX8, "otherwise", "(II)I"⟩
abbrev cX8_odds : ByteArray := prog_1_method_18_code
def yX8_odds : MethodName := ⟨RX8, "odds", "(II)I"⟩
abbrev cX8_quiet : ByteArray := prog_1_method_19_code
def yX8_quiet : MethodName := ⟨RX8, "quiet", "(II)I"⟩
abbrev cX8_see : ByteArray := prog_1_method_20_code
def yX8_see : MethodName := ⟨RX8, "see", "(IZ)I"⟩
abbrev cX8_couldBe : ByteArray := prog_1_method_21_code
def yX8_couldBe : MethodName := ⟨RX8, "couldBe", "()I"⟩
abbrev cX8_ask : ByteArray := prog_1_method_22_code
def yX8_ask : MethodName := ⟨RX8, "ask", "()I"⟩
abbrev cX8_write : ByteArray := prog_1_method_23_code
def yX8_write : MethodName := ⟨RX8, "write", "(II)I"⟩
abbrev cX8_judge : ByteArray := prog_1_method_24_code
def yX8_judge : MethodName := ⟨RX8, "judge", "()I"⟩
abbrev cX8_tear : ByteArray := prog_1_method_25_code
def yX8_tear : MethodName := ⟨RX8, "tear", "()I"⟩
abbrev cX8_seed : ByteArray := prog_1_method_26_code
def yX8_seed : MethodName := ⟨RX8, "seed", "(I)I"⟩
abbrev cX8_keep : ByteArray := prog_1_method_27_code
def yX8_keep : MethodName := ⟨RX8, "keep", "(I)I"⟩
abbrev cX8_goBack : ByteArray := prog_1_method_28_code
def yX8_goBack : MethodName := ⟨RX8, "goBack", "(I)I"⟩
abbrev cX8_imageAt : ByteArray := prog_1_method_29_code
def yX8_imageAt : MethodName := ⟨RX8, "imageAt", "(I)LRoomRings$Image;"⟩
abbrev cX8_dealt : ByteArray := prog_1_method_30_code
def yX8_dealt : MethodName := ⟨RX8, "dealt", "()LRoomRings$Dealing;"⟩
abbrev cX8_weighed : ByteArray := prog_1_method_31_code
def yX8_weighed : MethodName := ⟨RX8, "weighed", "()LRoomRings$Bartering;"⟩
abbrev cX8_moveAll : ByteArray := prog_1_method_32_code
def yX8_moveAll : MethodName := ⟨RX8, "moveAll", "()I"⟩
abbrev cX8_drawDeed : ByteArray := prog_1_method_33_code
def yX8_drawDeed : MethodName := ⟨RX8, "drawDeed", "()V"⟩
abbrev cX8_chosenByLot : ByteArray := prog_1_method_34_code
def yX8_chosenByLot : MethodName := ⟨RX8, "chosenByLot", "(I)I"⟩
abbrev cX8_at : ByteArray := prog_1_method_35_code
def yX8_at : MethodName := ⟨RX8, "at", "([II)I"⟩
abbrev cX8_put : ByteArray := prog_1_method_36_code
def yX8_put : MethodName := ⟨RX8, "put", "([III)V"⟩
abbrev cX8_firstOnes : ByteArray := prog_1_method_37_code
def yX8_firstOnes : MethodName := ⟨RX8, "firstOnes", "(I)I"⟩
abbrev cX8_holds : ByteArray := prog_1_method_38_code
def yX8_holds : MethodName := ⟨RX8, "holds", "(II)Z"⟩
abbrev cX8_with : ByteArray := prog_1_method_39_code
def yX8_with : MethodName := ⟨RX8, "with", "(II)I"⟩
abbrev cX8_without : ByteArray := prog_1_method_40_code
def yX8_without : MethodName := ⟨RX8, "without", "(II)I"⟩
def RX9 : String := "RoomRingsModel"
def TX9 : u_T := fun k => match k with
  | 0 => ("RoomRingsModel", "w", "[I", true)
  | 1 => ("RoomRingsModel", "rooms", "I", false)
  | 2 => ("RoomRingsModel", "persons", "I", false)
  | 3 => ("RoomRingsModel", "known", "I", false)
  | 4 => ("RoomRingsModel", "kept", "I", false)
  | 5 => ("RoomRingsModel", "text", "[I", true)
  | 6 => ("RoomRingsModel", "size", "I", false)
  | 7 => ("RoomRingsModel", "fault", "I", false)
  | 8 => ("RoomRingsModel", "got", "[I", true)
  | 9 => ("RoomRingsModel", "roundOf", "[I", true)
  | 10 => ("RoomRingsModel", "ringOf", "[I", true)
  | 11 => ("RoomRingsModel", "rounds", "I", false)
  | 12 => ("RoomRingsModel", "wants", "[I", true)
  | 13 => ("RoomRingsModel", "seenRoom", "[I", true)
  | 14 => ("RoomRingsModel", "seenGot", "[I", true)
  | 15 => ("RoomRingsModel", "seen", "I", false)
  | 16 => ("RoomRingsModel", "bookOf", "[I", true)
  | 17 => ("RoomRingsModel", "bookRoom", "[I", true)
  | 18 => ("RoomRingsModel", "written", "I", false)
  | 19 => ("RoomRingsModel", "at", "I", false)
  | 20 => ("RoomRingsModel", "wrong", "I", false)
  | 21 => ("RoomRingsModel", "place", "I", false)
  | 22 => ("RoomRingsModel", "readRooms", "I", false)
  | 23 => ("RoomRingsModel", "readPersons", "I", false)
  | 24 => ("RoomRingsModel", "from", "I", false)
  | 25 => ("RoomRingsModel", "there", "I", false)
  | 26 => ("RoomRingsModel", "open", "I", false)
  | _ => ("RoomRingsModel", "ways", "[I", true)
def tyX9 : Nat → FieldType := fun k => match k with
  | 0 => .array .int
  | 1 => .int
  | 2 => .int
  | 3 => .int
  | 4 => .int
  | 5 => .array .int
  | 6 => .int
  | 7 => .int
  | 8 => .array .int
  | 9 => .array .int
  | 10 => .array .int
  | 11 => .int
  | 12 => .array .int
  | 13 => .array .int
  | 14 => .array .int
  | 15 => .int
  | 16 => .array .int
  | 17 => .array .int
  | 18 => .int
  | 19 => .int
  | 20 => .int
  | 21 => .int
  | 22 => .int
  | 23 => .int
  | 24 => .int
  | 25 => .int
  | 26 => .int
  | _ => .array .int
theorem nmX9 : ∀ a, a < 28 → ∀ b, b < 28 → a ≠ b → (TX9 a).2.1 ≠ (TX9 b).2.1 := by decide +kernel
theorem tyX9_ok : ∀ k, k < 28 → parseFieldDescriptor (TX9 k).2.2.1 = some (tyX9 k) := by decide +kernel
abbrev cX9_init : ByteArray := prog_11_method_1_code
def yX9_init : MethodName := ⟨RX9, "<init>", "()V"⟩
abbrev cX9_in : ByteArray := prog_11_method_3_code
def yX9_in : MethodName := ⟨RX9, "in", "(III)Z"⟩
abbrev cX9_has : ByteArray := prog_11_method_4_code
def yX9_has : MethodName := ⟨RX9, "has", "(II)Z"⟩
abbrev cX9_bits : ByteArray := prog_11_method_5_code
def yX9_bits : MethodName := ⟨RX9, "bits", "(I)I"⟩
abbrev cX9_copyRow : ByteArray := prog_11_method_6_code
def yX9_copyRow : MethodName := ⟨RX9, "copyRow", "(II)V"⟩
abbrev cX9_beginLots : ByteArray := prog_11_method_7_code
def yX9_beginLots : MethodName := ⟨RX9, "beginLots", "(I)V"⟩
abbrev cX9_isPerson : ByteArray := prog_11_method_8_code
def yX9_isPerson : MethodName := ⟨RX9, "isPerson", "(I)Z"⟩
abbrev cX9_isRoom : ByteArray := prog_11_method_9_code
def yX9_isRoom : MethodName := ⟨RX9, "isRoom", "(I)Z"⟩
abbrev cX9_feed : ByteArray := prog_11_method_10_code
def yX9_feed : MethodName := ⟨RX9, "feed", "(I)I"⟩
abbrev cX9_fine : ByteArray := prog_11_method_11_code
def yX9_fine : MethodName := ⟨RX9, "fine", "()Z"⟩
abbrev cX9_fail : ByteArray := prog_11_method_12_code
def yX9_fail : MethodName := ⟨RX9, "fail", "(II)V"⟩
abbrev cX9_here : ByteArray := prog_11_method_13_code
def yX9_here : MethodName := ⟨RX9, "here", "()I"⟩
abbrev cX9_number : ByteArray := prog_11_method_14_code
def yX9_number : MethodName := ⟨RX9, "number", "(II)I"⟩
abbrev cX9_sitterIn : ByteArray := prog_11_method_15_code
def yX9_sitterIn : MethodName := ⟨RX9, "sitterIn", "(III)I"⟩
abbrev cX9_placeOfLike : ByteArray := prog_11_method_16_code
def yX9_placeOfLike : MethodName := ⟨RX9, "placeOfLike", "(III)I"⟩
abbrev cX9_readLike : ByteArray := prog_11_method_17_code
def yX9_readLike : MethodName := ⟨RX9, "readLike", "(I)V"⟩
abbrev cX9_readPerson : ByteArray := prog_11_method_18_code
def yX9_readPerson : MethodName := ⟨RX9, "readPerson", "(I)V"⟩
abbrev cX9_readClause : ByteArray := prog_11_method_19_code
def yX9_readClause : MethodName := ⟨RX9, "readClause", "()V"⟩
abbrev cX9_hostel : ByteArray := prog_11_method_20_code
def yX9_hostel : MethodName := ⟨RX9, "hostel", "()I"⟩
abbrev cX9_fault : ByteArray := prog_11_method_21_code
def yX9_fault : MethodName := ⟨RX9, "fault", "()I"⟩
abbrev cX9_layWants : ByteArray := prog_11_method_22_code
def yX9_layWants : MethodName := ⟨RX9, "layWants", "(II)I"⟩
abbrev cX9_rankOf : ByteArray := prog_11_method_23_code
def yX9_rankOf : MethodName := ⟨RX9, "rankOf", "(III)I"⟩
abbrev cX9_mostOf : ByteArray := prog_11_method_24_code
def yX9_mostOf : MethodName := ⟨RX9, "mostOf", "(III)I"⟩
abbrev cX9_firstByLots : ByteArray := prog_11_method_25_code
def yX9_firstByLots : MethodName := ⟨RX9, "firstByLots", "(I)I"⟩
abbrev cX9_pointsAt : ByteArray := prog_11_method_26_code
def yX9_pointsAt : MethodName := ⟨RX9, "pointsAt", "(II)I"⟩
abbrev cX9_next : ByteArray := prog_11_method_27_code
def yX9_next : MethodName := ⟨RX9, "next", "(II)I"⟩
abbrev cX9_dropThoseWithout : ByteArray := prog_11_method_28_code
def yX9_dropThoseWithout : MethodName := ⟨RX9, "dropThoseWithout", "(I)V"⟩
abbrev cX9_ringFrom : ByteArray := prog_11_method_29_code
def yX9_ringFrom : MethodName := ⟨RX9, "ringFrom", "(II)I"⟩
abbrev cX9_giveRings : ByteArray := prog_11_method_30_code
def yX9_giveRings : MethodName := ⟨RX9, "giveRings", "(I)V"⟩
abbrev cX9_giveOut : ByteArray := prog_11_method_31_code
def yX9_giveOut : MethodName := ⟨RX9, "giveOut", "(I)V"⟩
abbrev cX9_whoGets : ByteArray := prog_11_method_32_code
def yX9_whoGets : MethodName := ⟨RX9, "whoGets", "(I)I"⟩
abbrev cX9_without : ByteArray := prog_11_method_33_code
def yX9_without : MethodName := ⟨RX9, "without", "()I"⟩
abbrev cX9_roomsLeft : ByteArray := prog_11_method_34_code
def yX9_roomsLeft : MethodName := ⟨RX9, "roomsLeft", "(I)I"⟩
abbrev cX9_partings : ByteArray := prog_11_method_35_code
def yX9_partings : MethodName := ⟨RX9, "partings", "(I)I"⟩
abbrev cX9_personAt : ByteArray := prog_11_method_36_code
def yX9_personAt : MethodName := ⟨RX9, "personAt", "(II)I"⟩
abbrev cX9_sitters : ByteArray := prog_11_method_37_code
def yX9_sitters : MethodName := ⟨RX9, "sitters", "()I"⟩
abbrev cX9_groups : ByteArray := prog_11_method_38_code
def yX9_groups : MethodName := ⟨RX9, "groups", "(Z)I"⟩
abbrev cX9_told : ByteArray := prog_11_method_39_code
def yX9_told : MethodName := ⟨RX9, "told", "(I)I"⟩
abbrev cX9_byLot : ByteArray := prog_11_method_40_code
def yX9_byLot : MethodName := ⟨RX9, "byLot", "(I)I"⟩
abbrev cX9_kept : ByteArray := prog_11_method_41_code
def yX9_kept : MethodName := ⟨RX9, "kept", "(I)I"⟩
abbrev cX9_placeInLots : ByteArray := prog_11_method_42_code
def yX9_placeInLots : MethodName := ⟨RX9, "placeInLots", "(I)I"⟩
abbrev cX9_better : ByteArray := prog_11_method_43_code
def yX9_better : MethodName := ⟨RX9, "better", "(I)I"⟩
abbrev cX9_person : ByteArray := prog_11_method_44_code
def yX9_person : MethodName := ⟨RX9, "person", "(II)I"⟩
abbrev cX9_likes : ByteArray := prog_11_method_45_code
def yX9_likes : MethodName := ⟨RX9, "likes", "(II)I"⟩
abbrev cX9_room : ByteArray := prog_11_method_46_code
def yX9_room : MethodName := ⟨RX9, "room", "(II)I"⟩
abbrev cX9_remember : ByteArray := prog_11_method_47_code
def yX9_remember : MethodName := ⟨RX9, "remember", "()V"⟩
abbrev cX9_strikeOut : ByteArray := prog_11_method_48_code
def yX9_strikeOut : MethodName := ⟨RX9, "strikeOut", "(III)V"⟩
abbrev cX9_putIn : ByteArray := prog_11_method_49_code
def yX9_putIn : MethodName := ⟨RX9, "putIn", "(IIII)V"⟩
abbrev cX9_like : ByteArray := prog_11_method_50_code
def yX9_like : MethodName := ⟨RX9, "like", "(III)I"⟩
abbrev cX9_strike : ByteArray := prog_11_method_51_code
def yX9_strike : MethodName := ⟨RX9, "strike", "(II)I"⟩
abbrev cX9_setLot : ByteArray := prog_11_method_52_code
def yX9_setLot : MethodName := ⟨RX9, "setLot", "(II)V"⟩
abbrev cX9_lot : ByteArray := prog_11_method_53_code
def yX9_lot : MethodName := ⟨RX9, "lot", "(II)I"⟩
abbrev cX9_refuse : ByteArray := prog_11_method_54_code
def yX9_refuse : MethodName := ⟨RX9, "refuse", "(I)I"⟩
abbrev cX9_moveAll : ByteArray := prog_11_method_55_code
def yX9_moveAll : MethodName := ⟨RX9, "moveAll", "()I"⟩
abbrev cX9_moved : ByteArray := prog_11_method_56_code
def yX9_moved : MethodName := ⟨RX9, "moved", "()I"⟩
abbrev cX9_leave : ByteArray := prog_11_method_57_code
def yX9_leave : MethodName := ⟨RX9, "leave", "(I)I"⟩
abbrev cX9_draw : ByteArray := prog_11_method_58_code
def yX9_draw : MethodName := ⟨RX9, "draw", "(I)I"⟩
abbrev cX9_time : ByteArray := prog_11_method_59_code
def yX9_time : MethodName := ⟨RX9, "time", "()V"⟩
abbrev cX9_drift : ByteArray := prog_11_method_60_code
def yX9_drift : MethodName := ⟨RX9, "drift", "(I)I"⟩
abbrev cX9_undo : ByteArray := prog_11_method_61_code
def yX9_undo : MethodName := ⟨RX9, "undo", "(I)I"⟩
abbrev cX9_otherwise : ByteArray := prog_11_method_62_code
def yX9_otherwise : MethodName := ⟨RX9, "otherwise", "(II)I"⟩
abbrev cX9_nextLots : ByteArray := prog_11_method_63_code
def yX9_nextLots : MethodName := ⟨RX9, "nextLots", "()Z"⟩
abbrev cX9_swap : ByteArray := prog_11_method_64_code
def yX9_swap : MethodName := ⟨RX9, "swap", "(II)V"⟩
abbrev cX9_odds : ByteArray := prog_11_method_65_code
def yX9_odds : MethodName := ⟨RX9, "odds", "(II)I"⟩
abbrev cX9_quiet : ByteArray := prog_11_method_66_code
def yX9_quiet : MethodName := ⟨RX9, "quiet", "(II)I"⟩
abbrev cX9_isRoomOrNone : ByteArray := prog_11_method_67_code
def yX9_isRoomOrNone : MethodName := ⟨RX9, "isRoomOrNone", "(I)Z"⟩
abbrev cX9_see : ByteArray := prog_11_method_68_code
def yX9_see : MethodName := ⟨RX9, "see", "(IZ)I"⟩
abbrev cX9_couldBe : ByteArray := prog_11_method_69_code
def yX9_couldBe : MethodName := ⟨RX9, "couldBe", "()I"⟩
abbrev cX9_ask : ByteArray := prog_11_method_70_code
def yX9_ask : MethodName := ⟨RX9, "ask", "()I"⟩
abbrev cX9_write : ByteArray := prog_11_method_71_code
def yX9_write : MethodName := ⟨RX9, "write", "(II)I"⟩
abbrev cX9_judge : ByteArray := prog_11_method_72_code
def yX9_judge : MethodName := ⟨RX9, "judge", "()I"⟩
abbrev cX9_tear : ByteArray := prog_11_method_73_code
def yX9_tear : MethodName := ⟨RX9, "tear", "()I"⟩
abbrev cX9_seed : ByteArray := prog_11_method_74_code
def yX9_seed : MethodName := ⟨RX9, "seed", "(I)I"⟩
abbrev cX9_keep : ByteArray := prog_11_method_75_code
def yX9_keep : MethodName := ⟨RX9, "keep", "(I)I"⟩
abbrev cX9_goBack : ByteArray := prog_11_method_76_code
def yX9_goBack : MethodName := ⟨RX9, "goBack", "(I)I"⟩
def RJ6 : String := "java/lang/Integer"
abbrev cJ6_bitCount_0f7a4 : ByteArray := prog_12_method_49_code
def yJ6_bitCount_0f7a4 : MethodName := ⟨RJ6, "bitCount", "(I)I"⟩
def RJ9 : String := "java/lang/Math"
abbrev cJ9_max_7cf53 : ByteArray := prog_13_method_65_code
def yJ9_max_7cf53 : MethodName := ⟨RJ9, "max", "(II)I"⟩
abbrev cJ9_min_7cf53 : ByteArray := prog_13_method_69_code
def yJ9_min_7cf53 : MethodName := ⟨RJ9, "min", "(II)I"⟩
def RJ10 : String := "java/lang/System"
def RL : String := "RoomRingsLaw"
abbrev cL_law : ByteArray := code
def yL_law : MethodName := ⟨RL, "law", "([I)Z"⟩
abbrev vwCl : List vw_C := [(RX0, TX0, 3), (RX1, TX1, 8), (RX2, TX2, 1), (RX3, TX3, 6), (RX4, TX4, 3), (RX5, TX5, 6), (RX6, TX6, 2), (RX7, TX7, 6), (RX8, TX8, 9), (RX9, TX9, 28)]
end
section
theorem dJ6_bitCount_0f7a4_0 : decode cJ6_bitCount_0f7a4 0 = .ok (.iload_n 0, 1) := by decide +kernel
theorem dJ6_bitCount_0f7a4_1 : decode cJ6_bitCount_0f7a4 1 = .ok (.iload_n 0, 1) := by decide +kernel
theorem dJ6_bitCount_0f7a4_2 : decode cJ6_bitCount_0f7a4 2 = .ok (.iconst 1, 1) := by decide +kernel
theorem dJ6_bitCount_0f7a4_3 : decode cJ6_bitCount_0f7a4 3 = .ok (.iushr, 1) := by decide +kernel
theorem dJ6_bitCount_0f7a4_4 : decode cJ6_bitCount_0f7a4 4 = .ok (.ldc_w 265, 3) := by decide +kernel
theorem dJ6_bitCount_0f7a4_7 : decode cJ6_bitCount_0f7a4 7 = .ok (.iand, 1) := by decide +kernel
theorem dJ6_bitCount_0f7a4_8 : decode cJ6_bitCount_0f7a4 8 = .ok (.isub, 1) := by decide +kernel
theorem dJ6_bitCount_0f7a4_9 : decode cJ6_bitCount_0f7a4 9 = .ok (.istore_n 0, 1) := by decide +kernel
theorem dJ6_bitCount_0f7a4_10 : decode cJ6_bitCount_0f7a4 10 = .ok (.iload_n 0, 1) := by decide +kernel
theorem dJ6_bitCount_0f7a4_11 : decode cJ6_bitCount_0f7a4 11 = .ok (.ldc_w 266, 3) := by decide +kernel
theorem dJ6_bitCount_0f7a4_14 : decode cJ6_bitCount_0f7a4 14 = .ok (.iand, 1) := by decide +kernel
theorem dJ6_bitCount_0f7a4_15 : decode cJ6_bitCount_0f7a4 15 = .ok (.iload_n 0, 1) := by decide +kernel
theorem dJ6_bitCount_0f7a4_16 : decode cJ6_bitCount_0f7a4 16 = .ok (.iconst 2, 1) := by decide +kernel
theorem dJ6_bitCount_0f7a4_17 : decode cJ6_bitCount_0f7a4 17 = .ok (.iushr, 1) := by decide +kernel
theorem dJ6_bitCount_0f7a4_18 : decode cJ6_bitCount_0f7a4 18 = .ok (.ldc_w 266, 3) := by decide +kernel
theorem dJ6_bitCount_0f7a4_21 : decode cJ6_bitCount_0f7a4 21 = .ok (.iand, 1) := by decide +kernel
theorem dJ6_bitCount_0f7a4_22 : decode cJ6_bitCount_0f7a4 22 = .ok (.iadd, 1) := by decide +kernel
theorem dJ6_bitCount_0f7a4_23 : decode cJ6_bitCount_0f7a4 23 = .ok (.istore_n 0, 1) := by decide +kernel
theorem dJ6_bitCount_0f7a4_24 : decode cJ6_bitCount_0f7a4 24 = .ok (.iload_n 0, 1) := by decide +kernel
theorem dJ6_bitCount_0f7a4_25 : decode cJ6_bitCount_0f7a4 25 = .ok (.iload_n 0, 1) := by decide +kernel
theorem dJ6_bitCount_0f7a4_26 : decode cJ6_bitCount_0f7a4 26 = .ok (.iconst 4, 1) := by decide +kernel
theorem dJ6_bitCount_0f7a4_27 : decode cJ6_bitCount_0f7a4 27 = .ok (.iushr, 1) := by decide +kernel
theorem dJ6_bitCount_0f7a4_28 : decode cJ6_bitCount_0f7a4 28 = .ok (.iadd, 1) := by decide +kernel
theorem dJ6_bitCount_0f7a4_29 : decode cJ6_bitCount_0f7a4 29 = .ok (.ldc_w 267, 3) := by decide +kernel
theorem dJ6_bitCount_0f7a4_32 : decode cJ6_bitCount_0f7a4 32 = .ok (.iand, 1) := by decide +kernel
theorem dJ6_bitCount_0f7a4_33 : decode cJ6_bitCount_0f7a4 33 = .ok (.istore_n 0, 1) := by decide +kernel
theorem dJ6_bitCount_0f7a4_34 : decode cJ6_bitCount_0f7a4 34 = .ok (.iload_n 0, 1) := by decide +kernel
theorem dJ6_bitCount_0f7a4_35 : decode cJ6_bitCount_0f7a4 35 = .ok (.iload_n 0, 1) := by decide +kernel
theorem dJ6_bitCount_0f7a4_36 : decode cJ6_bitCount_0f7a4 36 = .ok (.bipush 8, 2) := by decide +kernel
theorem dJ6_bitCount_0f7a4_38 : decode cJ6_bitCount_0f7a4 38 = .ok (.iushr, 1) := by decide +kernel
theorem dJ6_bitCount_0f7a4_39 : decode cJ6_bitCount_0f7a4 39 = .ok (.iadd, 1) := by decide +kernel
theorem dJ6_bitCount_0f7a4_40 : decode cJ6_bitCount_0f7a4 40 = .ok (.istore_n 0, 1) := by decide +kernel
theorem dJ6_bitCount_0f7a4_41 : decode cJ6_bitCount_0f7a4 41 = .ok (.iload_n 0, 1) := by decide +kernel
theorem dJ6_bitCount_0f7a4_42 : decode cJ6_bitCount_0f7a4 42 = .ok (.iload_n 0, 1) := by decide +kernel
theorem dJ6_bitCount_0f7a4_43 : decode cJ6_bitCount_0f7a4 43 = .ok (.bipush 16, 2) := by decide +kernel
theorem dJ6_bitCount_0f7a4_45 : decode cJ6_bitCount_0f7a4 45 = .ok (.iushr, 1) := by decide +kernel
theorem dJ6_bitCount_0f7a4_46 : decode cJ6_bitCount_0f7a4 46 = .ok (.iadd, 1) := by decide +kernel
theorem dJ6_bitCount_0f7a4_47 : decode cJ6_bitCount_0f7a4 47 = .ok (.istore_n 0, 1) := by decide +kernel
theorem dJ6_bitCount_0f7a4_48 : decode cJ6_bitCount_0f7a4 48 = .ok (.iload_n 0, 1) := by decide +kernel
theorem dJ6_bitCount_0f7a4_49 : decode cJ6_bitCount_0f7a4 49 = .ok (.bipush 63, 2) := by decide +kernel
theorem dJ6_bitCount_0f7a4_51 : decode cJ6_bitCount_0f7a4 51 = .ok (.iand, 1) := by decide +kernel
theorem dJ6_bitCount_0f7a4_52 : decode cJ6_bitCount_0f7a4 52 = .ok (.ireturn, 1) := by decide +kernel
theorem dJ9_max_7cf53_0 : decode cJ9_max_7cf53 0 = .ok (.iload_n 0, 1) := by decide +kernel
theorem dJ9_max_7cf53_1 : decode cJ9_max_7cf53 1 = .ok (.iload_n 1, 1) := by decide +kernel
theorem dJ9_max_7cf53_2 : decode cJ9_max_7cf53 2 = .ok (.if_icmp .lt 7, 3) := by decide +kernel
theorem dJ9_max_7cf53_5 : decode cJ9_max_7cf53 5 = .ok (.iload_n 0, 1) := by decide +kernel
theorem dJ9_max_7cf53_6 : decode cJ9_max_7cf53 6 = .ok (.goto 4, 3) := by decide +kernel
theorem dJ9_max_7cf53_9 : decode cJ9_max_7cf53 9 = .ok (.iload_n 1, 1) := by decide +kernel
theorem dJ9_max_7cf53_10 : decode cJ9_max_7cf53 10 = .ok (.ireturn, 1) := by decide +kernel
theorem dJ9_min_7cf53_0 : decode cJ9_min_7cf53 0 = .ok (.iload_n 0, 1) := by decide +kernel
theorem dJ9_min_7cf53_1 : decode cJ9_min_7cf53 1 = .ok (.iload_n 1, 1) := by decide +kernel
theorem dJ9_min_7cf53_2 : decode cJ9_min_7cf53 2 = .ok (.if_icmp .gt 7, 3) := by decide +kernel
theorem dJ9_min_7cf53_5 : decode cJ9_min_7cf53 5 = .ok (.iload_n 0, 1) := by decide +kernel
theorem dJ9_min_7cf53_6 : decode cJ9_min_7cf53 6 = .ok (.goto 4, 3) := by decide +kernel
theorem dJ9_min_7cf53_9 : decode cJ9_min_7cf53 9 = .ok (.iload_n 1, 1) := by decide +kernel
theorem dJ9_min_7cf53_10 : decode cJ9_min_7cf53 10 = .ok (.ireturn, 1) := by decide +kernel
theorem dX0_init_0 : decode cX0_init 0 = .ok (.aload_n 0, 1) := by decide +kernel
theorem dX0_init_1 : decode cX0_init 1 = .ok (.invokespecial 3, 3) := by decide +kernel
theorem dX0_init_4 : decode cX0_init 4 = .ok (.aload_n 0, 1) := by decide +kernel
theorem dX0_init_5 : decode cX0_init 5 = .ok (.bipush 6, 2) := by decide +kernel
theorem dX0_init_7 : decode cX0_init 7 = .ok (.newarray .int, 2) := by decide +kernel
theorem dX0_init_9 : decode cX0_init 9 = .ok (.putfield 9, 3) := by decide +kernel
theorem dX0_init_12 : decode cX0_init 12 = .ok (.return_, 1) := by decide +kernel
theorem dX0_weigh_0 : decode cX0_weigh 0 = .ok (.iconst 0, 1) := by decide +kernel
theorem dX0_weigh_1 : decode cX0_weigh 1 = .ok (.istore_n 2, 1) := by decide +kernel
theorem dX0_weigh_2 : decode cX0_weigh 2 = .ok (.iconst 0, 1) := by decide +kernel
theorem dX0_weigh_3 : decode cX0_weigh 3 = .ok (.istore_n 3, 1) := by decide +kernel
theorem dX0_weigh_4 : decode cX0_weigh 4 = .ok (.iload_n 3, 1) := by decide +kernel
theorem dX0_weigh_5 : decode cX0_weigh 5 = .ok (.aload_n 1, 1) := by decide +kernel
theorem dX0_weigh_6 : decode cX0_weigh 6 = .ok (.getfield 15, 3) := by decide +kernel
theorem dX0_weigh_9 : decode cX0_weigh 9 = .ok (.if_icmp .ge 38, 3) := by decide +kernel
theorem dX0_weigh_12 : decode cX0_weigh 12 = .ok (.aload_n 1, 1) := by decide +kernel
theorem dX0_weigh_13 : decode cX0_weigh 13 = .ok (.iload_n 3, 1) := by decide +kernel
theorem dX0_weigh_14 : decode cX0_weigh 14 = .ok (.invokevirtual 21, 3) := by decide +kernel
theorem dX0_weigh_17 : decode cX0_weigh 17 = .ok (.iconst (-1), 1) := by decide +kernel
theorem dX0_weigh_18 : decode cX0_weigh 18 = .ok (.if_icmp .eq 9, 3) := by decide +kernel
theorem dX0_weigh_21 : decode cX0_weigh 21 = .ok (.iload_n 2, 1) := by decide +kernel
theorem dX0_weigh_22 : decode cX0_weigh 22 = .ok (.iload_n 3, 1) := by decide +kernel
theorem dX0_weigh_23 : decode cX0_weigh 23 = .ok (.invokestatic 25, 3) := by decide +kernel
theorem dX0_weigh_26 : decode cX0_weigh 26 = .ok (.istore_n 2, 1) := by decide +kernel
theorem dX0_weigh_27 : decode cX0_weigh 27 = .ok (.aload_n 0, 1) := by decide +kernel
theorem dX0_weigh_28 : decode cX0_weigh 28 = .ok (.getfield 9, 3) := by decide +kernel
theorem dX0_weigh_31 : decode cX0_weigh 31 = .ok (.iload_n 3, 1) := by decide +kernel
theorem dX0_weigh_32 : decode cX0_weigh 32 = .ok (.aload_n 0, 1) := by decide +kernel
theorem dX0_weigh_33 : decode cX0_weigh 33 = .ok (.aload_n 1, 1) := by decide +kernel
theorem dX0_weigh_34 : decode cX0_weigh 34 = .ok (.iload_n 3, 1) := by decide +kernel
theorem dX0_weigh_35 : decode cX0_weigh 35 = .ok (.invokevirtual 29, 3) := by decide +kernel
theorem dX0_weigh_38 : decode cX0_weigh 38 = .ok (.invokestatic 33, 3) := by decide +kernel
theorem dX0_weigh_41 : decode cX0_weigh 41 = .ok (.iinc 3 1, 3) := by decide +kernel
theorem dX0_weigh_44 : decode cX0_weigh 44 = .ok (.goto (-40), 3) := by decide +kernel
theorem dX0_weigh_47 : decode cX0_weigh 47 = .ok (.aload_n 0, 1) := by decide +kernel
theorem dX0_weigh_48 : decode cX0_weigh 48 = .ok (.iconst (-1), 1) := by decide +kernel
theorem dX0_weigh_49 : decode cX0_weigh 49 = .ok (.putfield 37, 3) := by decide +kernel
theorem dX0_weigh_52 : decode cX0_weigh 52 = .ok (.aload_n 0, 1) := by decide +kernel
theorem dX0_weigh_53 : decode cX0_weigh 53 = .ok (.iconst 0, 1) := by decide +kernel
theorem dX0_weigh_54 : decode cX0_weigh 54 = .ok (.putfield 40, 3) := by decide +kernel
theorem dX0_weigh_57 : decode cX0_weigh 57 = .ok (.iconst 1, 1) := by decide +kernel
theorem dX0_weigh_58 : decode cX0_weigh 58 = .ok (.istore_n 3, 1) := by decide +kernel
theorem dX0_weigh_59 : decode cX0_weigh 59 = .ok (.iload_n 3, 1) := by decide +kernel
theorem dX0_weigh_60 : decode cX0_weigh 60 = .ok (.iload_n 2, 1) := by decide +kernel
theorem dX0_weigh_61 : decode cX0_weigh 61 = .ok (.if_icmp .gt 62, 3) := by decide +kernel
theorem dX0_weigh_64 : decode cX0_weigh 64 = .ok (.iload_n 3, 1) := by decide +kernel
theorem dX0_weigh_65 : decode cX0_weigh 65 = .ok (.iload_n 2, 1) := by decide +kernel
theorem dX0_weigh_66 : decode cX0_weigh 66 = .ok (.iconst (-1), 1) := by decide +kernel
theorem dX0_weigh_67 : decode cX0_weigh 67 = .ok (.ixor, 1) := by decide +kernel
theorem dX0_weigh_68 : decode cX0_weigh 68 = .ok (.iand, 1) := by decide +kernel
theorem dX0_weigh_69 : decode cX0_weigh 69 = .ok (.ifCond .ne 48, 3) := by decide +kernel
theorem dX0_weigh_72 : decode cX0_weigh 72 = .ok (.aload_n 0, 1) := by decide +kernel
theorem dX0_weigh_73 : decode cX0_weigh 73 = .ok (.iload_n 3, 1) := by decide +kernel
theorem dX0_weigh_74 : decode cX0_weigh 74 = .ok (.invokevirtual 43, 3) := by decide +kernel
theorem dX0_weigh_77 : decode cX0_weigh 77 = .ok (.ifCond .eq 40, 3) := by decide +kernel
theorem dX0_weigh_80 : decode cX0_weigh 80 = .ok (.aload_n 0, 1) := by decide +kernel
theorem dX0_weigh_81 : decode cX0_weigh 81 = .ok (.dup, 1) := by decide +kernel
theorem dX0_weigh_82 : decode cX0_weigh 82 = .ok (.getfield 40, 3) := by decide +kernel
theorem dX0_weigh_85 : decode cX0_weigh 85 = .ok (.iconst 1, 1) := by decide +kernel
theorem dX0_weigh_86 : decode cX0_weigh 86 = .ok (.iadd, 1) := by decide +kernel
theorem dX0_weigh_87 : decode cX0_weigh 87 = .ok (.putfield 40, 3) := by decide +kernel
theorem dX0_weigh_90 : decode cX0_weigh 90 = .ok (.aload_n 0, 1) := by decide +kernel
theorem dX0_weigh_91 : decode cX0_weigh 91 = .ok (.getfield 37, 3) := by decide +kernel
theorem dX0_weigh_94 : decode cX0_weigh 94 = .ok (.iconst (-1), 1) := by decide +kernel
theorem dX0_weigh_95 : decode cX0_weigh 95 = .ok (.if_icmp .eq 17, 3) := by decide +kernel
theorem dX0_weigh_98 : decode cX0_weigh 98 = .ok (.iload_n 3, 1) := by decide +kernel
theorem dX0_weigh_99 : decode cX0_weigh 99 = .ok (.invokestatic 47, 3) := by decide +kernel
theorem dX0_weigh_102 : decode cX0_weigh 102 = .ok (.aload_n 0, 1) := by decide +kernel
theorem dX0_weigh_103 : decode cX0_weigh 103 = .ok (.getfield 37, 3) := by decide +kernel
theorem dX0_weigh_106 : decode cX0_weigh 106 = .ok (.invokestatic 47, 3) := by decide +kernel
theorem dX0_weigh_109 : decode cX0_weigh 109 = .ok (.if_icmp .ge 8, 3) := by decide +kernel
theorem dX0_weigh_112 : decode cX0_weigh 112 = .ok (.aload_n 0, 1) := by decide +kernel
theorem dX0_weigh_113 : decode cX0_weigh 113 = .ok (.iload_n 3, 1) := by decide +kernel
theorem dX0_weigh_114 : decode cX0_weigh 114 = .ok (.putfield 37, 3) := by decide +kernel
theorem dX0_weigh_117 : decode cX0_weigh 117 = .ok (.iinc 3 1, 3) := by decide +kernel
theorem dX0_weigh_120 : decode cX0_weigh 120 = .ok (.goto (-61), 3) := by decide +kernel
theorem dX0_weigh_123 : decode cX0_weigh 123 = .ok (.return_, 1) := by decide +kernel
theorem dX0_whomEnvies_0 : decode cX0_whomEnvies 0 = .ok (.aload_n 1, 1) := by decide +kernel
theorem dX0_whomEnvies_1 : decode cX0_whomEnvies 1 = .ok (.iload_n 2, 1) := by decide +kernel
theorem dX0_whomEnvies_2 : decode cX0_whomEnvies 2 = .ok (.invokevirtual 21, 3) := by decide +kernel
theorem dX0_whomEnvies_5 : decode cX0_whomEnvies 5 = .ok (.istore_n 3, 1) := by decide +kernel
theorem dX0_whomEnvies_6 : decode cX0_whomEnvies 6 = .ok (.aload_n 1, 1) := by decide +kernel
theorem dX0_whomEnvies_7 : decode cX0_whomEnvies 7 = .ok (.iload_n 2, 1) := by decide +kernel
theorem dX0_whomEnvies_8 : decode cX0_whomEnvies 8 = .ok (.iload_n 3, 1) := by decide +kernel
theorem dX0_whomEnvies_9 : decode cX0_whomEnvies 9 = .ok (.invokevirtual 52, 3) := by decide +kernel
theorem dX0_whomEnvies_12 : decode cX0_whomEnvies 12 = .ok (.istore 4, 2) := by decide +kernel
theorem dX0_whomEnvies_14 : decode cX0_whomEnvies 14 = .ok (.iconst 0, 1) := by decide +kernel
theorem dX0_whomEnvies_15 : decode cX0_whomEnvies 15 = .ok (.istore 5, 2) := by decide +kernel
theorem dX0_whomEnvies_17 : decode cX0_whomEnvies 17 = .ok (.iconst 0, 1) := by decide +kernel
theorem dX0_whomEnvies_18 : decode cX0_whomEnvies 18 = .ok (.istore 6, 2) := by decide +kernel
theorem dX0_whomEnvies_20 : decode cX0_whomEnvies 20 = .ok (.iload 6, 2) := by decide +kernel
theorem dX0_whomEnvies_22 : decode cX0_whomEnvies 22 = .ok (.aload_n 1, 1) := by decide +kernel
theorem dX0_whomEnvies_23 : decode cX0_whomEnvies 23 = .ok (.getfield 15, 3) := by decide +kernel
theorem dX0_whomEnvies_26 : decode cX0_whomEnvies 26 = .ok (.if_icmp .ge 49, 3) := by decide +kernel
theorem dX0_whomEnvies_29 : decode cX0_whomEnvies 29 = .ok (.aload_n 1, 1) := by decide +kernel
theorem dX0_whomEnvies_30 : decode cX0_whomEnvies 30 = .ok (.iload 6, 2) := by decide +kernel
theorem dX0_whomEnvies_32 : decode cX0_whomEnvies 32 = .ok (.invokevirtual 21, 3) := by decide +kernel
theorem dX0_whomEnvies_35 : decode cX0_whomEnvies 35 = .ok (.istore 7, 2) := by decide +kernel
theorem dX0_whomEnvies_37 : decode cX0_whomEnvies 37 = .ok (.iload_n 3, 1) := by decide +kernel
theorem dX0_whomEnvies_38 : decode cX0_whomEnvies 38 = .ok (.iconst (-1), 1) := by decide +kernel
theorem dX0_whomEnvies_39 : decode cX0_whomEnvies 39 = .ok (.if_icmp .eq 30, 3) := by decide +kernel
theorem dX0_whomEnvies_42 : decode cX0_whomEnvies 42 = .ok (.iload 7, 2) := by decide +kernel
theorem dX0_whomEnvies_44 : decode cX0_whomEnvies 44 = .ok (.iconst (-1), 1) := by decide +kernel
theorem dX0_whomEnvies_45 : decode cX0_whomEnvies 45 = .ok (.if_icmp .eq 24, 3) := by decide +kernel
theorem dX0_whomEnvies_48 : decode cX0_whomEnvies 48 = .ok (.aload_n 1, 1) := by decide +kernel
theorem dX0_whomEnvies_49 : decode cX0_whomEnvies 49 = .ok (.iload_n 2, 1) := by decide +kernel
theorem dX0_whomEnvies_50 : decode cX0_whomEnvies 50 = .ok (.iload 7, 2) := by decide +kernel
theorem dX0_whomEnvies_52 : decode cX0_whomEnvies 52 = .ok (.invokevirtual 52, 3) := by decide +kernel
theorem dX0_whomEnvies_55 : decode cX0_whomEnvies 55 = .ok (.iload 4, 2) := by decide +kernel
theorem dX0_whomEnvies_57 : decode cX0_whomEnvies 57 = .ok (.if_icmp .ge 12, 3) := by decide +kernel
theorem dX0_whomEnvies_60 : decode cX0_whomEnvies 60 = .ok (.iload 5, 2) := by decide +kernel
theorem dX0_whomEnvies_62 : decode cX0_whomEnvies 62 = .ok (.iload 6, 2) := by decide +kernel
theorem dX0_whomEnvies_64 : decode cX0_whomEnvies 64 = .ok (.invokestatic 25, 3) := by decide +kernel
theorem dX0_whomEnvies_67 : decode cX0_whomEnvies 67 = .ok (.istore 5, 2) := by decide +kernel
theorem dX0_whomEnvies_69 : decode cX0_whomEnvies 69 = .ok (.iinc 6 1, 3) := by decide +kernel
theorem dX0_whomEnvies_72 : decode cX0_whomEnvies 72 = .ok (.goto (-52), 3) := by decide +kernel
theorem dX0_whomEnvies_75 : decode cX0_whomEnvies 75 = .ok (.iload 5, 2) := by decide +kernel
theorem dX0_whomEnvies_77 : decode cX0_whomEnvies 77 = .ok (.ireturn, 1) := by decide +kernel
theorem dX0_hasRing_0 : decode cX0_hasRing 0 = .ok (.iload_n 1, 1) := by decide +kernel
theorem dX0_hasRing_1 : decode cX0_hasRing 1 = .ok (.istore_n 2, 1) := by decide +kernel
theorem dX0_hasRing_2 : decode cX0_hasRing 2 = .ok (.iconst 0, 1) := by decide +kernel
theorem dX0_hasRing_3 : decode cX0_hasRing 3 = .ok (.istore_n 3, 1) := by decide +kernel
theorem dX0_hasRing_4 : decode cX0_hasRing 4 = .ok (.iload_n 3, 1) := by decide +kernel
theorem dX0_hasRing_5 : decode cX0_hasRing 5 = .ok (.bipush 6, 2) := by decide +kernel
theorem dX0_hasRing_7 : decode cX0_hasRing 7 = .ok (.if_icmp .ge 55, 3) := by decide +kernel
theorem dX0_hasRing_10 : decode cX0_hasRing 10 = .ok (.iconst 0, 1) := by decide +kernel
theorem dX0_hasRing_11 : decode cX0_hasRing 11 = .ok (.istore 4, 2) := by decide +kernel
theorem dX0_hasRing_13 : decode cX0_hasRing 13 = .ok (.iload 4, 2) := by decide +kernel
theorem dX0_hasRing_15 : decode cX0_hasRing 15 = .ok (.bipush 6, 2) := by decide +kernel
theorem dX0_hasRing_17 : decode cX0_hasRing 17 = .ok (.if_icmp .ge 39, 3) := by decide +kernel
theorem dX0_hasRing_20 : decode cX0_hasRing 20 = .ok (.iload_n 2, 1) := by decide +kernel
theorem dX0_hasRing_21 : decode cX0_hasRing 21 = .ok (.iload 4, 2) := by decide +kernel
theorem dX0_hasRing_23 : decode cX0_hasRing 23 = .ok (.invokestatic 55, 3) := by decide +kernel
theorem dX0_hasRing_26 : decode cX0_hasRing 26 = .ok (.ifCond .eq 24, 3) := by decide +kernel
theorem dX0_hasRing_29 : decode cX0_hasRing 29 = .ok (.aload_n 0, 1) := by decide +kernel
theorem dX0_hasRing_30 : decode cX0_hasRing 30 = .ok (.getfield 9, 3) := by decide +kernel
theorem dX0_hasRing_33 : decode cX0_hasRing 33 = .ok (.iload 4, 2) := by decide +kernel
theorem dX0_hasRing_35 : decode cX0_hasRing 35 = .ok (.invokestatic 59, 3) := by decide +kernel
theorem dX0_hasRing_38 : decode cX0_hasRing 38 = .ok (.iload_n 2, 1) := by decide +kernel
theorem dX0_hasRing_39 : decode cX0_hasRing 39 = .ok (.iand, 1) := by decide +kernel
theorem dX0_hasRing_40 : decode cX0_hasRing 40 = .ok (.ifCond .ne 10, 3) := by decide +kernel
theorem dX0_hasRing_43 : decode cX0_hasRing 43 = .ok (.iload_n 2, 1) := by decide +kernel
theorem dX0_hasRing_44 : decode cX0_hasRing 44 = .ok (.iload 4, 2) := by decide +kernel
theorem dX0_hasRing_46 : decode cX0_hasRing 46 = .ok (.invokestatic 63, 3) := by decide +kernel
theorem dX0_hasRing_49 : decode cX0_hasRing 49 = .ok (.istore_n 2, 1) := by decide +kernel
theorem dX0_hasRing_50 : decode cX0_hasRing 50 = .ok (.iinc 4 1, 3) := by decide +kernel
theorem dX0_hasRing_53 : decode cX0_hasRing 53 = .ok (.goto (-40), 3) := by decide +kernel
theorem dX0_hasRing_56 : decode cX0_hasRing 56 = .ok (.iinc 3 1, 3) := by decide +kernel
theorem dX0_hasRing_59 : decode cX0_hasRing 59 = .ok (.goto (-55), 3) := by decide +kernel
theorem dX0_hasRing_62 : decode cX0_hasRing 62 = .ok (.iload_n 2, 1) := by decide +kernel
theorem dX0_hasRing_63 : decode cX0_hasRing 63 = .ok (.ifCond .eq 7, 3) := by decide +kernel
theorem dX0_hasRing_66 : decode cX0_hasRing 66 = .ok (.iconst 1, 1) := by decide +kernel
theorem dX0_hasRing_67 : decode cX0_hasRing 67 = .ok (.goto 4, 3) := by decide +kernel
theorem dX0_hasRing_70 : decode cX0_hasRing 70 = .ok (.iconst 0, 1) := by decide +kernel
theorem dX0_hasRing_71 : decode cX0_hasRing 71 = .ok (.ireturn, 1) := by decide +kernel
theorem dX1_init_0 : decode cX1_init 0 = .ok (.aload_n 0, 1) := by decide +kernel
theorem dX1_init_1 : decode cX1_init 1 = .ok (.invokespecial 3, 3) := by decide +kernel
theorem dX1_init_4 : decode cX1_init 4 = .ok (.aload_n 0, 1) := by decide +kernel
theorem dX1_init_5 : decode cX1_init 5 = .ok (.bipush 6, 2) := by decide +kernel
theorem dX1_init_7 : decode cX1_init 7 = .ok (.newarray .int, 2) := by decide +kernel
theorem dX1_init_9 : decode cX1_init 9 = .ok (.putfield 9, 3) := by decide +kernel
theorem dX1_init_12 : decode cX1_init 12 = .ok (.aload_n 0, 1) := by decide +kernel
theorem dX1_init_13 : decode cX1_init 13 = .ok (.bipush 6, 2) := by decide +kernel
theorem dX1_init_15 : decode cX1_init 15 = .ok (.newarray .int, 2) := by decide +kernel
theorem dX1_init_17 : decode cX1_init 17 = .ok (.putfield 15, 3) := by decide +kernel
theorem dX1_init_20 : decode cX1_init 20 = .ok (.aload_n 0, 1) := by decide +kernel
theorem dX1_init_21 : decode cX1_init 21 = .ok (.bipush 6, 2) := by decide +kernel
theorem dX1_init_23 : decode cX1_init 23 = .ok (.newarray .int, 2) := by decide +kernel
theorem dX1_init_25 : decode cX1_init 25 = .ok (.putfield 18, 3) := by decide +kernel
theorem dX1_init_28 : decode cX1_init 28 = .ok (.aload_n 0, 1) := by decide +kernel
theorem dX1_init_29 : decode cX1_init 29 = .ok (.bipush 6, 2) := by decide +kernel
theorem dX1_init_31 : decode cX1_init 31 = .ok (.newarray .int, 2) := by decide +kernel
theorem dX1_init_33 : decode cX1_init 33 = .ok (.putfield 21, 3) := by decide +kernel
theorem dX1_init_36 : decode cX1_init 36 = .ok (.aload_n 0, 1) := by decide +kernel
theorem dX1_init_37 : decode cX1_init 37 = .ok (.bipush 6, 2) := by decide +kernel
theorem dX1_init_39 : decode cX1_init 39 = .ok (.newarray .int, 2) := by decide +kernel
theorem dX1_init_41 : decode cX1_init 41 = .ok (.putfield 24, 3) := by decide +kernel
theorem dX1_init_44 : decode cX1_init 44 = .ok (.return_, 1) := by decide +kernel
theorem dX1_deal_0 : decode cX1_deal 0 = .ok (.aload_n 0, 1) := by decide +kernel
theorem dX1_deal_1 : decode cX1_deal 1 = .ok (.aload_n 1, 1) := by decide +kernel
theorem dX1_deal_2 : decode cX1_deal 2 = .ok (.getfield 27, 3) := by decide +kernel
theorem dX1_deal_5 : decode cX1_deal 5 = .ok (.invokestatic 33, 3) := by decide +kernel
theorem dX1_deal_8 : decode cX1_deal 8 = .ok (.putfield 37, 3) := by decide +kernel
theorem dX1_deal_11 : decode cX1_deal 11 = .ok (.aload_n 0, 1) := by decide +kernel
theorem dX1_deal_12 : decode cX1_deal 12 = .ok (.aload_n 1, 1) := by decide +kernel
theorem dX1_deal_13 : decode cX1_deal 13 = .ok (.getfield 40, 3) := by decide +kernel
theorem dX1_deal_16 : decode cX1_deal 16 = .ok (.invokestatic 33, 3) := by decide +kernel
theorem dX1_deal_19 : decode cX1_deal 19 = .ok (.putfield 43, 3) := by decide +kernel
theorem dX1_deal_22 : decode cX1_deal 22 = .ok (.aload_n 0, 1) := by decide +kernel
theorem dX1_deal_23 : decode cX1_deal 23 = .ok (.iconst 0, 1) := by decide +kernel
theorem dX1_deal_24 : decode cX1_deal 24 = .ok (.putfield 46, 3) := by decide +kernel
theorem dX1_deal_27 : decode cX1_deal 27 = .ok (.iconst 0, 1) := by decide +kernel
theorem dX1_deal_28 : decode cX1_deal 28 = .ok (.istore_n 2, 1) := by decide +kernel
theorem dX1_deal_29 : decode cX1_deal 29 = .ok (.iload_n 2, 1) := by decide +kernel
theorem dX1_deal_30 : decode cX1_deal 30 = .ok (.bipush 6, 2) := by decide +kernel
theorem dX1_deal_32 : decode cX1_deal 32 = .ok (.if_icmp .ge 38, 3) := by decide +kernel
theorem dX1_deal_35 : decode cX1_deal 35 = .ok (.aload_n 0, 1) := by decide +kernel
theorem dX1_deal_36 : decode cX1_deal 36 = .ok (.getfield 37, 3) := by decide +kernel
theorem dX1_deal_39 : decode cX1_deal 39 = .ok (.ifCond .eq 31, 3) := by decide +kernel
theorem dX1_deal_42 : decode cX1_deal 42 = .ok (.aload_n 0, 1) := by decide +kernel
theorem dX1_deal_43 : decode cX1_deal 43 = .ok (.aload_n 1, 1) := by decide +kernel
theorem dX1_deal_44 : decode cX1_deal 44 = .ok (.invokevirtual 49, 3) := by decide +kernel
theorem dX1_deal_47 : decode cX1_deal 47 = .ok (.aload_n 0, 1) := by decide +kernel
theorem dX1_deal_48 : decode cX1_deal 48 = .ok (.aload_n 1, 1) := by decide +kernel
theorem dX1_deal_49 : decode cX1_deal 49 = .ok (.invokevirtual 53, 3) := by decide +kernel
theorem dX1_deal_52 : decode cX1_deal 52 = .ok (.aload_n 0, 1) := by decide +kernel
theorem dX1_deal_53 : decode cX1_deal 53 = .ok (.aload_n 1, 1) := by decide +kernel
theorem dX1_deal_54 : decode cX1_deal 54 = .ok (.invokevirtual 56, 3) := by decide +kernel
theorem dX1_deal_57 : decode cX1_deal 57 = .ok (.aload_n 0, 1) := by decide +kernel
theorem dX1_deal_58 : decode cX1_deal 58 = .ok (.iload_n 2, 1) := by decide +kernel
theorem dX1_deal_59 : decode cX1_deal 59 = .ok (.iconst 1, 1) := by decide +kernel
theorem dX1_deal_60 : decode cX1_deal 60 = .ok (.iadd, 1) := by decide +kernel
theorem dX1_deal_61 : decode cX1_deal 61 = .ok (.putfield 46, 3) := by decide +kernel
theorem dX1_deal_64 : decode cX1_deal 64 = .ok (.iinc 2 1, 3) := by decide +kernel
theorem dX1_deal_67 : decode cX1_deal 67 = .ok (.goto (-38), 3) := by decide +kernel
theorem dX1_deal_70 : decode cX1_deal 70 = .ok (.return_, 1) := by decide +kernel
theorem dX1_roomOf_0 : decode cX1_roomOf 0 = .ok (.aload_n 0, 1) := by decide +kernel
theorem dX1_roomOf_1 : decode cX1_roomOf 1 = .ok (.getfield 9, 3) := by decide +kernel
theorem dX1_roomOf_4 : decode cX1_roomOf 4 = .ok (.iload_n 1, 1) := by decide +kernel
theorem dX1_roomOf_5 : decode cX1_roomOf 5 = .ok (.invokestatic 59, 3) := by decide +kernel
theorem dX1_roomOf_8 : decode cX1_roomOf 8 = .ok (.ireturn, 1) := by decide +kernel
theorem dX1_roundOf_0 : decode cX1_roundOf 0 = .ok (.aload_n 0, 1) := by decide +kernel
theorem dX1_roundOf_1 : decode cX1_roundOf 1 = .ok (.getfield 15, 3) := by decide +kernel
theorem dX1_roundOf_4 : decode cX1_roundOf 4 = .ok (.iload_n 1, 1) := by decide +kernel
theorem dX1_roundOf_5 : decode cX1_roundOf 5 = .ok (.invokestatic 59, 3) := by decide +kernel
theorem dX1_roundOf_8 : decode cX1_roundOf 8 = .ok (.ireturn, 1) := by decide +kernel
theorem dX1_ringOf_0 : decode cX1_ringOf 0 = .ok (.aload_n 0, 1) := by decide +kernel
theorem dX1_ringOf_1 : decode cX1_ringOf 1 = .ok (.getfield 18, 3) := by decide +kernel
theorem dX1_ringOf_4 : decode cX1_ringOf 4 = .ok (.iload_n 1, 1) := by decide +kernel
theorem dX1_ringOf_5 : decode cX1_ringOf 5 = .ok (.invokestatic 59, 3) := by decide +kernel
theorem dX1_ringOf_8 : decode cX1_ringOf 8 = .ok (.ireturn, 1) := by decide +kernel
theorem dX1_winner_0 : decode cX1_winner 0 = .ok (.iconst 0, 1) := by decide +kernel
theorem dX1_winner_1 : decode cX1_winner 1 = .ok (.istore_n 3, 1) := by decide +kernel
theorem dX1_winner_2 : decode cX1_winner 2 = .ok (.iload_n 3, 1) := by decide +kernel
theorem dX1_winner_3 : decode cX1_winner 3 = .ok (.aload_n 1, 1) := by decide +kernel
theorem dX1_winner_4 : decode cX1_winner 4 = .ok (.getfield 27, 3) := by decide +kernel
theorem dX1_winner_7 : decode cX1_winner 7 = .ok (.if_icmp .ge 23, 3) := by decide +kernel
theorem dX1_winner_10 : decode cX1_winner 10 = .ok (.aload_n 0, 1) := by decide +kernel
theorem dX1_winner_11 : decode cX1_winner 11 = .ok (.getfield 9, 3) := by decide +kernel
theorem dX1_winner_14 : decode cX1_winner 14 = .ok (.iload_n 3, 1) := by decide +kernel
theorem dX1_winner_15 : decode cX1_winner 15 = .ok (.invokestatic 59, 3) := by decide +kernel
theorem dX1_winner_18 : decode cX1_winner 18 = .ok (.iload_n 2, 1) := by decide +kernel
theorem dX1_winner_19 : decode cX1_winner 19 = .ok (.if_icmp .ne 5, 3) := by decide +kernel
theorem dX1_winner_22 : decode cX1_winner 22 = .ok (.iload_n 3, 1) := by decide +kernel
theorem dX1_winner_23 : decode cX1_winner 23 = .ok (.ireturn, 1) := by decide +kernel
theorem dX1_winner_24 : decode cX1_winner 24 = .ok (.iinc 3 1, 3) := by decide +kernel
theorem dX1_winner_27 : decode cX1_winner 27 = .ok (.goto (-25), 3) := by decide +kernel
theorem dX1_winner_30 : decode cX1_winner 30 = .ok (.iconst (-1), 1) := by decide +kernel
theorem dX1_winner_31 : decode cX1_winner 31 = .ok (.ireturn, 1) := by decide +kernel
theorem dX1_emptyHanded_0 : decode cX1_emptyHanded 0 = .ok (.iconst 0, 1) := by decide +kernel
theorem dX1_emptyHanded_1 : decode cX1_emptyHanded 1 = .ok (.istore_n 2, 1) := by decide +kernel
theorem dX1_emptyHanded_2 : decode cX1_emptyHanded 2 = .ok (.iconst 0, 1) := by decide +kernel
theorem dX1_emptyHanded_3 : decode cX1_emptyHanded 3 = .ok (.istore_n 3, 1) := by decide +kernel
theorem dX1_emptyHanded_4 : decode cX1_emptyHanded 4 = .ok (.iload_n 3, 1) := by decide +kernel
theorem dX1_emptyHanded_5 : decode cX1_emptyHanded 5 = .ok (.aload_n 1, 1) := by decide +kernel
theorem dX1_emptyHanded_6 : decode cX1_emptyHanded 6 = .ok (.getfield 27, 3) := by decide +kernel
theorem dX1_emptyHanded_9 : decode cX1_emptyHanded 9 = .ok (.if_icmp .ge 27, 3) := by decide +kernel
theorem dX1_emptyHanded_12 : decode cX1_emptyHanded 12 = .ok (.aload_n 0, 1) := by decide +kernel
theorem dX1_emptyHanded_13 : decode cX1_emptyHanded 13 = .ok (.getfield 9, 3) := by decide +kernel
theorem dX1_emptyHanded_16 : decode cX1_emptyHanded 16 = .ok (.iload_n 3, 1) := by decide +kernel
theorem dX1_emptyHanded_17 : decode cX1_emptyHanded 17 = .ok (.invokestatic 59, 3) := by decide +kernel
theorem dX1_emptyHanded_20 : decode cX1_emptyHanded 20 = .ok (.iconst (-1), 1) := by decide +kernel
theorem dX1_emptyHanded_21 : decode cX1_emptyHanded 21 = .ok (.if_icmp .ne 9, 3) := by decide +kernel
theorem dX1_emptyHanded_24 : decode cX1_emptyHanded 24 = .ok (.iload_n 2, 1) := by decide +kernel
theorem dX1_emptyHanded_25 : decode cX1_emptyHanded 25 = .ok (.iload_n 3, 1) := by decide +kernel
theorem dX1_emptyHanded_26 : decode cX1_emptyHanded 26 = .ok (.invokestatic 63, 3) := by decide +kernel
theorem dX1_emptyHanded_29 : decode cX1_emptyHanded 29 = .ok (.istore_n 2, 1) := by decide +kernel
theorem dX1_emptyHanded_30 : decode cX1_emptyHanded 30 = .ok (.iinc 3 1, 3) := by decide +kernel
theorem dX1_emptyHanded_33 : decode cX1_emptyHanded 33 = .ok (.goto (-29), 3) := by decide +kernel
theorem dX1_emptyHanded_36 : decode cX1_emptyHanded 36 = .ok (.iload_n 2, 1) := by decide +kernel
theorem dX1_emptyHanded_37 : decode cX1_emptyHanded 37 = .ok (.ireturn, 1) := by decide +kernel
theorem dX1_aim_0 : decode cX1_aim 0 = .ok (.iconst 0, 1) := by decide +kernel
theorem dX1_aim_1 : decode cX1_aim 1 = .ok (.istore_n 2, 1) := by decide +kernel
theorem dX1_aim_2 : decode cX1_aim 2 = .ok (.iload_n 2, 1) := by decide +kernel
theorem dX1_aim_3 : decode cX1_aim 3 = .ok (.aload_n 1, 1) := by decide +kernel
theorem dX1_aim_4 : decode cX1_aim 4 = .ok (.getfield 27, 3) := by decide +kernel
theorem dX1_aim_7 : decode cX1_aim 7 = .ok (.if_icmp .ge 67, 3) := by decide +kernel
theorem dX1_aim_10 : decode cX1_aim 10 = .ok (.aload_n 0, 1) := by decide +kernel
theorem dX1_aim_11 : decode cX1_aim 11 = .ok (.getfield 37, 3) := by decide +kernel
theorem dX1_aim_14 : decode cX1_aim 14 = .ok (.iload_n 2, 1) := by decide +kernel
theorem dX1_aim_15 : decode cX1_aim 15 = .ok (.invokestatic 67, 3) := by decide +kernel
theorem dX1_aim_18 : decode cX1_aim 18 = .ok (.ifCond .eq 50, 3) := by decide +kernel
theorem dX1_aim_21 : decode cX1_aim 21 = .ok (.aload_n 1, 1) := by decide +kernel
theorem dX1_aim_22 : decode cX1_aim 22 = .ok (.iload_n 2, 1) := by decide +kernel
theorem dX1_aim_23 : decode cX1_aim 23 = .ok (.aload_n 0, 1) := by decide +kernel
theorem dX1_aim_24 : decode cX1_aim 24 = .ok (.getfield 43, 3) := by decide +kernel
theorem dX1_aim_27 : decode cX1_aim 27 = .ok (.invokevirtual 71, 3) := by decide +kernel
theorem dX1_aim_30 : decode cX1_aim 30 = .ok (.istore_n 3, 1) := by decide +kernel
theorem dX1_aim_31 : decode cX1_aim 31 = .ok (.aload_n 0, 1) := by decide +kernel
theorem dX1_aim_32 : decode cX1_aim 32 = .ok (.getfield 21, 3) := by decide +kernel
theorem dX1_aim_35 : decode cX1_aim 35 = .ok (.iload_n 2, 1) := by decide +kernel
theorem dX1_aim_36 : decode cX1_aim 36 = .ok (.iload_n 3, 1) := by decide +kernel
theorem dX1_aim_37 : decode cX1_aim 37 = .ok (.invokestatic 74, 3) := by decide +kernel
theorem dX1_aim_40 : decode cX1_aim 40 = .ok (.iload_n 3, 1) := by decide +kernel
theorem dX1_aim_41 : decode cX1_aim 41 = .ok (.iconst (-1), 1) := by decide +kernel
theorem dX1_aim_42 : decode cX1_aim 42 = .ok (.if_icmp .ne 26, 3) := by decide +kernel
theorem dX1_aim_45 : decode cX1_aim 45 = .ok (.aload_n 0, 1) := by decide +kernel
theorem dX1_aim_46 : decode cX1_aim 46 = .ok (.iload_n 2, 1) := by decide +kernel
theorem dX1_aim_47 : decode cX1_aim 47 = .ok (.iconst (-1), 1) := by decide +kernel
theorem dX1_aim_48 : decode cX1_aim 48 = .ok (.iconst 0, 1) := by decide +kernel
theorem dX1_aim_49 : decode cX1_aim 49 = .ok (.iload_n 2, 1) := by decide +kernel
theorem dX1_aim_50 : decode cX1_aim 50 = .ok (.invokestatic 63, 3) := by decide +kernel
theorem dX1_aim_53 : decode cX1_aim 53 = .ok (.invokevirtual 78, 3) := by decide +kernel
theorem dX1_aim_56 : decode cX1_aim 56 = .ok (.aload_n 0, 1) := by decide +kernel
theorem dX1_aim_57 : decode cX1_aim 57 = .ok (.aload_n 0, 1) := by decide +kernel
theorem dX1_aim_58 : decode cX1_aim 58 = .ok (.getfield 37, 3) := by decide +kernel
theorem dX1_aim_61 : decode cX1_aim 61 = .ok (.iload_n 2, 1) := by decide +kernel
theorem dX1_aim_62 : decode cX1_aim 62 = .ok (.invokestatic 82, 3) := by decide +kernel
theorem dX1_aim_65 : decode cX1_aim 65 = .ok (.putfield 37, 3) := by decide +kernel
theorem dX1_aim_68 : decode cX1_aim 68 = .ok (.iinc 2 1, 3) := by decide +kernel
theorem dX1_aim_71 : decode cX1_aim 71 = .ok (.goto (-69), 3) := by decide +kernel
theorem dX1_aim_74 : decode cX1_aim 74 = .ok (.return_, 1) := by decide +kernel
theorem dX1_follow_0 : decode cX1_follow 0 = .ok (.aload_n 1, 1) := by decide +kernel
theorem dX1_follow_1 : decode cX1_follow 1 = .ok (.aload_n 0, 1) := by decide +kernel
theorem dX1_follow_2 : decode cX1_follow 2 = .ok (.getfield 37, 3) := by decide +kernel
theorem dX1_follow_5 : decode cX1_follow 5 = .ok (.invokevirtual 85, 3) := by decide +kernel
theorem dX1_follow_8 : decode cX1_follow 8 = .ok (.istore_n 2, 1) := by decide +kernel
theorem dX1_follow_9 : decode cX1_follow 9 = .ok (.iconst 0, 1) := by decide +kernel
theorem dX1_follow_10 : decode cX1_follow 10 = .ok (.istore_n 3, 1) := by decide +kernel
theorem dX1_follow_11 : decode cX1_follow 11 = .ok (.iload_n 3, 1) := by decide +kernel
theorem dX1_follow_12 : decode cX1_follow 12 = .ok (.aload_n 1, 1) := by decide +kernel
theorem dX1_follow_13 : decode cX1_follow 13 = .ok (.getfield 27, 3) := by decide +kernel
theorem dX1_follow_16 : decode cX1_follow 16 = .ok (.if_icmp .ge 60, 3) := by decide +kernel
theorem dX1_follow_19 : decode cX1_follow 19 = .ok (.aload_n 0, 1) := by decide +kernel
theorem dX1_follow_20 : decode cX1_follow 20 = .ok (.getfield 37, 3) := by decide +kernel
theorem dX1_follow_23 : decode cX1_follow 23 = .ok (.iload_n 3, 1) := by decide +kernel
theorem dX1_follow_24 : decode cX1_follow 24 = .ok (.invokestatic 67, 3) := by decide +kernel
theorem dX1_follow_27 : decode cX1_follow 27 = .ok (.ifCond .eq 43, 3) := by decide +kernel
theorem dX1_follow_30 : decode cX1_follow 30 = .ok (.aload_n 1, 1) := by decide +kernel
theorem dX1_follow_31 : decode cX1_follow 31 = .ok (.aload_n 0, 1) := by decide +kernel
theorem dX1_follow_32 : decode cX1_follow 32 = .ok (.getfield 21, 3) := by decide +kernel
theorem dX1_follow_35 : decode cX1_follow 35 = .ok (.iload_n 3, 1) := by decide +kernel
theorem dX1_follow_36 : decode cX1_follow 36 = .ok (.invokestatic 59, 3) := by decide +kernel
theorem dX1_follow_39 : decode cX1_follow 39 = .ok (.invokevirtual 88, 3) := by decide +kernel
theorem dX1_follow_42 : decode cX1_follow 42 = .ok (.istore 4, 2) := by decide +kernel
theorem dX1_follow_44 : decode cX1_follow 44 = .ok (.aload_n 0, 1) := by decide +kernel
theorem dX1_follow_45 : decode cX1_follow 45 = .ok (.getfield 24, 3) := by decide +kernel
theorem dX1_follow_48 : decode cX1_follow 48 = .ok (.iload_n 3, 1) := by decide +kernel
theorem dX1_follow_49 : decode cX1_follow 49 = .ok (.aload_n 0, 1) := by decide +kernel
theorem dX1_follow_50 : decode cX1_follow 50 = .ok (.getfield 37, 3) := by decide +kernel
theorem dX1_follow_53 : decode cX1_follow 53 = .ok (.iload 4, 2) := by decide +kernel
theorem dX1_follow_55 : decode cX1_follow 55 = .ok (.invokestatic 67, 3) := by decide +kernel
theorem dX1_follow_58 : decode cX1_follow 58 = .ok (.ifCond .eq 8, 3) := by decide +kernel
theorem dX1_follow_61 : decode cX1_follow 61 = .ok (.iload 4, 2) := by decide +kernel
theorem dX1_follow_63 : decode cX1_follow 63 = .ok (.goto 4, 3) := by decide +kernel
theorem dX1_follow_66 : decode cX1_follow 66 = .ok (.iload_n 2, 1) := by decide +kernel
theorem dX1_follow_67 : decode cX1_follow 67 = .ok (.invokestatic 74, 3) := by decide +kernel
theorem dX1_follow_70 : decode cX1_follow 70 = .ok (.iinc 3 1, 3) := by decide +kernel
theorem dX1_follow_73 : decode cX1_follow 73 = .ok (.goto (-62), 3) := by decide +kernel
theorem dX1_follow_76 : decode cX1_follow 76 = .ok (.return_, 1) := by decide +kernel
theorem dX1_closeRings_0 : decode cX1_closeRings 0 = .ok (.iconst 0, 1) := by decide +kernel
theorem dX1_closeRings_1 : decode cX1_closeRings 1 = .ok (.istore_n 2, 1) := by decide +kernel
theorem dX1_closeRings_2 : decode cX1_closeRings 2 = .ok (.iconst 0, 1) := by decide +kernel
theorem dX1_closeRings_3 : decode cX1_closeRings 3 = .ok (.istore_n 3, 1) := by decide +kernel
theorem dX1_closeRings_4 : decode cX1_closeRings 4 = .ok (.iload_n 3, 1) := by decide +kernel
theorem dX1_closeRings_5 : decode cX1_closeRings 5 = .ok (.aload_n 1, 1) := by decide +kernel
theorem dX1_closeRings_6 : decode cX1_closeRings 6 = .ok (.getfield 27, 3) := by decide +kernel
theorem dX1_closeRings_9 : decode cX1_closeRings 9 = .ok (.if_icmp .ge 74, 3) := by decide +kernel
theorem dX1_closeRings_12 : decode cX1_closeRings 12 = .ok (.aload_n 0, 1) := by decide +kernel
theorem dX1_closeRings_13 : decode cX1_closeRings 13 = .ok (.getfield 37, 3) := by decide +kernel
theorem dX1_closeRings_16 : decode cX1_closeRings 16 = .ok (.iload_n 3, 1) := by decide +kernel
theorem dX1_closeRings_17 : decode cX1_closeRings 17 = .ok (.invokestatic 67, 3) := by decide +kernel
theorem dX1_closeRings_20 : decode cX1_closeRings 20 = .ok (.ifCond .eq 11, 3) := by decide +kernel
theorem dX1_closeRings_23 : decode cX1_closeRings 23 = .ok (.aload_n 0, 1) := by decide +kernel
theorem dX1_closeRings_24 : decode cX1_closeRings 24 = .ok (.iload_n 3, 1) := by decide +kernel
theorem dX1_closeRings_25 : decode cX1_closeRings 25 = .ok (.invokevirtual 91, 3) := by decide +kernel
theorem dX1_closeRings_28 : decode cX1_closeRings 28 = .ok (.goto 4, 3) := by decide +kernel
theorem dX1_closeRings_31 : decode cX1_closeRings 31 = .ok (.iconst 0, 1) := by decide +kernel
theorem dX1_closeRings_32 : decode cX1_closeRings 32 = .ok (.istore 4, 2) := by decide +kernel
theorem dX1_closeRings_34 : decode cX1_closeRings 34 = .ok (.iload 4, 2) := by decide +kernel
theorem dX1_closeRings_36 : decode cX1_closeRings 36 = .ok (.ifCond .eq 41, 3) := by decide +kernel
theorem dX1_closeRings_39 : decode cX1_closeRings 39 = .ok (.aload_n 0, 1) := by decide +kernel
theorem dX1_closeRings_40 : decode cX1_closeRings 40 = .ok (.getfield 21, 3) := by decide +kernel
theorem dX1_closeRings_43 : decode cX1_closeRings 43 = .ok (.iload_n 3, 1) := by decide +kernel
theorem dX1_closeRings_44 : decode cX1_closeRings 44 = .ok (.invokestatic 59, 3) := by decide +kernel
theorem dX1_closeRings_47 : decode cX1_closeRings 47 = .ok (.istore 5, 2) := by decide +kernel
theorem dX1_closeRings_49 : decode cX1_closeRings 49 = .ok (.aload_n 0, 1) := by decide +kernel
theorem dX1_closeRings_50 : decode cX1_closeRings 50 = .ok (.iload_n 3, 1) := by decide +kernel
theorem dX1_closeRings_51 : decode cX1_closeRings 51 = .ok (.iload 5, 2) := by decide +kernel
theorem dX1_closeRings_53 : decode cX1_closeRings 53 = .ok (.iload 4, 2) := by decide +kernel
theorem dX1_closeRings_55 : decode cX1_closeRings 55 = .ok (.invokevirtual 78, 3) := by decide +kernel
theorem dX1_closeRings_58 : decode cX1_closeRings 58 = .ok (.iload_n 2, 1) := by decide +kernel
theorem dX1_closeRings_59 : decode cX1_closeRings 59 = .ok (.iload_n 3, 1) := by decide +kernel
theorem dX1_closeRings_60 : decode cX1_closeRings 60 = .ok (.invokestatic 63, 3) := by decide +kernel
theorem dX1_closeRings_63 : decode cX1_closeRings 63 = .ok (.istore_n 2, 1) := by decide +kernel
theorem dX1_closeRings_64 : decode cX1_closeRings 64 = .ok (.aload_n 0, 1) := by decide +kernel
theorem dX1_closeRings_65 : decode cX1_closeRings 65 = .ok (.aload_n 0, 1) := by decide +kernel
theorem dX1_closeRings_66 : decode cX1_closeRings 66 = .ok (.getfield 43, 3) := by decide +kernel
theorem dX1_closeRings_69 : decode cX1_closeRings 69 = .ok (.iload 5, 2) := by decide +kernel
theorem dX1_closeRings_71 : decode cX1_closeRings 71 = .ok (.invokestatic 82, 3) := by decide +kernel
theorem dX1_closeRings_74 : decode cX1_closeRings 74 = .ok (.putfield 43, 3) := by decide +kernel
theorem dX1_closeRings_77 : decode cX1_closeRings 77 = .ok (.iinc 3 1, 3) := by decide +kernel
theorem dX1_closeRings_80 : decode cX1_closeRings 80 = .ok (.goto (-76), 3) := by decide +kernel
theorem dX1_closeRings_83 : decode cX1_closeRings 83 = .ok (.aload_n 0, 1) := by decide +kernel
theorem dX1_closeRings_84 : decode cX1_closeRings 84 = .ok (.dup, 1) := by decide +kernel
theorem dX1_closeRings_85 : decode cX1_closeRings 85 = .ok (.getfield 37, 3) := by decide +kernel
theorem dX1_closeRings_88 : decode cX1_closeRings 88 = .ok (.iload_n 2, 1) := by decide +kernel
theorem dX1_closeRings_89 : decode cX1_closeRings 89 = .ok (.iconst (-1), 1) := by decide +kernel
theorem dX1_closeRings_90 : decode cX1_closeRings 90 = .ok (.ixor, 1) := by decide +kernel
theorem dX1_closeRings_91 : decode cX1_closeRings 91 = .ok (.iand, 1) := by decide +kernel
theorem dX1_closeRings_92 : decode cX1_closeRings 92 = .ok (.putfield 37, 3) := by decide +kernel
theorem dX1_closeRings_95 : decode cX1_closeRings 95 = .ok (.return_, 1) := by decide +kernel
theorem dX1_ringFrom_0 : decode cX1_ringFrom 0 = .ok (.iconst 0, 1) := by decide +kernel
theorem dX1_ringFrom_1 : decode cX1_ringFrom 1 = .ok (.istore_n 2, 1) := by decide +kernel
theorem dX1_ringFrom_2 : decode cX1_ringFrom 2 = .ok (.iload_n 1, 1) := by decide +kernel
theorem dX1_ringFrom_3 : decode cX1_ringFrom 3 = .ok (.istore_n 3, 1) := by decide +kernel
theorem dX1_ringFrom_4 : decode cX1_ringFrom 4 = .ok (.iconst 0, 1) := by decide +kernel
theorem dX1_ringFrom_5 : decode cX1_ringFrom 5 = .ok (.istore 4, 2) := by decide +kernel
theorem dX1_ringFrom_7 : decode cX1_ringFrom 7 = .ok (.iload 4, 2) := by decide +kernel
theorem dX1_ringFrom_9 : decode cX1_ringFrom 9 = .ok (.bipush 6, 2) := by decide +kernel
theorem dX1_ringFrom_11 : decode cX1_ringFrom 11 = .ok (.if_icmp .ge 31, 3) := by decide +kernel
theorem dX1_ringFrom_14 : decode cX1_ringFrom 14 = .ok (.iload_n 2, 1) := by decide +kernel
theorem dX1_ringFrom_15 : decode cX1_ringFrom 15 = .ok (.iload_n 3, 1) := by decide +kernel
theorem dX1_ringFrom_16 : decode cX1_ringFrom 16 = .ok (.invokestatic 63, 3) := by decide +kernel
theorem dX1_ringFrom_19 : decode cX1_ringFrom 19 = .ok (.istore_n 2, 1) := by decide +kernel
theorem dX1_ringFrom_20 : decode cX1_ringFrom 20 = .ok (.aload_n 0, 1) := by decide +kernel
theorem dX1_ringFrom_21 : decode cX1_ringFrom 21 = .ok (.getfield 24, 3) := by decide +kernel
theorem dX1_ringFrom_24 : decode cX1_ringFrom 24 = .ok (.iload_n 3, 1) := by decide +kernel
theorem dX1_ringFrom_25 : decode cX1_ringFrom 25 = .ok (.invokestatic 59, 3) := by decide +kernel
theorem dX1_ringFrom_28 : decode cX1_ringFrom 28 = .ok (.istore_n 3, 1) := by decide +kernel
theorem dX1_ringFrom_29 : decode cX1_ringFrom 29 = .ok (.iload_n 3, 1) := by decide +kernel
theorem dX1_ringFrom_30 : decode cX1_ringFrom 30 = .ok (.iload_n 1, 1) := by decide +kernel
theorem dX1_ringFrom_31 : decode cX1_ringFrom 31 = .ok (.if_icmp .ne 5, 3) := by decide +kernel
theorem dX1_ringFrom_34 : decode cX1_ringFrom 34 = .ok (.iload_n 2, 1) := by decide +kernel
theorem dX1_ringFrom_35 : decode cX1_ringFrom 35 = .ok (.ireturn, 1) := by decide +kernel
theorem dX1_ringFrom_36 : decode cX1_ringFrom 36 = .ok (.iinc 4 1, 3) := by decide +kernel
theorem dX1_ringFrom_39 : decode cX1_ringFrom 39 = .ok (.goto (-32), 3) := by decide +kernel
theorem dX1_ringFrom_42 : decode cX1_ringFrom 42 = .ok (.iconst 0, 1) := by decide +kernel
theorem dX1_ringFrom_43 : decode cX1_ringFrom 43 = .ok (.ireturn, 1) := by decide +kernel
theorem dX1_finish_0 : decode cX1_finish 0 = .ok (.aload_n 0, 1) := by decide +kernel
theorem dX1_finish_1 : decode cX1_finish 1 = .ok (.getfield 9, 3) := by decide +kernel
theorem dX1_finish_4 : decode cX1_finish 4 = .ok (.iload_n 1, 1) := by decide +kernel
theorem dX1_finish_5 : decode cX1_finish 5 = .ok (.iload_n 2, 1) := by decide +kernel
theorem dX1_finish_6 : decode cX1_finish 6 = .ok (.invokestatic 74, 3) := by decide +kernel
theorem dX1_finish_9 : decode cX1_finish 9 = .ok (.aload_n 0, 1) := by decide +kernel
theorem dX1_finish_10 : decode cX1_finish 10 = .ok (.getfield 15, 3) := by decide +kernel
theorem dX1_finish_13 : decode cX1_finish 13 = .ok (.iload_n 1, 1) := by decide +kernel
theorem dX1_finish_14 : decode cX1_finish 14 = .ok (.aload_n 0, 1) := by decide +kernel
theorem dX1_finish_15 : decode cX1_finish 15 = .ok (.getfield 46, 3) := by decide +kernel
theorem dX1_finish_18 : decode cX1_finish 18 = .ok (.invokestatic 74, 3) := by decide +kernel
theorem dX1_finish_21 : decode cX1_finish 21 = .ok (.aload_n 0, 1) := by decide +kernel
theorem dX1_finish_22 : decode cX1_finish 22 = .ok (.getfield 18, 3) := by decide +kernel
theorem dX1_finish_25 : decode cX1_finish 25 = .ok (.iload_n 1, 1) := by decide +kernel
theorem dX1_finish_26 : decode cX1_finish 26 = .ok (.iload_n 3, 1) := by decide +kernel
theorem dX1_finish_27 : decode cX1_finish 27 = .ok (.invokestatic 74, 3) := by decide +kernel
theorem dX1_finish_30 : decode cX1_finish 30 = .ok (.return_, 1) := by decide +kernel
theorem dX2_init_0 : decode cX2_init 0 = .ok (.aload_n 0, 1) := by decide +kernel
theorem dX2_init_1 : decode cX2_init 1 = .ok (.invokespecial 1, 3) := by decide +kernel
theorem dX2_init_4 : decode cX2_init 4 = .ok (.return_, 1) := by decide +kernel
theorem dX2_draw_0 : decode cX2_draw 0 = .ok (.aload_n 0, 1) := by decide +kernel
theorem dX2_draw_1 : decode cX2_draw 1 = .ok (.aload_n 0, 1) := by decide +kernel
theorem dX2_draw_2 : decode cX2_draw 2 = .ok (.getfield 7, 3) := by decide +kernel
theorem dX2_draw_5 : decode cX2_draw 5 = .ok (.i2l, 1) := by decide +kernel
theorem dX2_draw_6 : decode cX2_draw 6 = .ok (.ldc2_w 13, 3) := by decide +kernel
theorem dX2_draw_9 : decode cX2_draw 9 = .ok (.lmul, 1) := by decide +kernel
theorem dX2_draw_10 : decode cX2_draw 10 = .ok (.ldc2_w 15, 3) := by decide +kernel
theorem dX2_draw_13 : decode cX2_draw 13 = .ok (.ladd, 1) := by decide +kernel
theorem dX2_draw_14 : decode cX2_draw 14 = .ok (.ldc2_w 17, 3) := by decide +kernel
theorem dX2_draw_17 : decode cX2_draw 17 = .ok (.lrem, 1) := by decide +kernel
theorem dX2_draw_18 : decode cX2_draw 18 = .ok (.l2i, 1) := by decide +kernel
theorem dX2_draw_19 : decode cX2_draw 19 = .ok (.putfield 7, 3) := by decide +kernel
theorem dX2_draw_22 : decode cX2_draw 22 = .ok (.iload_n 1, 1) := by decide +kernel
theorem dX2_draw_23 : decode cX2_draw 23 = .ok (.ifCond .le 15, 3) := by decide +kernel
theorem dX2_draw_26 : decode cX2_draw 26 = .ok (.aload_n 0, 1) := by decide +kernel
theorem dX2_draw_27 : decode cX2_draw 27 = .ok (.getfield 7, 3) := by decide +kernel
theorem dX2_draw_30 : decode cX2_draw 30 = .ok (.ldc 19, 2) := by decide +kernel
theorem dX2_draw_32 : decode cX2_draw 32 = .ok (.idiv, 1) := by decide +kernel
theorem dX2_draw_33 : decode cX2_draw 33 = .ok (.iload_n 1, 1) := by decide +kernel
theorem dX2_draw_34 : decode cX2_draw 34 = .ok (.irem, 1) := by decide +kernel
theorem dX2_draw_35 : decode cX2_draw 35 = .ok (.goto 4, 3) := by decide +kernel
theorem dX2_draw_38 : decode cX2_draw 38 = .ok (.iconst 0, 1) := by decide +kernel
theorem dX2_draw_39 : decode cX2_draw 39 = .ok (.ireturn, 1) := by decide +kernel
theorem dX3_init_0 : decode cX3_init 0 = .ok (.aload_n 0, 1) := by decide +kernel
theorem dX3_init_1 : decode cX3_init 1 = .ok (.invokespecial 3, 3) := by decide +kernel
theorem dX3_init_4 : decode cX3_init 4 = .ok (.aload_n 0, 1) := by decide +kernel
theorem dX3_init_5 : decode cX3_init 5 = .ok (.bipush 6, 2) := by decide +kernel
theorem dX3_init_7 : decode cX3_init 7 = .ok (.newarray .int, 2) := by decide +kernel
theorem dX3_init_9 : decode cX3_init 9 = .ok (.putfield 9, 3) := by decide +kernel
theorem dX3_init_12 : decode cX3_init 12 = .ok (.aload_n 0, 1) := by decide +kernel
theorem dX3_init_13 : decode cX3_init 13 = .ok (.bipush 6, 2) := by decide +kernel
theorem dX3_init_15 : decode cX3_init 15 = .ok (.newarray .int, 2) := by decide +kernel
theorem dX3_init_17 : decode cX3_init 17 = .ok (.putfield 15, 3) := by decide +kernel
theorem dX3_init_20 : decode cX3_init 20 = .ok (.aload_n 0, 1) := by decide +kernel
theorem dX3_init_21 : decode cX3_init 21 = .ok (.bipush 48, 2) := by decide +kernel
theorem dX3_init_23 : decode cX3_init 23 = .ok (.newarray .int, 2) := by decide +kernel
theorem dX3_init_25 : decode cX3_init 25 = .ok (.putfield 18, 3) := by decide +kernel
theorem dX3_init_28 : decode cX3_init 28 = .ok (.aload_n 0, 1) := by decide +kernel
theorem dX3_init_29 : decode cX3_init 29 = .ok (.bipush 6, 2) := by decide +kernel
theorem dX3_init_31 : decode cX3_init 31 = .ok (.newarray .int, 2) := by decide +kernel
theorem dX3_init_33 : decode cX3_init 33 = .ok (.putfield 21, 3) := by decide +kernel
theorem dX3_init_36 : decode cX3_init 36 = .ok (.return_, 1) := by decide +kernel
theorem dX3_clear_0 : decode cX3_clear 0 = .ok (.aload_n 0, 1) := by decide +kernel
theorem dX3_clear_1 : decode cX3_clear 1 = .ok (.iconst 0, 1) := by decide +kernel
theorem dX3_clear_2 : decode cX3_clear 2 = .ok (.putfield 24, 3) := by decide +kernel
theorem dX3_clear_5 : decode cX3_clear 5 = .ok (.aload_n 0, 1) := by decide +kernel
theorem dX3_clear_6 : decode cX3_clear 6 = .ok (.iconst 0, 1) := by decide +kernel
theorem dX3_clear_7 : decode cX3_clear 7 = .ok (.putfield 28, 3) := by decide +kernel
theorem dX3_clear_10 : decode cX3_clear 10 = .ok (.return_, 1) := by decide +kernel
theorem dX3_copy_0 : decode cX3_copy 0 = .ok (.aload_n 0, 1) := by decide +kernel
theorem dX3_copy_1 : decode cX3_copy 1 = .ok (.aload_n 1, 1) := by decide +kernel
theorem dX3_copy_2 : decode cX3_copy 2 = .ok (.getfield 24, 3) := by decide +kernel
theorem dX3_copy_5 : decode cX3_copy 5 = .ok (.putfield 24, 3) := by decide +kernel
theorem dX3_copy_8 : decode cX3_copy 8 = .ok (.aload_n 0, 1) := by decide +kernel
theorem dX3_copy_9 : decode cX3_copy 9 = .ok (.aload_n 1, 1) := by decide +kernel
theorem dX3_copy_10 : decode cX3_copy 10 = .ok (.getfield 28, 3) := by decide +kernel
theorem dX3_copy_13 : decode cX3_copy 13 = .ok (.putfield 28, 3) := by decide +kernel
theorem dX3_copy_16 : decode cX3_copy 16 = .ok (.aload_n 1, 1) := by decide +kernel
theorem dX3_copy_17 : decode cX3_copy 17 = .ok (.getfield 9, 3) := by decide +kernel
theorem dX3_copy_20 : decode cX3_copy 20 = .ok (.iconst 0, 1) := by decide +kernel
theorem dX3_copy_21 : decode cX3_copy 21 = .ok (.aload_n 0, 1) := by decide +kernel
theorem dX3_copy_22 : decode cX3_copy 22 = .ok (.getfield 9, 3) := by decide +kernel
theorem dX3_copy_25 : decode cX3_copy 25 = .ok (.iconst 0, 1) := by decide +kernel
theorem dX3_copy_26 : decode cX3_copy 26 = .ok (.aload_n 0, 1) := by decide +kernel
theorem dX3_copy_27 : decode cX3_copy 27 = .ok (.getfield 9, 3) := by decide +kernel
theorem dX3_copy_30 : decode cX3_copy 30 = .ok (.arraylength, 1) := by decide +kernel
theorem dX3_copy_31 : decode cX3_copy 31 = .ok (.invokestatic 31, 3) := by decide +kernel
theorem dX3_copy_34 : decode cX3_copy 34 = .ok (.aload_n 1, 1) := by decide +kernel
theorem dX3_copy_35 : decode cX3_copy 35 = .ok (.getfield 15, 3) := by decide +kernel
theorem dX3_copy_38 : decode cX3_copy 38 = .ok (.iconst 0, 1) := by decide +kernel
theorem dX3_copy_39 : decode cX3_copy 39 = .ok (.aload_n 0, 1) := by decide +kernel
theorem dX3_copy_40 : decode cX3_copy 40 = .ok (.getfield 15, 3) := by decide +kernel
theorem dX3_copy_43 : decode cX3_copy 43 = .ok (.iconst 0, 1) := by decide +kernel
theorem dX3_copy_44 : decode cX3_copy 44 = .ok (.aload_n 0, 1) := by decide +kernel
theorem dX3_copy_45 : decode cX3_copy 45 = .ok (.getfield 15, 3) := by decide +kernel
theorem dX3_copy_48 : decode cX3_copy 48 = .ok (.arraylength, 1) := by decide +kernel
theorem dX3_copy_49 : decode cX3_copy 49 = .ok (.invokestatic 31, 3) := by decide +kernel
theorem dX3_copy_52 : decode cX3_copy 52 = .ok (.aload_n 1, 1) := by decide +kernel
theorem dX3_copy_53 : decode cX3_copy 53 = .ok (.getfield 18, 3) := by decide +kernel
theorem dX3_copy_56 : decode cX3_copy 56 = .ok (.iconst 0, 1) := by decide +kernel
theorem dX3_copy_57 : decode cX3_copy 57 = .ok (.aload_n 0, 1) := by decide +kernel
theorem dX3_copy_58 : decode cX3_copy 58 = .ok (.getfield 18, 3) := by decide +kernel
theorem dX3_copy_61 : decode cX3_copy 61 = .ok (.iconst 0, 1) := by decide +kernel
theorem dX3_copy_62 : decode cX3_copy 62 = .ok (.aload_n 0, 1) := by decide +kernel
theorem dX3_copy_63 : decode cX3_copy 63 = .ok (.getfield 18, 3) := by decide +kernel
theorem dX3_copy_66 : decode cX3_copy 66 = .ok (.arraylength, 1) := by decide +kernel
theorem dX3_copy_67 : decode cX3_copy 67 = .ok (.invokestatic 31, 3) := by decide +kernel
theorem dX3_copy_70 : decode cX3_copy 70 = .ok (.aload_n 1, 1) := by decide +kernel
theorem dX3_copy_71 : decode cX3_copy 71 = .ok (.getfield 21, 3) := by decide +kernel
theorem dX3_copy_74 : decode cX3_copy 74 = .ok (.iconst 0, 1) := by decide +kernel
theorem dX3_copy_75 : decode cX3_copy 75 = .ok (.aload_n 0, 1) := by decide +kernel
theorem dX3_copy_76 : decode cX3_copy 76 = .ok (.getfield 21, 3) := by decide +kernel
theorem dX3_copy_79 : decode cX3_copy 79 = .ok (.iconst 0, 1) := by decide +kernel
theorem dX3_copy_80 : decode cX3_copy 80 = .ok (.aload_n 0, 1) := by decide +kernel
theorem dX3_copy_81 : decode cX3_copy 81 = .ok (.getfield 21, 3) := by decide +kernel
theorem dX3_copy_84 : decode cX3_copy 84 = .ok (.arraylength, 1) := by decide +kernel
theorem dX3_copy_85 : decode cX3_copy 85 = .ok (.invokestatic 31, 3) := by decide +kernel
theorem dX3_copy_88 : decode cX3_copy 88 = .ok (.return_, 1) := by decide +kernel
theorem dX3_addPerson_0 : decode cX3_addPerson 0 = .ok (.aload_n 0, 1) := by decide +kernel
theorem dX3_addPerson_1 : decode cX3_addPerson 1 = .ok (.getfield 28, 3) := by decide +kernel
theorem dX3_addPerson_4 : decode cX3_addPerson 4 = .ok (.istore_n 1, 1) := by decide +kernel
theorem dX3_addPerson_5 : decode cX3_addPerson 5 = .ok (.aload_n 0, 1) := by decide +kernel
theorem dX3_addPerson_6 : decode cX3_addPerson 6 = .ok (.getfield 9, 3) := by decide +kernel
theorem dX3_addPerson_9 : decode cX3_addPerson 9 = .ok (.iload_n 1, 1) := by decide +kernel
theorem dX3_addPerson_10 : decode cX3_addPerson 10 = .ok (.iconst (-1), 1) := by decide +kernel
theorem dX3_addPerson_11 : decode cX3_addPerson 11 = .ok (.invokestatic 37, 3) := by decide +kernel
theorem dX3_addPerson_14 : decode cX3_addPerson 14 = .ok (.aload_n 0, 1) := by decide +kernel
theorem dX3_addPerson_15 : decode cX3_addPerson 15 = .ok (.getfield 15, 3) := by decide +kernel
theorem dX3_addPerson_18 : decode cX3_addPerson 18 = .ok (.iload_n 1, 1) := by decide +kernel
theorem dX3_addPerson_19 : decode cX3_addPerson 19 = .ok (.iconst 0, 1) := by decide +kernel
theorem dX3_addPerson_20 : decode cX3_addPerson 20 = .ok (.invokestatic 37, 3) := by decide +kernel
theorem dX3_addPerson_23 : decode cX3_addPerson 23 = .ok (.aload_n 0, 1) := by decide +kernel
theorem dX3_addPerson_24 : decode cX3_addPerson 24 = .ok (.getfield 21, 3) := by decide +kernel
theorem dX3_addPerson_27 : decode cX3_addPerson 27 = .ok (.iload_n 1, 1) := by decide +kernel
theorem dX3_addPerson_28 : decode cX3_addPerson 28 = .ok (.iload_n 1, 1) := by decide +kernel
theorem dX3_addPerson_29 : decode cX3_addPerson 29 = .ok (.invokestatic 37, 3) := by decide +kernel
theorem dX3_addPerson_32 : decode cX3_addPerson 32 = .ok (.aload_n 0, 1) := by decide +kernel
theorem dX3_addPerson_33 : decode cX3_addPerson 33 = .ok (.iload_n 1, 1) := by decide +kernel
theorem dX3_addPerson_34 : decode cX3_addPerson 34 = .ok (.iconst 1, 1) := by decide +kernel
theorem dX3_addPerson_35 : decode cX3_addPerson 35 = .ok (.iadd, 1) := by decide +kernel
theorem dX3_addPerson_36 : decode cX3_addPerson 36 = .ok (.bipush 6, 2) := by decide +kernel
theorem dX3_addPerson_38 : decode cX3_addPerson 38 = .ok (.invokestatic 41, 3) := by decide +kernel
theorem dX3_addPerson_41 : decode cX3_addPerson 41 = .ok (.putfield 28, 3) := by decide +kernel
theorem dX3_addPerson_44 : decode cX3_addPerson 44 = .ok (.iload_n 1, 1) := by decide +kernel
theorem dX3_addPerson_45 : decode cX3_addPerson 45 = .ok (.ireturn, 1) := by decide +kernel
theorem dX3_hasPerson_0 : decode cX3_hasPerson 0 = .ok (.iload_n 1, 1) := by decide +kernel
theorem dX3_hasPerson_1 : decode cX3_hasPerson 1 = .ok (.ifCond .lt 15, 3) := by decide +kernel
theorem dX3_hasPerson_4 : decode cX3_hasPerson 4 = .ok (.iload_n 1, 1) := by decide +kernel
theorem dX3_hasPerson_5 : decode cX3_hasPerson 5 = .ok (.aload_n 0, 1) := by decide +kernel
theorem dX3_hasPerson_6 : decode cX3_hasPerson 6 = .ok (.getfield 28, 3) := by decide +kernel
theorem dX3_hasPerson_9 : decode cX3_hasPerson 9 = .ok (.if_icmp .ge 7, 3) := by decide +kernel
theorem dX3_hasPerson_12 : decode cX3_hasPerson 12 = .ok (.iconst 1, 1) := by decide +kernel
theorem dX3_hasPerson_13 : decode cX3_hasPerson 13 = .ok (.goto 4, 3) := by decide +kernel
theorem dX3_hasPerson_16 : decode cX3_hasPerson 16 = .ok (.iconst 0, 1) := by decide +kernel
theorem dX3_hasPerson_17 : decode cX3_hasPerson 17 = .ok (.ireturn, 1) := by decide +kernel
theorem dX3_hasRoom_0 : decode cX3_hasRoom 0 = .ok (.iload_n 1, 1) := by decide +kernel
theorem dX3_hasRoom_1 : decode cX3_hasRoom 1 = .ok (.ifCond .lt 15, 3) := by decide +kernel
theorem dX3_hasRoom_4 : decode cX3_hasRoom 4 = .ok (.iload_n 1, 1) := by decide +kernel
theorem dX3_hasRoom_5 : decode cX3_hasRoom 5 = .ok (.aload_n 0, 1) := by decide +kernel
theorem dX3_hasRoom_6 : decode cX3_hasRoom 6 = .ok (.getfield 24, 3) := by decide +kernel
theorem dX3_hasRoom_9 : decode cX3_hasRoom 9 = .ok (.if_icmp .ge 7, 3) := by decide +kernel
theorem dX3_hasRoom_12 : decode cX3_hasRoom 12 = .ok (.iconst 1, 1) := by decide +kernel
theorem dX3_hasRoom_13 : decode cX3_hasRoom 13 = .ok (.goto 4, 3) := by decide +kernel
theorem dX3_hasRoom_16 : decode cX3_hasRoom 16 = .ok (.iconst 0, 1) := by decide +kernel
theorem dX3_hasRoom_17 : decode cX3_hasRoom 17 = .ok (.ireturn, 1) := by decide +kernel
theorem dX3_hasRoomOrNone_0 : decode cX3_hasRoomOrNone 0 = .ok (.iload_n 1, 1) := by decide +kernel
theorem dX3_hasRoomOrNone_1 : decode cX3_hasRoomOrNone 1 = .ok (.iconst (-1), 1) := by decide +kernel
theorem dX3_hasRoomOrNone_2 : decode cX3_hasRoomOrNone 2 = .ok (.if_icmp .eq 11, 3) := by decide +kernel
theorem dX3_hasRoomOrNone_5 : decode cX3_hasRoomOrNone 5 = .ok (.aload_n 0, 1) := by decide +kernel
theorem dX3_hasRoomOrNone_6 : decode cX3_hasRoomOrNone 6 = .ok (.iload_n 1, 1) := by decide +kernel
theorem dX3_hasRoomOrNone_7 : decode cX3_hasRoomOrNone 7 = .ok (.invokevirtual 47, 3) := by decide +kernel
theorem dX3_hasRoomOrNone_10 : decode cX3_hasRoomOrNone 10 = .ok (.ifCond .eq 7, 3) := by decide +kernel
theorem dX3_hasRoomOrNone_13 : decode cX3_hasRoomOrNone 13 = .ok (.iconst 1, 1) := by decide +kernel
theorem dX3_hasRoomOrNone_14 : decode cX3_hasRoomOrNone 14 = .ok (.goto 4, 3) := by decide +kernel
theorem dX3_hasRoomOrNone_17 : decode cX3_hasRoomOrNone 17 = .ok (.iconst 0, 1) := by decide +kernel
theorem dX3_hasRoomOrNone_18 : decode cX3_hasRoomOrNone 18 = .ok (.ireturn, 1) := by decide +kernel
theorem dX3_seatOf_0 : decode cX3_seatOf 0 = .ok (.aload_n 0, 1) := by decide +kernel
theorem dX3_seatOf_1 : decode cX3_seatOf 1 = .ok (.getfield 9, 3) := by decide +kernel
theorem dX3_seatOf_4 : decode cX3_seatOf 4 = .ok (.iload_n 1, 1) := by decide +kernel
theorem dX3_seatOf_5 : decode cX3_seatOf 5 = .ok (.invokestatic 51, 3) := by decide +kernel
theorem dX3_seatOf_8 : decode cX3_seatOf 8 = .ok (.ireturn, 1) := by decide +kernel
theorem dX3_seat_0 : decode cX3_seat 0 = .ok (.aload_n 0, 1) := by decide +kernel
theorem dX3_seat_1 : decode cX3_seat 1 = .ok (.getfield 9, 3) := by decide +kernel
theorem dX3_seat_4 : decode cX3_seat 4 = .ok (.iload_n 1, 1) := by decide +kernel
theorem dX3_seat_5 : decode cX3_seat 5 = .ok (.iload_n 2, 1) := by decide +kernel
theorem dX3_seat_6 : decode cX3_seat 6 = .ok (.invokestatic 37, 3) := by decide +kernel
theorem dX3_seat_9 : decode cX3_seat 9 = .ok (.return_, 1) := by decide +kernel
theorem dX3_sitter_0 : decode cX3_sitter 0 = .ok (.iconst 0, 1) := by decide +kernel
theorem dX3_sitter_1 : decode cX3_sitter 1 = .ok (.istore_n 2, 1) := by decide +kernel
theorem dX3_sitter_2 : decode cX3_sitter 2 = .ok (.iload_n 2, 1) := by decide +kernel
theorem dX3_sitter_3 : decode cX3_sitter 3 = .ok (.aload_n 0, 1) := by decide +kernel
theorem dX3_sitter_4 : decode cX3_sitter 4 = .ok (.getfield 28, 3) := by decide +kernel
theorem dX3_sitter_7 : decode cX3_sitter 7 = .ok (.if_icmp .ge 28, 3) := by decide +kernel
theorem dX3_sitter_10 : decode cX3_sitter 10 = .ok (.iload_n 1, 1) := by decide +kernel
theorem dX3_sitter_11 : decode cX3_sitter 11 = .ok (.iconst (-1), 1) := by decide +kernel
theorem dX3_sitter_12 : decode cX3_sitter 12 = .ok (.if_icmp .eq 17, 3) := by decide +kernel
theorem dX3_sitter_15 : decode cX3_sitter 15 = .ok (.aload_n 0, 1) := by decide +kernel
theorem dX3_sitter_16 : decode cX3_sitter 16 = .ok (.getfield 9, 3) := by decide +kernel
theorem dX3_sitter_19 : decode cX3_sitter 19 = .ok (.iload_n 2, 1) := by decide +kernel
theorem dX3_sitter_20 : decode cX3_sitter 20 = .ok (.invokestatic 51, 3) := by decide +kernel
theorem dX3_sitter_23 : decode cX3_sitter 23 = .ok (.iload_n 1, 1) := by decide +kernel
theorem dX3_sitter_24 : decode cX3_sitter 24 = .ok (.if_icmp .ne 5, 3) := by decide +kernel
theorem dX3_sitter_27 : decode cX3_sitter 27 = .ok (.iload_n 2, 1) := by decide +kernel
theorem dX3_sitter_28 : decode cX3_sitter 28 = .ok (.ireturn, 1) := by decide +kernel
theorem dX3_sitter_29 : decode cX3_sitter 29 = .ok (.iinc 2 1, 3) := by decide +kernel
theorem dX3_sitter_32 : decode cX3_sitter 32 = .ok (.goto (-30), 3) := by decide +kernel
theorem dX3_sitter_35 : decode cX3_sitter 35 = .ok (.iconst (-1), 1) := by decide +kernel
theorem dX3_sitter_36 : decode cX3_sitter 36 = .ok (.ireturn, 1) := by decide +kernel
theorem dX3_seatsOf_0 : decode cX3_seatsOf 0 = .ok (.iconst 0, 1) := by decide +kernel
theorem dX3_seatsOf_1 : decode cX3_seatsOf 1 = .ok (.istore_n 2, 1) := by decide +kernel
theorem dX3_seatsOf_2 : decode cX3_seatsOf 2 = .ok (.iconst 0, 1) := by decide +kernel
theorem dX3_seatsOf_3 : decode cX3_seatsOf 3 = .ok (.istore_n 3, 1) := by decide +kernel
theorem dX3_seatsOf_4 : decode cX3_seatsOf 4 = .ok (.iload_n 3, 1) := by decide +kernel
theorem dX3_seatsOf_5 : decode cX3_seatsOf 5 = .ok (.aload_n 0, 1) := by decide +kernel
theorem dX3_seatsOf_6 : decode cX3_seatsOf 6 = .ok (.getfield 28, 3) := by decide +kernel
end
section
theorem dX3_seatsOf_9 : decode cX3_seatsOf 9 = .ok (.if_icmp .ge 30, 3) := by decide +kernel
theorem dX3_seatsOf_12 : decode cX3_seatsOf 12 = .ok (.iload_n 1, 1) := by decide +kernel
theorem dX3_seatsOf_13 : decode cX3_seatsOf 13 = .ok (.iload_n 3, 1) := by decide +kernel
theorem dX3_seatsOf_14 : decode cX3_seatsOf 14 = .ok (.invokestatic 55, 3) := by decide +kernel
theorem dX3_seatsOf_17 : decode cX3_seatsOf 17 = .ok (.ifCond .eq 16, 3) := by decide +kernel
theorem dX3_seatsOf_20 : decode cX3_seatsOf 20 = .ok (.iload_n 2, 1) := by decide +kernel
theorem dX3_seatsOf_21 : decode cX3_seatsOf 21 = .ok (.aload_n 0, 1) := by decide +kernel
theorem dX3_seatsOf_22 : decode cX3_seatsOf 22 = .ok (.getfield 9, 3) := by decide +kernel
theorem dX3_seatsOf_25 : decode cX3_seatsOf 25 = .ok (.iload_n 3, 1) := by decide +kernel
theorem dX3_seatsOf_26 : decode cX3_seatsOf 26 = .ok (.invokestatic 51, 3) := by decide +kernel
theorem dX3_seatsOf_29 : decode cX3_seatsOf 29 = .ok (.invokestatic 59, 3) := by decide +kernel
theorem dX3_seatsOf_32 : decode cX3_seatsOf 32 = .ok (.istore_n 2, 1) := by decide +kernel
theorem dX3_seatsOf_33 : decode cX3_seatsOf 33 = .ok (.iinc 3 1, 3) := by decide +kernel
theorem dX3_seatsOf_36 : decode cX3_seatsOf 36 = .ok (.goto (-32), 3) := by decide +kernel
theorem dX3_seatsOf_39 : decode cX3_seatsOf 39 = .ok (.iload_n 2, 1) := by decide +kernel
theorem dX3_seatsOf_40 : decode cX3_seatsOf 40 = .ok (.ireturn, 1) := by decide +kernel
theorem dX3_emptyRooms_0 : decode cX3_emptyRooms 0 = .ok (.aload_n 0, 1) := by decide +kernel
theorem dX3_emptyRooms_1 : decode cX3_emptyRooms 1 = .ok (.getfield 24, 3) := by decide +kernel
theorem dX3_emptyRooms_4 : decode cX3_emptyRooms 4 = .ok (.invokestatic 62, 3) := by decide +kernel
theorem dX3_emptyRooms_7 : decode cX3_emptyRooms 7 = .ok (.aload_n 0, 1) := by decide +kernel
theorem dX3_emptyRooms_8 : decode cX3_emptyRooms 8 = .ok (.aload_n 0, 1) := by decide +kernel
theorem dX3_emptyRooms_9 : decode cX3_emptyRooms 9 = .ok (.getfield 28, 3) := by decide +kernel
theorem dX3_emptyRooms_12 : decode cX3_emptyRooms 12 = .ok (.invokestatic 62, 3) := by decide +kernel
theorem dX3_emptyRooms_15 : decode cX3_emptyRooms 15 = .ok (.invokevirtual 66, 3) := by decide +kernel
theorem dX3_emptyRooms_18 : decode cX3_emptyRooms 18 = .ok (.iconst (-1), 1) := by decide +kernel
theorem dX3_emptyRooms_19 : decode cX3_emptyRooms 19 = .ok (.ixor, 1) := by decide +kernel
theorem dX3_emptyRooms_20 : decode cX3_emptyRooms 20 = .ok (.iand, 1) := by decide +kernel
theorem dX3_emptyRooms_21 : decode cX3_emptyRooms 21 = .ok (.ireturn, 1) := by decide +kernel
theorem dX3_amount_0 : decode cX3_amount 0 = .ok (.aload_n 0, 1) := by decide +kernel
theorem dX3_amount_1 : decode cX3_amount 1 = .ok (.getfield 15, 3) := by decide +kernel
theorem dX3_amount_4 : decode cX3_amount 4 = .ok (.iload_n 1, 1) := by decide +kernel
theorem dX3_amount_5 : decode cX3_amount 5 = .ok (.invokestatic 51, 3) := by decide +kernel
theorem dX3_amount_8 : decode cX3_amount 8 = .ok (.ireturn, 1) := by decide +kernel
theorem dX3_liking_0 : decode cX3_liking 0 = .ok (.iload_n 2, 1) := by decide +kernel
theorem dX3_liking_1 : decode cX3_liking 1 = .ok (.ifCond .lt 31, 3) := by decide +kernel
theorem dX3_liking_4 : decode cX3_liking 4 = .ok (.iload_n 2, 1) := by decide +kernel
theorem dX3_liking_5 : decode cX3_liking 5 = .ok (.aload_n 0, 1) := by decide +kernel
theorem dX3_liking_6 : decode cX3_liking 6 = .ok (.getfield 15, 3) := by decide +kernel
theorem dX3_liking_9 : decode cX3_liking 9 = .ok (.iload_n 1, 1) := by decide +kernel
theorem dX3_liking_10 : decode cX3_liking 10 = .ok (.invokestatic 51, 3) := by decide +kernel
theorem dX3_liking_13 : decode cX3_liking 13 = .ok (.if_icmp .ge 19, 3) := by decide +kernel
theorem dX3_liking_16 : decode cX3_liking 16 = .ok (.aload_n 0, 1) := by decide +kernel
theorem dX3_liking_17 : decode cX3_liking 17 = .ok (.getfield 18, 3) := by decide +kernel
theorem dX3_liking_20 : decode cX3_liking 20 = .ok (.iload_n 1, 1) := by decide +kernel
theorem dX3_liking_21 : decode cX3_liking 21 = .ok (.bipush 8, 2) := by decide +kernel
theorem dX3_liking_23 : decode cX3_liking 23 = .ok (.imul, 1) := by decide +kernel
theorem dX3_liking_24 : decode cX3_liking 24 = .ok (.iload_n 2, 1) := by decide +kernel
theorem dX3_liking_25 : decode cX3_liking 25 = .ok (.iadd, 1) := by decide +kernel
theorem dX3_liking_26 : decode cX3_liking 26 = .ok (.invokestatic 51, 3) := by decide +kernel
theorem dX3_liking_29 : decode cX3_liking 29 = .ok (.goto 4, 3) := by decide +kernel
theorem dX3_liking_32 : decode cX3_liking 32 = .ok (.iconst (-1), 1) := by decide +kernel
theorem dX3_liking_33 : decode cX3_liking 33 = .ok (.ireturn, 1) := by decide +kernel
theorem dX3_likingPlace_0 : decode cX3_likingPlace 0 = .ok (.aload_n 0, 1) := by decide +kernel
theorem dX3_likingPlace_1 : decode cX3_likingPlace 1 = .ok (.getfield 15, 3) := by decide +kernel
theorem dX3_likingPlace_4 : decode cX3_likingPlace 4 = .ok (.iload_n 1, 1) := by decide +kernel
theorem dX3_likingPlace_5 : decode cX3_likingPlace 5 = .ok (.invokestatic 51, 3) := by decide +kernel
theorem dX3_likingPlace_8 : decode cX3_likingPlace 8 = .ok (.istore_n 3, 1) := by decide +kernel
theorem dX3_likingPlace_9 : decode cX3_likingPlace 9 = .ok (.iconst 0, 1) := by decide +kernel
theorem dX3_likingPlace_10 : decode cX3_likingPlace 10 = .ok (.istore 4, 2) := by decide +kernel
theorem dX3_likingPlace_12 : decode cX3_likingPlace 12 = .ok (.iload 4, 2) := by decide +kernel
theorem dX3_likingPlace_14 : decode cX3_likingPlace 14 = .ok (.iload_n 3, 1) := by decide +kernel
theorem dX3_likingPlace_15 : decode cX3_likingPlace 15 = .ok (.if_icmp .ge 30, 3) := by decide +kernel
theorem dX3_likingPlace_18 : decode cX3_likingPlace 18 = .ok (.aload_n 0, 1) := by decide +kernel
theorem dX3_likingPlace_19 : decode cX3_likingPlace 19 = .ok (.getfield 18, 3) := by decide +kernel
theorem dX3_likingPlace_22 : decode cX3_likingPlace 22 = .ok (.iload_n 1, 1) := by decide +kernel
theorem dX3_likingPlace_23 : decode cX3_likingPlace 23 = .ok (.bipush 8, 2) := by decide +kernel
theorem dX3_likingPlace_25 : decode cX3_likingPlace 25 = .ok (.imul, 1) := by decide +kernel
theorem dX3_likingPlace_26 : decode cX3_likingPlace 26 = .ok (.iload 4, 2) := by decide +kernel
theorem dX3_likingPlace_28 : decode cX3_likingPlace 28 = .ok (.iadd, 1) := by decide +kernel
theorem dX3_likingPlace_29 : decode cX3_likingPlace 29 = .ok (.invokestatic 51, 3) := by decide +kernel
theorem dX3_likingPlace_32 : decode cX3_likingPlace 32 = .ok (.iload_n 2, 1) := by decide +kernel
theorem dX3_likingPlace_33 : decode cX3_likingPlace 33 = .ok (.if_icmp .ne 6, 3) := by decide +kernel
theorem dX3_likingPlace_36 : decode cX3_likingPlace 36 = .ok (.iload 4, 2) := by decide +kernel
theorem dX3_likingPlace_38 : decode cX3_likingPlace 38 = .ok (.ireturn, 1) := by decide +kernel
theorem dX3_likingPlace_39 : decode cX3_likingPlace 39 = .ok (.iinc 4 1, 3) := by decide +kernel
theorem dX3_likingPlace_42 : decode cX3_likingPlace 42 = .ok (.goto (-30), 3) := by decide +kernel
theorem dX3_likingPlace_45 : decode cX3_likingPlace 45 = .ok (.iconst (-1), 1) := by decide +kernel
theorem dX3_likingPlace_46 : decode cX3_likingPlace 46 = .ok (.ireturn, 1) := by decide +kernel
theorem dX3_addLiking_0 : decode cX3_addLiking 0 = .ok (.aload_n 0, 1) := by decide +kernel
theorem dX3_addLiking_1 : decode cX3_addLiking 1 = .ok (.getfield 15, 3) := by decide +kernel
theorem dX3_addLiking_4 : decode cX3_addLiking 4 = .ok (.iload_n 1, 1) := by decide +kernel
theorem dX3_addLiking_5 : decode cX3_addLiking 5 = .ok (.invokestatic 51, 3) := by decide +kernel
theorem dX3_addLiking_8 : decode cX3_addLiking 8 = .ok (.istore_n 3, 1) := by decide +kernel
theorem dX3_addLiking_9 : decode cX3_addLiking 9 = .ok (.iload_n 3, 1) := by decide +kernel
theorem dX3_addLiking_10 : decode cX3_addLiking 10 = .ok (.ifCond .lt 34, 3) := by decide +kernel
theorem dX3_addLiking_13 : decode cX3_addLiking 13 = .ok (.iload_n 3, 1) := by decide +kernel
theorem dX3_addLiking_14 : decode cX3_addLiking 14 = .ok (.bipush 8, 2) := by decide +kernel
theorem dX3_addLiking_16 : decode cX3_addLiking 16 = .ok (.if_icmp .ge 28, 3) := by decide +kernel
theorem dX3_addLiking_19 : decode cX3_addLiking 19 = .ok (.aload_n 0, 1) := by decide +kernel
theorem dX3_addLiking_20 : decode cX3_addLiking 20 = .ok (.getfield 18, 3) := by decide +kernel
theorem dX3_addLiking_23 : decode cX3_addLiking 23 = .ok (.iload_n 1, 1) := by decide +kernel
theorem dX3_addLiking_24 : decode cX3_addLiking 24 = .ok (.bipush 8, 2) := by decide +kernel
theorem dX3_addLiking_26 : decode cX3_addLiking 26 = .ok (.imul, 1) := by decide +kernel
theorem dX3_addLiking_27 : decode cX3_addLiking 27 = .ok (.iload_n 3, 1) := by decide +kernel
theorem dX3_addLiking_28 : decode cX3_addLiking 28 = .ok (.iadd, 1) := by decide +kernel
theorem dX3_addLiking_29 : decode cX3_addLiking 29 = .ok (.iload_n 2, 1) := by decide +kernel
theorem dX3_addLiking_30 : decode cX3_addLiking 30 = .ok (.invokestatic 37, 3) := by decide +kernel
theorem dX3_addLiking_33 : decode cX3_addLiking 33 = .ok (.aload_n 0, 1) := by decide +kernel
theorem dX3_addLiking_34 : decode cX3_addLiking 34 = .ok (.getfield 15, 3) := by decide +kernel
theorem dX3_addLiking_37 : decode cX3_addLiking 37 = .ok (.iload_n 1, 1) := by decide +kernel
theorem dX3_addLiking_38 : decode cX3_addLiking 38 = .ok (.iload_n 3, 1) := by decide +kernel
theorem dX3_addLiking_39 : decode cX3_addLiking 39 = .ok (.iconst 1, 1) := by decide +kernel
theorem dX3_addLiking_40 : decode cX3_addLiking 40 = .ok (.iadd, 1) := by decide +kernel
theorem dX3_addLiking_41 : decode cX3_addLiking 41 = .ok (.invokestatic 37, 3) := by decide +kernel
theorem dX3_addLiking_44 : decode cX3_addLiking 44 = .ok (.return_, 1) := by decide +kernel
theorem dX3_clearLikings_0 : decode cX3_clearLikings 0 = .ok (.aload_n 0, 1) := by decide +kernel
theorem dX3_clearLikings_1 : decode cX3_clearLikings 1 = .ok (.getfield 15, 3) := by decide +kernel
theorem dX3_clearLikings_4 : decode cX3_clearLikings 4 = .ok (.iload_n 1, 1) := by decide +kernel
theorem dX3_clearLikings_5 : decode cX3_clearLikings 5 = .ok (.iconst 0, 1) := by decide +kernel
theorem dX3_clearLikings_6 : decode cX3_clearLikings 6 = .ok (.invokestatic 37, 3) := by decide +kernel
theorem dX3_clearLikings_9 : decode cX3_clearLikings 9 = .ok (.return_, 1) := by decide +kernel
theorem dX3_dropLiking_0 : decode cX3_dropLiking 0 = .ok (.aload_n 0, 1) := by decide +kernel
theorem dX3_dropLiking_1 : decode cX3_dropLiking 1 = .ok (.iload_n 1, 1) := by decide +kernel
theorem dX3_dropLiking_2 : decode cX3_dropLiking 2 = .ok (.iload_n 2, 1) := by decide +kernel
theorem dX3_dropLiking_3 : decode cX3_dropLiking 3 = .ok (.invokevirtual 69, 3) := by decide +kernel
theorem dX3_dropLiking_6 : decode cX3_dropLiking 6 = .ok (.istore_n 3, 1) := by decide +kernel
theorem dX3_dropLiking_7 : decode cX3_dropLiking 7 = .ok (.iload_n 3, 1) := by decide +kernel
theorem dX3_dropLiking_8 : decode cX3_dropLiking 8 = .ok (.iconst (-1), 1) := by decide +kernel
theorem dX3_dropLiking_9 : decode cX3_dropLiking 9 = .ok (.if_icmp .ne 4, 3) := by decide +kernel
theorem dX3_dropLiking_12 : decode cX3_dropLiking 12 = .ok (.return_, 1) := by decide +kernel
theorem dX3_dropLiking_13 : decode cX3_dropLiking 13 = .ok (.iload_n 1, 1) := by decide +kernel
theorem dX3_dropLiking_14 : decode cX3_dropLiking 14 = .ok (.bipush 8, 2) := by decide +kernel
theorem dX3_dropLiking_16 : decode cX3_dropLiking 16 = .ok (.imul, 1) := by decide +kernel
theorem dX3_dropLiking_17 : decode cX3_dropLiking 17 = .ok (.istore 4, 2) := by decide +kernel
theorem dX3_dropLiking_19 : decode cX3_dropLiking 19 = .ok (.aload_n 0, 1) := by decide +kernel
theorem dX3_dropLiking_20 : decode cX3_dropLiking 20 = .ok (.getfield 15, 3) := by decide +kernel
theorem dX3_dropLiking_23 : decode cX3_dropLiking 23 = .ok (.iload_n 1, 1) := by decide +kernel
theorem dX3_dropLiking_24 : decode cX3_dropLiking 24 = .ok (.invokestatic 51, 3) := by decide +kernel
theorem dX3_dropLiking_27 : decode cX3_dropLiking 27 = .ok (.iconst 1, 1) := by decide +kernel
theorem dX3_dropLiking_28 : decode cX3_dropLiking 28 = .ok (.isub, 1) := by decide +kernel
theorem dX3_dropLiking_29 : decode cX3_dropLiking 29 = .ok (.istore 5, 2) := by decide +kernel
theorem dX3_dropLiking_31 : decode cX3_dropLiking 31 = .ok (.iload_n 3, 1) := by decide +kernel
theorem dX3_dropLiking_32 : decode cX3_dropLiking 32 = .ok (.istore 6, 2) := by decide +kernel
theorem dX3_dropLiking_34 : decode cX3_dropLiking 34 = .ok (.iload 6, 2) := by decide +kernel
theorem dX3_dropLiking_36 : decode cX3_dropLiking 36 = .ok (.iload 5, 2) := by decide +kernel
theorem dX3_dropLiking_38 : decode cX3_dropLiking 38 = .ok (.if_icmp .ge 35, 3) := by decide +kernel
theorem dX3_dropLiking_41 : decode cX3_dropLiking 41 = .ok (.aload_n 0, 1) := by decide +kernel
theorem dX3_dropLiking_42 : decode cX3_dropLiking 42 = .ok (.getfield 18, 3) := by decide +kernel
theorem dX3_dropLiking_45 : decode cX3_dropLiking 45 = .ok (.iload 4, 2) := by decide +kernel
theorem dX3_dropLiking_47 : decode cX3_dropLiking 47 = .ok (.iload 6, 2) := by decide +kernel
theorem dX3_dropLiking_49 : decode cX3_dropLiking 49 = .ok (.iadd, 1) := by decide +kernel
theorem dX3_dropLiking_50 : decode cX3_dropLiking 50 = .ok (.aload_n 0, 1) := by decide +kernel
theorem dX3_dropLiking_51 : decode cX3_dropLiking 51 = .ok (.getfield 18, 3) := by decide +kernel
theorem dX3_dropLiking_54 : decode cX3_dropLiking 54 = .ok (.iload 4, 2) := by decide +kernel
theorem dX3_dropLiking_56 : decode cX3_dropLiking 56 = .ok (.iload 6, 2) := by decide +kernel
theorem dX3_dropLiking_58 : decode cX3_dropLiking 58 = .ok (.iadd, 1) := by decide +kernel
theorem dX3_dropLiking_59 : decode cX3_dropLiking 59 = .ok (.iconst 1, 1) := by decide +kernel
theorem dX3_dropLiking_60 : decode cX3_dropLiking 60 = .ok (.iadd, 1) := by decide +kernel
theorem dX3_dropLiking_61 : decode cX3_dropLiking 61 = .ok (.invokestatic 51, 3) := by decide +kernel
theorem dX3_dropLiking_64 : decode cX3_dropLiking 64 = .ok (.invokestatic 37, 3) := by decide +kernel
theorem dX3_dropLiking_67 : decode cX3_dropLiking 67 = .ok (.iinc 6 1, 3) := by decide +kernel
theorem dX3_dropLiking_70 : decode cX3_dropLiking 70 = .ok (.goto (-36), 3) := by decide +kernel
theorem dX3_dropLiking_73 : decode cX3_dropLiking 73 = .ok (.aload_n 0, 1) := by decide +kernel
theorem dX3_dropLiking_74 : decode cX3_dropLiking 74 = .ok (.getfield 15, 3) := by decide +kernel
theorem dX3_dropLiking_77 : decode cX3_dropLiking 77 = .ok (.iload_n 1, 1) := by decide +kernel
theorem dX3_dropLiking_78 : decode cX3_dropLiking 78 = .ok (.iload 5, 2) := by decide +kernel
theorem dX3_dropLiking_80 : decode cX3_dropLiking 80 = .ok (.invokestatic 37, 3) := by decide +kernel
theorem dX3_dropLiking_83 : decode cX3_dropLiking 83 = .ok (.return_, 1) := by decide +kernel
theorem dX3_putLiking_0 : decode cX3_putLiking 0 = .ok (.aload_n 0, 1) := by decide +kernel
theorem dX3_putLiking_1 : decode cX3_putLiking 1 = .ok (.iload_n 1, 1) := by decide +kernel
theorem dX3_putLiking_2 : decode cX3_putLiking 2 = .ok (.iload_n 2, 1) := by decide +kernel
theorem dX3_putLiking_3 : decode cX3_putLiking 3 = .ok (.invokevirtual 72, 3) := by decide +kernel
theorem dX3_putLiking_6 : decode cX3_putLiking 6 = .ok (.iload_n 1, 1) := by decide +kernel
theorem dX3_putLiking_7 : decode cX3_putLiking 7 = .ok (.bipush 8, 2) := by decide +kernel
theorem dX3_putLiking_9 : decode cX3_putLiking 9 = .ok (.imul, 1) := by decide +kernel
theorem dX3_putLiking_10 : decode cX3_putLiking 10 = .ok (.istore 4, 2) := by decide +kernel
theorem dX3_putLiking_12 : decode cX3_putLiking 12 = .ok (.aload_n 0, 1) := by decide +kernel
theorem dX3_putLiking_13 : decode cX3_putLiking 13 = .ok (.getfield 15, 3) := by decide +kernel
theorem dX3_putLiking_16 : decode cX3_putLiking 16 = .ok (.iload_n 1, 1) := by decide +kernel
theorem dX3_putLiking_17 : decode cX3_putLiking 17 = .ok (.invokestatic 51, 3) := by decide +kernel
theorem dX3_putLiking_20 : decode cX3_putLiking 20 = .ok (.istore 5, 2) := by decide +kernel
theorem dX3_putLiking_22 : decode cX3_putLiking 22 = .ok (.iload_n 3, 1) := by decide +kernel
theorem dX3_putLiking_23 : decode cX3_putLiking 23 = .ok (.iload 5, 2) := by decide +kernel
theorem dX3_putLiking_25 : decode cX3_putLiking 25 = .ok (.invokestatic 41, 3) := by decide +kernel
theorem dX3_putLiking_28 : decode cX3_putLiking 28 = .ok (.istore 6, 2) := by decide +kernel
theorem dX3_putLiking_30 : decode cX3_putLiking 30 = .ok (.aload_n 0, 1) := by decide +kernel
theorem dX3_putLiking_31 : decode cX3_putLiking 31 = .ok (.iload_n 1, 1) := by decide +kernel
theorem dX3_putLiking_32 : decode cX3_putLiking 32 = .ok (.iload_n 2, 1) := by decide +kernel
theorem dX3_putLiking_33 : decode cX3_putLiking 33 = .ok (.invokevirtual 76, 3) := by decide +kernel
theorem dX3_putLiking_36 : decode cX3_putLiking 36 = .ok (.iload 5, 2) := by decide +kernel
theorem dX3_putLiking_38 : decode cX3_putLiking 38 = .ok (.istore 7, 2) := by decide +kernel
theorem dX3_putLiking_40 : decode cX3_putLiking 40 = .ok (.iload 7, 2) := by decide +kernel
theorem dX3_putLiking_42 : decode cX3_putLiking 42 = .ok (.iload 6, 2) := by decide +kernel
theorem dX3_putLiking_44 : decode cX3_putLiking 44 = .ok (.if_icmp .le 35, 3) := by decide +kernel
theorem dX3_putLiking_47 : decode cX3_putLiking 47 = .ok (.aload_n 0, 1) := by decide +kernel
theorem dX3_putLiking_48 : decode cX3_putLiking 48 = .ok (.getfield 18, 3) := by decide +kernel
theorem dX3_putLiking_51 : decode cX3_putLiking 51 = .ok (.iload 4, 2) := by decide +kernel
theorem dX3_putLiking_53 : decode cX3_putLiking 53 = .ok (.iload 7, 2) := by decide +kernel
theorem dX3_putLiking_55 : decode cX3_putLiking 55 = .ok (.iadd, 1) := by decide +kernel
theorem dX3_putLiking_56 : decode cX3_putLiking 56 = .ok (.aload_n 0, 1) := by decide +kernel
theorem dX3_putLiking_57 : decode cX3_putLiking 57 = .ok (.getfield 18, 3) := by decide +kernel
theorem dX3_putLiking_60 : decode cX3_putLiking 60 = .ok (.iload 4, 2) := by decide +kernel
theorem dX3_putLiking_62 : decode cX3_putLiking 62 = .ok (.iload 7, 2) := by decide +kernel
theorem dX3_putLiking_64 : decode cX3_putLiking 64 = .ok (.iadd, 1) := by decide +kernel
theorem dX3_putLiking_65 : decode cX3_putLiking 65 = .ok (.iconst 1, 1) := by decide +kernel
theorem dX3_putLiking_66 : decode cX3_putLiking 66 = .ok (.isub, 1) := by decide +kernel
theorem dX3_putLiking_67 : decode cX3_putLiking 67 = .ok (.invokestatic 51, 3) := by decide +kernel
theorem dX3_putLiking_70 : decode cX3_putLiking 70 = .ok (.invokestatic 37, 3) := by decide +kernel
theorem dX3_putLiking_73 : decode cX3_putLiking 73 = .ok (.iinc 7 (-1), 3) := by decide +kernel
theorem dX3_putLiking_76 : decode cX3_putLiking 76 = .ok (.goto (-36), 3) := by decide +kernel
theorem dX3_putLiking_79 : decode cX3_putLiking 79 = .ok (.aload_n 0, 1) := by decide +kernel
theorem dX3_putLiking_80 : decode cX3_putLiking 80 = .ok (.getfield 18, 3) := by decide +kernel
theorem dX3_putLiking_83 : decode cX3_putLiking 83 = .ok (.iload 4, 2) := by decide +kernel
theorem dX3_putLiking_85 : decode cX3_putLiking 85 = .ok (.iload 6, 2) := by decide +kernel
theorem dX3_putLiking_87 : decode cX3_putLiking 87 = .ok (.iadd, 1) := by decide +kernel
theorem dX3_putLiking_88 : decode cX3_putLiking 88 = .ok (.iload_n 2, 1) := by decide +kernel
theorem dX3_putLiking_89 : decode cX3_putLiking 89 = .ok (.invokestatic 37, 3) := by decide +kernel
theorem dX3_putLiking_92 : decode cX3_putLiking 92 = .ok (.return_, 1) := by decide +kernel
theorem dX3_placeOf_0 : decode cX3_placeOf 0 = .ok (.iconst 0, 1) := by decide +kernel
theorem dX3_placeOf_1 : decode cX3_placeOf 1 = .ok (.istore_n 2, 1) := by decide +kernel
theorem dX3_placeOf_2 : decode cX3_placeOf 2 = .ok (.iload_n 2, 1) := by decide +kernel
theorem dX3_placeOf_3 : decode cX3_placeOf 3 = .ok (.aload_n 0, 1) := by decide +kernel
theorem dX3_placeOf_4 : decode cX3_placeOf 4 = .ok (.getfield 28, 3) := by decide +kernel
theorem dX3_placeOf_7 : decode cX3_placeOf 7 = .ok (.if_icmp .ge 23, 3) := by decide +kernel
theorem dX3_placeOf_10 : decode cX3_placeOf 10 = .ok (.aload_n 0, 1) := by decide +kernel
theorem dX3_placeOf_11 : decode cX3_placeOf 11 = .ok (.getfield 21, 3) := by decide +kernel
theorem dX3_placeOf_14 : decode cX3_placeOf 14 = .ok (.iload_n 2, 1) := by decide +kernel
theorem dX3_placeOf_15 : decode cX3_placeOf 15 = .ok (.invokestatic 51, 3) := by decide +kernel
theorem dX3_placeOf_18 : decode cX3_placeOf 18 = .ok (.iload_n 1, 1) := by decide +kernel
theorem dX3_placeOf_19 : decode cX3_placeOf 19 = .ok (.if_icmp .ne 5, 3) := by decide +kernel
theorem dX3_placeOf_22 : decode cX3_placeOf 22 = .ok (.iload_n 2, 1) := by decide +kernel
theorem dX3_placeOf_23 : decode cX3_placeOf 23 = .ok (.ireturn, 1) := by decide +kernel
theorem dX3_placeOf_24 : decode cX3_placeOf 24 = .ok (.iinc 2 1, 3) := by decide +kernel
theorem dX3_placeOf_27 : decode cX3_placeOf 27 = .ok (.goto (-25), 3) := by decide +kernel
theorem dX3_placeOf_30 : decode cX3_placeOf 30 = .ok (.iconst (-1), 1) := by decide +kernel
theorem dX3_placeOf_31 : decode cX3_placeOf 31 = .ok (.ireturn, 1) := by decide +kernel
theorem dX3_toPlace_0 : decode cX3_toPlace 0 = .ok (.aload_n 0, 1) := by decide +kernel
theorem dX3_toPlace_1 : decode cX3_toPlace 1 = .ok (.iload_n 1, 1) := by decide +kernel
theorem dX3_toPlace_2 : decode cX3_toPlace 2 = .ok (.invokevirtual 79, 3) := by decide +kernel
theorem dX3_toPlace_5 : decode cX3_toPlace 5 = .ok (.istore_n 3, 1) := by decide +kernel
theorem dX3_toPlace_6 : decode cX3_toPlace 6 = .ok (.iload_n 3, 1) := by decide +kernel
theorem dX3_toPlace_7 : decode cX3_toPlace 7 = .ok (.istore 4, 2) := by decide +kernel
theorem dX3_toPlace_9 : decode cX3_toPlace 9 = .ok (.iload 4, 2) := by decide +kernel
theorem dX3_toPlace_11 : decode cX3_toPlace 11 = .ok (.iload_n 2, 1) := by decide +kernel
theorem dX3_toPlace_12 : decode cX3_toPlace 12 = .ok (.if_icmp .ge 29, 3) := by decide +kernel
theorem dX3_toPlace_15 : decode cX3_toPlace 15 = .ok (.aload_n 0, 1) := by decide +kernel
theorem dX3_toPlace_16 : decode cX3_toPlace 16 = .ok (.getfield 21, 3) := by decide +kernel
theorem dX3_toPlace_19 : decode cX3_toPlace 19 = .ok (.iload 4, 2) := by decide +kernel
theorem dX3_toPlace_21 : decode cX3_toPlace 21 = .ok (.aload_n 0, 1) := by decide +kernel
theorem dX3_toPlace_22 : decode cX3_toPlace 22 = .ok (.getfield 21, 3) := by decide +kernel
theorem dX3_toPlace_25 : decode cX3_toPlace 25 = .ok (.iload 4, 2) := by decide +kernel
theorem dX3_toPlace_27 : decode cX3_toPlace 27 = .ok (.iconst 1, 1) := by decide +kernel
theorem dX3_toPlace_28 : decode cX3_toPlace 28 = .ok (.iadd, 1) := by decide +kernel
theorem dX3_toPlace_29 : decode cX3_toPlace 29 = .ok (.invokestatic 51, 3) := by decide +kernel
theorem dX3_toPlace_32 : decode cX3_toPlace 32 = .ok (.invokestatic 37, 3) := by decide +kernel
theorem dX3_toPlace_35 : decode cX3_toPlace 35 = .ok (.iinc 4 1, 3) := by decide +kernel
theorem dX3_toPlace_38 : decode cX3_toPlace 38 = .ok (.goto (-29), 3) := by decide +kernel
theorem dX3_toPlace_41 : decode cX3_toPlace 41 = .ok (.iload_n 3, 1) := by decide +kernel
theorem dX3_toPlace_42 : decode cX3_toPlace 42 = .ok (.istore 4, 2) := by decide +kernel
theorem dX3_toPlace_44 : decode cX3_toPlace 44 = .ok (.iload 4, 2) := by decide +kernel
theorem dX3_toPlace_46 : decode cX3_toPlace 46 = .ok (.iload_n 2, 1) := by decide +kernel
theorem dX3_toPlace_47 : decode cX3_toPlace 47 = .ok (.if_icmp .le 29, 3) := by decide +kernel
theorem dX3_toPlace_50 : decode cX3_toPlace 50 = .ok (.aload_n 0, 1) := by decide +kernel
theorem dX3_toPlace_51 : decode cX3_toPlace 51 = .ok (.getfield 21, 3) := by decide +kernel
theorem dX3_toPlace_54 : decode cX3_toPlace 54 = .ok (.iload 4, 2) := by decide +kernel
theorem dX3_toPlace_56 : decode cX3_toPlace 56 = .ok (.aload_n 0, 1) := by decide +kernel
theorem dX3_toPlace_57 : decode cX3_toPlace 57 = .ok (.getfield 21, 3) := by decide +kernel
theorem dX3_toPlace_60 : decode cX3_toPlace 60 = .ok (.iload 4, 2) := by decide +kernel
theorem dX3_toPlace_62 : decode cX3_toPlace 62 = .ok (.iconst 1, 1) := by decide +kernel
theorem dX3_toPlace_63 : decode cX3_toPlace 63 = .ok (.isub, 1) := by decide +kernel
theorem dX3_toPlace_64 : decode cX3_toPlace 64 = .ok (.invokestatic 51, 3) := by decide +kernel
theorem dX3_toPlace_67 : decode cX3_toPlace 67 = .ok (.invokestatic 37, 3) := by decide +kernel
theorem dX3_toPlace_70 : decode cX3_toPlace 70 = .ok (.iinc 4 (-1), 3) := by decide +kernel
theorem dX3_toPlace_73 : decode cX3_toPlace 73 = .ok (.goto (-29), 3) := by decide +kernel
theorem dX3_toPlace_76 : decode cX3_toPlace 76 = .ok (.aload_n 0, 1) := by decide +kernel
theorem dX3_toPlace_77 : decode cX3_toPlace 77 = .ok (.getfield 21, 3) := by decide +kernel
theorem dX3_toPlace_80 : decode cX3_toPlace 80 = .ok (.iload_n 2, 1) := by decide +kernel
theorem dX3_toPlace_81 : decode cX3_toPlace 81 = .ok (.iload_n 1, 1) := by decide +kernel
theorem dX3_toPlace_82 : decode cX3_toPlace 82 = .ok (.invokestatic 37, 3) := by decide +kernel
theorem dX3_toPlace_85 : decode cX3_toPlace 85 = .ok (.return_, 1) := by decide +kernel
theorem dX3_orders_0 : decode cX3_orders 0 = .ok (.iconst 1, 1) := by decide +kernel
theorem dX3_orders_1 : decode cX3_orders 1 = .ok (.istore_n 1, 1) := by decide +kernel
theorem dX3_orders_2 : decode cX3_orders 2 = .ok (.iconst 2, 1) := by decide +kernel
theorem dX3_orders_3 : decode cX3_orders 3 = .ok (.istore_n 2, 1) := by decide +kernel
theorem dX3_orders_4 : decode cX3_orders 4 = .ok (.iload_n 2, 1) := by decide +kernel
theorem dX3_orders_5 : decode cX3_orders 5 = .ok (.aload_n 0, 1) := by decide +kernel
theorem dX3_orders_6 : decode cX3_orders 6 = .ok (.getfield 28, 3) := by decide +kernel
theorem dX3_orders_9 : decode cX3_orders 9 = .ok (.if_icmp .gt 13, 3) := by decide +kernel
theorem dX3_orders_12 : decode cX3_orders 12 = .ok (.iload_n 1, 1) := by decide +kernel
theorem dX3_orders_13 : decode cX3_orders 13 = .ok (.iload_n 2, 1) := by decide +kernel
theorem dX3_orders_14 : decode cX3_orders 14 = .ok (.imul, 1) := by decide +kernel
theorem dX3_orders_15 : decode cX3_orders 15 = .ok (.istore_n 1, 1) := by decide +kernel
theorem dX3_orders_16 : decode cX3_orders 16 = .ok (.iinc 2 1, 3) := by decide +kernel
theorem dX3_orders_19 : decode cX3_orders 19 = .ok (.goto (-15), 3) := by decide +kernel
theorem dX3_orders_22 : decode cX3_orders 22 = .ok (.iload_n 1, 1) := by decide +kernel
theorem dX3_orders_23 : decode cX3_orders 23 = .ok (.ireturn, 1) := by decide +kernel
theorem dX3_orderBy_0 : decode cX3_orderBy 0 = .ok (.iload_n 1, 1) := by decide +kernel
theorem dX3_orderBy_1 : decode cX3_orderBy 1 = .ok (.istore_n 2, 1) := by decide +kernel
theorem dX3_orderBy_2 : decode cX3_orderBy 2 = .ok (.aload_n 0, 1) := by decide +kernel
theorem dX3_orderBy_3 : decode cX3_orderBy 3 = .ok (.getfield 28, 3) := by decide +kernel
theorem dX3_orderBy_6 : decode cX3_orderBy 6 = .ok (.invokestatic 62, 3) := by decide +kernel
theorem dX3_orderBy_9 : decode cX3_orderBy 9 = .ok (.istore_n 3, 1) := by decide +kernel
theorem dX3_orderBy_10 : decode cX3_orderBy 10 = .ok (.iconst 0, 1) := by decide +kernel
theorem dX3_orderBy_11 : decode cX3_orderBy 11 = .ok (.istore 4, 2) := by decide +kernel
theorem dX3_orderBy_13 : decode cX3_orderBy 13 = .ok (.iload 4, 2) := by decide +kernel
theorem dX3_orderBy_15 : decode cX3_orderBy 15 = .ok (.aload_n 0, 1) := by decide +kernel
theorem dX3_orderBy_16 : decode cX3_orderBy 16 = .ok (.getfield 28, 3) := by decide +kernel
theorem dX3_orderBy_19 : decode cX3_orderBy 19 = .ok (.if_icmp .ge 52, 3) := by decide +kernel
theorem dX3_orderBy_22 : decode cX3_orderBy 22 = .ok (.aload_n 0, 1) := by decide +kernel
theorem dX3_orderBy_23 : decode cX3_orderBy 23 = .ok (.getfield 28, 3) := by decide +kernel
theorem dX3_orderBy_26 : decode cX3_orderBy 26 = .ok (.iload 4, 2) := by decide +kernel
theorem dX3_orderBy_28 : decode cX3_orderBy 28 = .ok (.isub, 1) := by decide +kernel
theorem dX3_orderBy_29 : decode cX3_orderBy 29 = .ok (.istore 5, 2) := by decide +kernel
theorem dX3_orderBy_31 : decode cX3_orderBy 31 = .ok (.aload_n 0, 1) := by decide +kernel
theorem dX3_orderBy_32 : decode cX3_orderBy 32 = .ok (.iload_n 3, 1) := by decide +kernel
theorem dX3_orderBy_33 : decode cX3_orderBy 33 = .ok (.iload_n 2, 1) := by decide +kernel
theorem dX3_orderBy_34 : decode cX3_orderBy 34 = .ok (.iload 5, 2) := by decide +kernel
theorem dX3_orderBy_36 : decode cX3_orderBy 36 = .ok (.irem, 1) := by decide +kernel
theorem dX3_orderBy_37 : decode cX3_orderBy 37 = .ok (.invokevirtual 82, 3) := by decide +kernel
theorem dX3_orderBy_40 : decode cX3_orderBy 40 = .ok (.istore 6, 2) := by decide +kernel
theorem dX3_orderBy_42 : decode cX3_orderBy 42 = .ok (.iload_n 2, 1) := by decide +kernel
theorem dX3_orderBy_43 : decode cX3_orderBy 43 = .ok (.iload 5, 2) := by decide +kernel
theorem dX3_orderBy_45 : decode cX3_orderBy 45 = .ok (.idiv, 1) := by decide +kernel
theorem dX3_orderBy_46 : decode cX3_orderBy 46 = .ok (.istore_n 2, 1) := by decide +kernel
theorem dX3_orderBy_47 : decode cX3_orderBy 47 = .ok (.aload_n 0, 1) := by decide +kernel
theorem dX3_orderBy_48 : decode cX3_orderBy 48 = .ok (.getfield 21, 3) := by decide +kernel
theorem dX3_orderBy_51 : decode cX3_orderBy 51 = .ok (.iload 4, 2) := by decide +kernel
theorem dX3_orderBy_53 : decode cX3_orderBy 53 = .ok (.iload 6, 2) := by decide +kernel
theorem dX3_orderBy_55 : decode cX3_orderBy 55 = .ok (.invokestatic 37, 3) := by decide +kernel
theorem dX3_orderBy_58 : decode cX3_orderBy 58 = .ok (.iload_n 3, 1) := by decide +kernel
theorem dX3_orderBy_59 : decode cX3_orderBy 59 = .ok (.iload 6, 2) := by decide +kernel
theorem dX3_orderBy_61 : decode cX3_orderBy 61 = .ok (.invokestatic 85, 3) := by decide +kernel
theorem dX3_orderBy_64 : decode cX3_orderBy 64 = .ok (.istore_n 3, 1) := by decide +kernel
theorem dX3_orderBy_65 : decode cX3_orderBy 65 = .ok (.iinc 4 1, 3) := by decide +kernel
theorem dX3_orderBy_68 : decode cX3_orderBy 68 = .ok (.goto (-55), 3) := by decide +kernel
theorem dX3_orderBy_71 : decode cX3_orderBy 71 = .ok (.return_, 1) := by decide +kernel
theorem dX3_member_0 : decode cX3_member 0 = .ok (.iload_n 2, 1) := by decide +kernel
theorem dX3_member_1 : decode cX3_member 1 = .ok (.istore_n 3, 1) := by decide +kernel
theorem dX3_member_2 : decode cX3_member 2 = .ok (.iconst 0, 1) := by decide +kernel
theorem dX3_member_3 : decode cX3_member 3 = .ok (.istore 4, 2) := by decide +kernel
theorem dX3_member_5 : decode cX3_member 5 = .ok (.iload 4, 2) := by decide +kernel
theorem dX3_member_7 : decode cX3_member 7 = .ok (.aload_n 0, 1) := by decide +kernel
theorem dX3_member_8 : decode cX3_member 8 = .ok (.getfield 28, 3) := by decide +kernel
theorem dX3_member_11 : decode cX3_member 11 = .ok (.if_icmp .ge 28, 3) := by decide +kernel
theorem dX3_member_14 : decode cX3_member 14 = .ok (.iload_n 1, 1) := by decide +kernel
theorem dX3_member_15 : decode cX3_member 15 = .ok (.iload 4, 2) := by decide +kernel
theorem dX3_member_17 : decode cX3_member 17 = .ok (.invokestatic 55, 3) := by decide +kernel
theorem dX3_member_20 : decode cX3_member 20 = .ok (.ifCond .eq 13, 3) := by decide +kernel
theorem dX3_member_23 : decode cX3_member 23 = .ok (.iload_n 3, 1) := by decide +kernel
theorem dX3_member_24 : decode cX3_member 24 = .ok (.ifCond .ne 6, 3) := by decide +kernel
theorem dX3_member_27 : decode cX3_member 27 = .ok (.iload 4, 2) := by decide +kernel
theorem dX3_member_29 : decode cX3_member 29 = .ok (.ireturn, 1) := by decide +kernel
theorem dX3_member_30 : decode cX3_member 30 = .ok (.iinc 3 (-1), 3) := by decide +kernel
theorem dX3_member_33 : decode cX3_member 33 = .ok (.iinc 4 1, 3) := by decide +kernel
theorem dX3_member_36 : decode cX3_member 36 = .ok (.goto (-31), 3) := by decide +kernel
theorem dX3_member_39 : decode cX3_member 39 = .ok (.iconst (-1), 1) := by decide +kernel
theorem dX3_member_40 : decode cX3_member 40 = .ok (.ireturn, 1) := by decide +kernel
theorem dX3_firstOf_0 : decode cX3_firstOf 0 = .ok (.iconst 0, 1) := by decide +kernel
theorem dX3_firstOf_1 : decode cX3_firstOf 1 = .ok (.istore_n 2, 1) := by decide +kernel
theorem dX3_firstOf_2 : decode cX3_firstOf 2 = .ok (.iload_n 2, 1) := by decide +kernel
theorem dX3_firstOf_3 : decode cX3_firstOf 3 = .ok (.aload_n 0, 1) := by decide +kernel
theorem dX3_firstOf_4 : decode cX3_firstOf 4 = .ok (.getfield 28, 3) := by decide +kernel
theorem dX3_firstOf_7 : decode cX3_firstOf 7 = .ok (.if_icmp .ge 28, 3) := by decide +kernel
theorem dX3_firstOf_10 : decode cX3_firstOf 10 = .ok (.aload_n 0, 1) := by decide +kernel
theorem dX3_firstOf_11 : decode cX3_firstOf 11 = .ok (.getfield 21, 3) := by decide +kernel
theorem dX3_firstOf_14 : decode cX3_firstOf 14 = .ok (.iload_n 2, 1) := by decide +kernel
theorem dX3_firstOf_15 : decode cX3_firstOf 15 = .ok (.invokestatic 51, 3) := by decide +kernel
theorem dX3_firstOf_18 : decode cX3_firstOf 18 = .ok (.istore_n 3, 1) := by decide +kernel
theorem dX3_firstOf_19 : decode cX3_firstOf 19 = .ok (.iload_n 1, 1) := by decide +kernel
theorem dX3_firstOf_20 : decode cX3_firstOf 20 = .ok (.iload_n 3, 1) := by decide +kernel
theorem dX3_firstOf_21 : decode cX3_firstOf 21 = .ok (.invokestatic 55, 3) := by decide +kernel
theorem dX3_firstOf_24 : decode cX3_firstOf 24 = .ok (.ifCond .eq 5, 3) := by decide +kernel
theorem dX3_firstOf_27 : decode cX3_firstOf 27 = .ok (.iload_n 3, 1) := by decide +kernel
theorem dX3_firstOf_28 : decode cX3_firstOf 28 = .ok (.ireturn, 1) := by decide +kernel
theorem dX3_firstOf_29 : decode cX3_firstOf 29 = .ok (.iinc 2 1, 3) := by decide +kernel
theorem dX3_firstOf_32 : decode cX3_firstOf 32 = .ok (.goto (-30), 3) := by decide +kernel
theorem dX3_firstOf_35 : decode cX3_firstOf 35 = .ok (.iconst (-1), 1) := by decide +kernel
theorem dX3_firstOf_36 : decode cX3_firstOf 36 = .ok (.ireturn, 1) := by decide +kernel
theorem dX3_best_0 : decode cX3_best 0 = .ok (.aload_n 0, 1) := by decide +kernel
theorem dX3_best_1 : decode cX3_best 1 = .ok (.getfield 9, 3) := by decide +kernel
theorem dX3_best_4 : decode cX3_best 4 = .ok (.iload_n 1, 1) := by decide +kernel
theorem dX3_best_5 : decode cX3_best 5 = .ok (.invokestatic 51, 3) := by decide +kernel
theorem dX3_best_8 : decode cX3_best 8 = .ok (.istore_n 3, 1) := by decide +kernel
theorem dX3_best_9 : decode cX3_best 9 = .ok (.aload_n 0, 1) := by decide +kernel
theorem dX3_best_10 : decode cX3_best 10 = .ok (.getfield 15, 3) := by decide +kernel
theorem dX3_best_13 : decode cX3_best 13 = .ok (.iload_n 1, 1) := by decide +kernel
theorem dX3_best_14 : decode cX3_best 14 = .ok (.invokestatic 51, 3) := by decide +kernel
theorem dX3_best_17 : decode cX3_best 17 = .ok (.istore 4, 2) := by decide +kernel
theorem dX3_best_19 : decode cX3_best 19 = .ok (.iconst 0, 1) := by decide +kernel
theorem dX3_best_20 : decode cX3_best 20 = .ok (.istore 5, 2) := by decide +kernel
theorem dX3_best_22 : decode cX3_best 22 = .ok (.iload 5, 2) := by decide +kernel
theorem dX3_best_24 : decode cX3_best 24 = .ok (.iload 4, 2) := by decide +kernel
theorem dX3_best_26 : decode cX3_best 26 = .ok (.if_icmp .ge 45, 3) := by decide +kernel
theorem dX3_best_29 : decode cX3_best 29 = .ok (.aload_n 0, 1) := by decide +kernel
theorem dX3_best_30 : decode cX3_best 30 = .ok (.getfield 18, 3) := by decide +kernel
theorem dX3_best_33 : decode cX3_best 33 = .ok (.iload_n 1, 1) := by decide +kernel
theorem dX3_best_34 : decode cX3_best 34 = .ok (.bipush 8, 2) := by decide +kernel
theorem dX3_best_36 : decode cX3_best 36 = .ok (.imul, 1) := by decide +kernel
theorem dX3_best_37 : decode cX3_best 37 = .ok (.iload 5, 2) := by decide +kernel
theorem dX3_best_39 : decode cX3_best 39 = .ok (.iadd, 1) := by decide +kernel
theorem dX3_best_40 : decode cX3_best 40 = .ok (.invokestatic 51, 3) := by decide +kernel
theorem dX3_best_43 : decode cX3_best 43 = .ok (.istore 6, 2) := by decide +kernel
theorem dX3_best_45 : decode cX3_best 45 = .ok (.iload_n 2, 1) := by decide +kernel
theorem dX3_best_46 : decode cX3_best 46 = .ok (.iload 6, 2) := by decide +kernel
theorem dX3_best_48 : decode cX3_best 48 = .ok (.invokestatic 55, 3) := by decide +kernel
theorem dX3_best_51 : decode cX3_best 51 = .ok (.ifCond .eq 6, 3) := by decide +kernel
theorem dX3_best_54 : decode cX3_best 54 = .ok (.iload 6, 2) := by decide +kernel
theorem dX3_best_56 : decode cX3_best 56 = .ok (.ireturn, 1) := by decide +kernel
theorem dX3_best_57 : decode cX3_best 57 = .ok (.iload 6, 2) := by decide +kernel
theorem dX3_best_59 : decode cX3_best 59 = .ok (.iload_n 3, 1) := by decide +kernel
theorem dX3_best_60 : decode cX3_best 60 = .ok (.if_icmp .ne 5, 3) := by decide +kernel
theorem dX3_best_63 : decode cX3_best 63 = .ok (.iconst (-1), 1) := by decide +kernel
theorem dX3_best_64 : decode cX3_best 64 = .ok (.ireturn, 1) := by decide +kernel
theorem dX3_best_65 : decode cX3_best 65 = .ok (.iinc 5 1, 3) := by decide +kernel
theorem dX3_best_68 : decode cX3_best 68 = .ok (.goto (-46), 3) := by decide +kernel
theorem dX3_best_71 : decode cX3_best 71 = .ok (.iload_n 2, 1) := by decide +kernel
theorem dX3_best_72 : decode cX3_best 72 = .ok (.iload_n 3, 1) := by decide +kernel
theorem dX3_best_73 : decode cX3_best 73 = .ok (.invokestatic 55, 3) := by decide +kernel
theorem dX3_best_76 : decode cX3_best 76 = .ok (.ifCond .eq 7, 3) := by decide +kernel
theorem dX3_best_79 : decode cX3_best 79 = .ok (.iload_n 3, 1) := by decide +kernel
theorem dX3_best_80 : decode cX3_best 80 = .ok (.goto 4, 3) := by decide +kernel
theorem dX3_best_83 : decode cX3_best 83 = .ok (.iconst (-1), 1) := by decide +kernel
theorem dX3_best_84 : decode cX3_best 84 = .ok (.ireturn, 1) := by decide +kernel
theorem dX3_rank_0 : decode cX3_rank 0 = .ok (.aload_n 0, 1) := by decide +kernel
theorem dX3_rank_1 : decode cX3_rank 1 = .ok (.getfield 9, 3) := by decide +kernel
theorem dX3_rank_4 : decode cX3_rank 4 = .ok (.iload_n 1, 1) := by decide +kernel
theorem dX3_rank_5 : decode cX3_rank 5 = .ok (.invokestatic 51, 3) := by decide +kernel
theorem dX3_rank_8 : decode cX3_rank 8 = .ok (.istore_n 3, 1) := by decide +kernel
theorem dX3_rank_9 : decode cX3_rank 9 = .ok (.aload_n 0, 1) := by decide +kernel
theorem dX3_rank_10 : decode cX3_rank 10 = .ok (.getfield 15, 3) := by decide +kernel
theorem dX3_rank_13 : decode cX3_rank 13 = .ok (.iload_n 1, 1) := by decide +kernel
theorem dX3_rank_14 : decode cX3_rank 14 = .ok (.invokestatic 51, 3) := by decide +kernel
theorem dX3_rank_17 : decode cX3_rank 17 = .ok (.istore 4, 2) := by decide +kernel
theorem dX3_rank_19 : decode cX3_rank 19 = .ok (.iconst 0, 1) := by decide +kernel
theorem dX3_rank_20 : decode cX3_rank 20 = .ok (.istore 5, 2) := by decide +kernel
theorem dX3_rank_22 : decode cX3_rank 22 = .ok (.iload 5, 2) := by decide +kernel
theorem dX3_rank_24 : decode cX3_rank 24 = .ok (.iload 4, 2) := by decide +kernel
theorem dX3_rank_26 : decode cX3_rank 26 = .ok (.if_icmp .ge 45, 3) := by decide +kernel
theorem dX3_rank_29 : decode cX3_rank 29 = .ok (.aload_n 0, 1) := by decide +kernel
theorem dX3_rank_30 : decode cX3_rank 30 = .ok (.getfield 18, 3) := by decide +kernel
theorem dX3_rank_33 : decode cX3_rank 33 = .ok (.iload_n 1, 1) := by decide +kernel
theorem dX3_rank_34 : decode cX3_rank 34 = .ok (.bipush 8, 2) := by decide +kernel
theorem dX3_rank_36 : decode cX3_rank 36 = .ok (.imul, 1) := by decide +kernel
theorem dX3_rank_37 : decode cX3_rank 37 = .ok (.iload 5, 2) := by decide +kernel
theorem dX3_rank_39 : decode cX3_rank 39 = .ok (.iadd, 1) := by decide +kernel
theorem dX3_rank_40 : decode cX3_rank 40 = .ok (.invokestatic 51, 3) := by decide +kernel
theorem dX3_rank_43 : decode cX3_rank 43 = .ok (.istore 6, 2) := by decide +kernel
theorem dX3_rank_45 : decode cX3_rank 45 = .ok (.iload 6, 2) := by decide +kernel
theorem dX3_rank_47 : decode cX3_rank 47 = .ok (.iload_n 2, 1) := by decide +kernel
theorem dX3_rank_48 : decode cX3_rank 48 = .ok (.if_icmp .ne 6, 3) := by decide +kernel
theorem dX3_rank_51 : decode cX3_rank 51 = .ok (.iload 5, 2) := by decide +kernel
theorem dX3_rank_53 : decode cX3_rank 53 = .ok (.ireturn, 1) := by decide +kernel
theorem dX3_rank_54 : decode cX3_rank 54 = .ok (.iload 6, 2) := by decide +kernel
theorem dX3_rank_56 : decode cX3_rank 56 = .ok (.iload_n 3, 1) := by decide +kernel
theorem dX3_rank_57 : decode cX3_rank 57 = .ok (.if_icmp .ne 8, 3) := by decide +kernel
theorem dX3_rank_60 : decode cX3_rank 60 = .ok (.iload 5, 2) := by decide +kernel
theorem dX3_rank_62 : decode cX3_rank 62 = .ok (.iconst 1, 1) := by decide +kernel
theorem dX3_rank_63 : decode cX3_rank 63 = .ok (.iadd, 1) := by decide +kernel
theorem dX3_rank_64 : decode cX3_rank 64 = .ok (.ireturn, 1) := by decide +kernel
theorem dX3_rank_65 : decode cX3_rank 65 = .ok (.iinc 5 1, 3) := by decide +kernel
theorem dX3_rank_68 : decode cX3_rank 68 = .ok (.goto (-46), 3) := by decide +kernel
theorem dX3_rank_71 : decode cX3_rank 71 = .ok (.iload_n 3, 1) := by decide +kernel
theorem dX3_rank_72 : decode cX3_rank 72 = .ok (.iconst (-1), 1) := by decide +kernel
theorem dX3_rank_73 : decode cX3_rank 73 = .ok (.if_icmp .eq 8, 3) := by decide +kernel
theorem dX3_rank_76 : decode cX3_rank 76 = .ok (.iload_n 3, 1) := by decide +kernel
theorem dX3_rank_77 : decode cX3_rank 77 = .ok (.iload_n 2, 1) := by decide +kernel
theorem dX3_rank_78 : decode cX3_rank 78 = .ok (.if_icmp .ne 8, 3) := by decide +kernel
theorem dX3_rank_81 : decode cX3_rank 81 = .ok (.iload 4, 2) := by decide +kernel
theorem dX3_rank_83 : decode cX3_rank 83 = .ok (.goto 7, 3) := by decide +kernel
theorem dX3_rank_86 : decode cX3_rank 86 = .ok (.iload 4, 2) := by decide +kernel
theorem dX3_rank_88 : decode cX3_rank 88 = .ok (.iconst 1, 1) := by decide +kernel
theorem dX3_rank_89 : decode cX3_rank 89 = .ok (.iadd, 1) := by decide +kernel
theorem dX3_rank_90 : decode cX3_rank 90 = .ok (.ireturn, 1) := by decide +kernel
theorem dX4_init_0 : decode cX4_init 0 = .ok (.aload_n 0, 1) := by decide +kernel
theorem dX4_init_1 : decode cX4_init 1 = .ok (.invokespecial 1, 3) := by decide +kernel
theorem dX4_init_4 : decode cX4_init 4 = .ok (.aload_n 0, 1) := by decide +kernel
theorem dX4_init_5 : decode cX4_init 5 = .ok (.new 7, 3) := by decide +kernel
theorem dX4_init_8 : decode cX4_init 8 = .ok (.dup, 1) := by decide +kernel
theorem dX4_init_9 : decode cX4_init 9 = .ok (.invokespecial 9, 3) := by decide +kernel
theorem dX4_init_12 : decode cX4_init 12 = .ok (.putfield 10, 3) := by decide +kernel
theorem dX4_init_15 : decode cX4_init 15 = .ok (.return_, 1) := by decide +kernel
theorem dX4_store_0 : decode cX4_store 0 = .ok (.aload_n 0, 1) := by decide +kernel
theorem dX4_store_1 : decode cX4_store 1 = .ok (.getfield 10, 3) := by decide +kernel
theorem dX4_store_4 : decode cX4_store 4 = .ok (.aload_n 1, 1) := by decide +kernel
theorem dX4_store_5 : decode cX4_store 5 = .ok (.invokevirtual 16, 3) := by decide +kernel
theorem dX4_store_8 : decode cX4_store 8 = .ok (.aload_n 0, 1) := by decide +kernel
theorem dX4_store_9 : decode cX4_store 9 = .ok (.iload_n 2, 1) := by decide +kernel
theorem dX4_store_10 : decode cX4_store 10 = .ok (.putfield 20, 3) := by decide +kernel
theorem dX4_store_13 : decode cX4_store 13 = .ok (.aload_n 0, 1) := by decide +kernel
theorem dX4_store_14 : decode cX4_store 14 = .ok (.iconst 1, 1) := by decide +kernel
theorem dX4_store_15 : decode cX4_store 15 = .ok (.putfield 24, 3) := by decide +kernel
theorem dX4_store_18 : decode cX4_store 18 = .ok (.return_, 1) := by decide +kernel
theorem dX4_drop_0 : decode cX4_drop 0 = .ok (.aload_n 0, 1) := by decide +kernel
theorem dX4_drop_1 : decode cX4_drop 1 = .ok (.iconst 0, 1) := by decide +kernel
theorem dX4_drop_2 : decode cX4_drop 2 = .ok (.putfield 24, 3) := by decide +kernel
theorem dX4_drop_5 : decode cX4_drop 5 = .ok (.return_, 1) := by decide +kernel
theorem dX5_init_0 : decode cX5_init 0 = .ok (.aload_n 0, 1) := by decide +kernel
theorem dX5_init_1 : decode cX5_init 1 = .ok (.invokespecial 3, 3) := by decide +kernel
theorem dX5_init_4 : decode cX5_init 4 = .ok (.aload_n 0, 1) := by decide +kernel
theorem dX5_init_5 : decode cX5_init 5 = .ok (.bipush 6, 2) := by decide +kernel
theorem dX5_init_7 : decode cX5_init 7 = .ok (.newarray .int, 2) := by decide +kernel
theorem dX5_init_9 : decode cX5_init 9 = .ok (.putfield 9, 3) := by decide +kernel
theorem dX5_init_12 : decode cX5_init 12 = .ok (.aload_n 0, 1) := by decide +kernel
theorem dX5_init_13 : decode cX5_init 13 = .ok (.bipush 6, 2) := by decide +kernel
theorem dX5_init_15 : decode cX5_init 15 = .ok (.newarray .int, 2) := by decide +kernel
theorem dX5_init_17 : decode cX5_init 17 = .ok (.putfield 15, 3) := by decide +kernel
theorem dX5_init_20 : decode cX5_init 20 = .ok (.aload_n 0, 1) := by decide +kernel
theorem dX5_init_21 : decode cX5_init 21 = .ok (.bipush 20, 2) := by decide +kernel
theorem dX5_init_23 : decode cX5_init 23 = .ok (.newarray .int, 2) := by decide +kernel
theorem dX5_init_25 : decode cX5_init 25 = .ok (.putfield 18, 3) := by decide +kernel
theorem dX5_init_28 : decode cX5_init 28 = .ok (.aload_n 0, 1) := by decide +kernel
theorem dX5_init_29 : decode cX5_init 29 = .ok (.bipush 20, 2) := by decide +kernel
theorem dX5_init_31 : decode cX5_init 31 = .ok (.newarray .int, 2) := by decide +kernel
theorem dX5_init_33 : decode cX5_init 33 = .ok (.putfield 21, 3) := by decide +kernel
theorem dX5_init_36 : decode cX5_init 36 = .ok (.return_, 1) := by decide +kernel
theorem dX5_clear_0 : decode cX5_clear 0 = .ok (.aload_n 0, 1) := by decide +kernel
theorem dX5_clear_1 : decode cX5_clear 1 = .ok (.iconst 0, 1) := by decide +kernel
theorem dX5_clear_2 : decode cX5_clear 2 = .ok (.putfield 24, 3) := by decide +kernel
theorem dX5_clear_5 : decode cX5_clear 5 = .ok (.aload_n 0, 1) := by decide +kernel
theorem dX5_clear_6 : decode cX5_clear 6 = .ok (.iconst 0, 1) := by decide +kernel
theorem dX5_clear_7 : decode cX5_clear 7 = .ok (.putfield 28, 3) := by decide +kernel
theorem dX5_clear_10 : decode cX5_clear 10 = .ok (.return_, 1) := by decide +kernel
theorem dX5_addSeen_0 : decode cX5_addSeen 0 = .ok (.aload_n 0, 1) := by decide +kernel
theorem dX5_addSeen_1 : decode cX5_addSeen 1 = .ok (.getfield 24, 3) := by decide +kernel
theorem dX5_addSeen_4 : decode cX5_addSeen 4 = .ok (.bipush 6, 2) := by decide +kernel
theorem dX5_addSeen_6 : decode cX5_addSeen 6 = .ok (.if_icmp .lt 6, 3) := by decide +kernel
theorem dX5_addSeen_9 : decode cX5_addSeen 9 = .ok (.ldc 31, 2) := by decide +kernel
theorem dX5_addSeen_11 : decode cX5_addSeen 11 = .ok (.ireturn, 1) := by decide +kernel
theorem dX5_addSeen_12 : decode cX5_addSeen 12 = .ok (.aload_n 0, 1) := by decide +kernel
theorem dX5_addSeen_13 : decode cX5_addSeen 13 = .ok (.getfield 9, 3) := by decide +kernel
theorem dX5_addSeen_16 : decode cX5_addSeen 16 = .ok (.aload_n 0, 1) := by decide +kernel
theorem dX5_addSeen_17 : decode cX5_addSeen 17 = .ok (.getfield 24, 3) := by decide +kernel
theorem dX5_addSeen_20 : decode cX5_addSeen 20 = .ok (.iload_n 1, 1) := by decide +kernel
theorem dX5_addSeen_21 : decode cX5_addSeen 21 = .ok (.invokestatic 32, 3) := by decide +kernel
theorem dX5_addSeen_24 : decode cX5_addSeen 24 = .ok (.aload_n 0, 1) := by decide +kernel
theorem dX5_addSeen_25 : decode cX5_addSeen 25 = .ok (.getfield 15, 3) := by decide +kernel
theorem dX5_addSeen_28 : decode cX5_addSeen 28 = .ok (.aload_n 0, 1) := by decide +kernel
theorem dX5_addSeen_29 : decode cX5_addSeen 29 = .ok (.getfield 24, 3) := by decide +kernel
theorem dX5_addSeen_32 : decode cX5_addSeen 32 = .ok (.iload_n 2, 1) := by decide +kernel
theorem dX5_addSeen_33 : decode cX5_addSeen 33 = .ok (.ifCond .eq 7, 3) := by decide +kernel
theorem dX5_addSeen_36 : decode cX5_addSeen 36 = .ok (.iconst 1, 1) := by decide +kernel
theorem dX5_addSeen_37 : decode cX5_addSeen 37 = .ok (.goto 4, 3) := by decide +kernel
theorem dX5_addSeen_40 : decode cX5_addSeen 40 = .ok (.iconst 0, 1) := by decide +kernel
theorem dX5_addSeen_41 : decode cX5_addSeen 41 = .ok (.invokestatic 32, 3) := by decide +kernel
theorem dX5_addSeen_44 : decode cX5_addSeen 44 = .ok (.aload_n 0, 1) := by decide +kernel
theorem dX5_addSeen_45 : decode cX5_addSeen 45 = .ok (.dup, 1) := by decide +kernel
theorem dX5_addSeen_46 : decode cX5_addSeen 46 = .ok (.getfield 24, 3) := by decide +kernel
theorem dX5_addSeen_49 : decode cX5_addSeen 49 = .ok (.iconst 1, 1) := by decide +kernel
theorem dX5_addSeen_50 : decode cX5_addSeen 50 = .ok (.iadd, 1) := by decide +kernel
theorem dX5_addSeen_51 : decode cX5_addSeen 51 = .ok (.putfield 24, 3) := by decide +kernel
theorem dX5_addSeen_54 : decode cX5_addSeen 54 = .ok (.aload_n 0, 1) := by decide +kernel
theorem dX5_addSeen_55 : decode cX5_addSeen 55 = .ok (.getfield 24, 3) := by decide +kernel
theorem dX5_addSeen_58 : decode cX5_addSeen 58 = .ok (.ireturn, 1) := by decide +kernel
theorem dX5_addEntry_0 : decode cX5_addEntry 0 = .ok (.aload_n 0, 1) := by decide +kernel
theorem dX5_addEntry_1 : decode cX5_addEntry 1 = .ok (.getfield 28, 3) := by decide +kernel
theorem dX5_addEntry_4 : decode cX5_addEntry 4 = .ok (.bipush 20, 2) := by decide +kernel
theorem dX5_addEntry_6 : decode cX5_addEntry 6 = .ok (.if_icmp .lt 6, 3) := by decide +kernel
theorem dX5_addEntry_9 : decode cX5_addEntry 9 = .ok (.ldc 31, 2) := by decide +kernel
theorem dX5_addEntry_11 : decode cX5_addEntry 11 = .ok (.ireturn, 1) := by decide +kernel
theorem dX5_addEntry_12 : decode cX5_addEntry 12 = .ok (.aload_n 0, 1) := by decide +kernel
theorem dX5_addEntry_13 : decode cX5_addEntry 13 = .ok (.getfield 18, 3) := by decide +kernel
theorem dX5_addEntry_16 : decode cX5_addEntry 16 = .ok (.aload_n 0, 1) := by decide +kernel
theorem dX5_addEntry_17 : decode cX5_addEntry 17 = .ok (.getfield 28, 3) := by decide +kernel
theorem dX5_addEntry_20 : decode cX5_addEntry 20 = .ok (.iload_n 1, 1) := by decide +kernel
theorem dX5_addEntry_21 : decode cX5_addEntry 21 = .ok (.invokestatic 32, 3) := by decide +kernel
theorem dX5_addEntry_24 : decode cX5_addEntry 24 = .ok (.aload_n 0, 1) := by decide +kernel
theorem dX5_addEntry_25 : decode cX5_addEntry 25 = .ok (.getfield 21, 3) := by decide +kernel
theorem dX5_addEntry_28 : decode cX5_addEntry 28 = .ok (.aload_n 0, 1) := by decide +kernel
theorem dX5_addEntry_29 : decode cX5_addEntry 29 = .ok (.getfield 28, 3) := by decide +kernel
theorem dX5_addEntry_32 : decode cX5_addEntry 32 = .ok (.iload_n 2, 1) := by decide +kernel
theorem dX5_addEntry_33 : decode cX5_addEntry 33 = .ok (.invokestatic 32, 3) := by decide +kernel
theorem dX5_addEntry_36 : decode cX5_addEntry 36 = .ok (.aload_n 0, 1) := by decide +kernel
theorem dX5_addEntry_37 : decode cX5_addEntry 37 = .ok (.dup, 1) := by decide +kernel
theorem dX5_addEntry_38 : decode cX5_addEntry 38 = .ok (.getfield 28, 3) := by decide +kernel
theorem dX5_addEntry_41 : decode cX5_addEntry 41 = .ok (.iconst 1, 1) := by decide +kernel
theorem dX5_addEntry_42 : decode cX5_addEntry 42 = .ok (.iadd, 1) := by decide +kernel
theorem dX5_addEntry_43 : decode cX5_addEntry 43 = .ok (.putfield 28, 3) := by decide +kernel
theorem dX5_addEntry_46 : decode cX5_addEntry 46 = .ok (.aload_n 0, 1) := by decide +kernel
theorem dX5_addEntry_47 : decode cX5_addEntry 47 = .ok (.getfield 28, 3) := by decide +kernel
theorem dX5_addEntry_50 : decode cX5_addEntry 50 = .ok (.ireturn, 1) := by decide +kernel
theorem dX5_fitting_0 : decode cX5_fitting 0 = .ok (.iconst 0, 1) := by decide +kernel
theorem dX5_fitting_1 : decode cX5_fitting 1 = .ok (.istore_n 3, 1) := by decide +kernel
theorem dX5_fitting_2 : decode cX5_fitting 2 = .ok (.iconst 0, 1) := by decide +kernel
theorem dX5_fitting_3 : decode cX5_fitting 3 = .ok (.istore 4, 2) := by decide +kernel
theorem dX5_fitting_5 : decode cX5_fitting 5 = .ok (.iload 4, 2) := by decide +kernel
theorem dX5_fitting_7 : decode cX5_fitting 7 = .ok (.iload_n 2, 1) := by decide +kernel
theorem dX5_fitting_8 : decode cX5_fitting 8 = .ok (.if_icmp .ge 29, 3) := by decide +kernel
theorem dX5_fitting_11 : decode cX5_fitting 11 = .ok (.aload_n 0, 1) := by decide +kernel
theorem dX5_fitting_12 : decode cX5_fitting 12 = .ok (.aload_n 1, 1) := by decide +kernel
theorem dX5_fitting_13 : decode cX5_fitting 13 = .ok (.iload 4, 2) := by decide +kernel
theorem dX5_fitting_15 : decode cX5_fitting 15 = .ok (.invokevirtual 36, 3) := by decide +kernel
theorem dX5_fitting_18 : decode cX5_fitting 18 = .ok (.invokevirtual 42, 3) := by decide +kernel
theorem dX5_fitting_21 : decode cX5_fitting 21 = .ok (.ifCond .eq 10, 3) := by decide +kernel
theorem dX5_fitting_24 : decode cX5_fitting 24 = .ok (.iload_n 3, 1) := by decide +kernel
theorem dX5_fitting_25 : decode cX5_fitting 25 = .ok (.iload 4, 2) := by decide +kernel
theorem dX5_fitting_27 : decode cX5_fitting 27 = .ok (.invokestatic 46, 3) := by decide +kernel
theorem dX5_fitting_30 : decode cX5_fitting 30 = .ok (.istore_n 3, 1) := by decide +kernel
theorem dX5_fitting_31 : decode cX5_fitting 31 = .ok (.iinc 4 1, 3) := by decide +kernel
theorem dX5_fitting_34 : decode cX5_fitting 34 = .ok (.goto (-29), 3) := by decide +kernel
theorem dX5_fitting_37 : decode cX5_fitting 37 = .ok (.iload_n 3, 1) := by decide +kernel
theorem dX5_fitting_38 : decode cX5_fitting 38 = .ok (.ireturn, 1) := by decide +kernel
theorem dX5_fits_0 : decode cX5_fits 0 = .ok (.iconst 0, 1) := by decide +kernel
theorem dX5_fits_1 : decode cX5_fits 1 = .ok (.istore_n 2, 1) := by decide +kernel
theorem dX5_fits_2 : decode cX5_fits 2 = .ok (.iload_n 2, 1) := by decide +kernel
theorem dX5_fits_3 : decode cX5_fits 3 = .ok (.aload_n 0, 1) := by decide +kernel
theorem dX5_fits_4 : decode cX5_fits 4 = .ok (.getfield 24, 3) := by decide +kernel
theorem dX5_fits_7 : decode cX5_fits 7 = .ok (.if_icmp .ge 50, 3) := by decide +kernel
theorem dX5_fits_10 : decode cX5_fits 10 = .ok (.aload_n 0, 1) := by decide +kernel
theorem dX5_fits_11 : decode cX5_fits 11 = .ok (.getfield 9, 3) := by decide +kernel
theorem dX5_fits_14 : decode cX5_fits 14 = .ok (.iload_n 2, 1) := by decide +kernel
theorem dX5_fits_15 : decode cX5_fits 15 = .ok (.invokestatic 50, 3) := by decide +kernel
theorem dX5_fits_18 : decode cX5_fits 18 = .ok (.iload_n 1, 1) := by decide +kernel
theorem dX5_fits_19 : decode cX5_fits 19 = .ok (.if_icmp .ne 7, 3) := by decide +kernel
theorem dX5_fits_22 : decode cX5_fits 22 = .ok (.iconst 1, 1) := by decide +kernel
theorem dX5_fits_23 : decode cX5_fits 23 = .ok (.goto 4, 3) := by decide +kernel
theorem dX5_fits_26 : decode cX5_fits 26 = .ok (.iconst 0, 1) := by decide +kernel
theorem dX5_fits_27 : decode cX5_fits 27 = .ok (.istore_n 3, 1) := by decide +kernel
theorem dX5_fits_28 : decode cX5_fits 28 = .ok (.iload_n 3, 1) := by decide +kernel
theorem dX5_fits_29 : decode cX5_fits 29 = .ok (.aload_n 0, 1) := by decide +kernel
theorem dX5_fits_30 : decode cX5_fits 30 = .ok (.getfield 15, 3) := by decide +kernel
theorem dX5_fits_33 : decode cX5_fits 33 = .ok (.iload_n 2, 1) := by decide +kernel
theorem dX5_fits_34 : decode cX5_fits 34 = .ok (.invokestatic 50, 3) := by decide +kernel
theorem dX5_fits_37 : decode cX5_fits 37 = .ok (.iconst 1, 1) := by decide +kernel
theorem dX5_fits_38 : decode cX5_fits 38 = .ok (.if_icmp .ne 7, 3) := by decide +kernel
theorem dX5_fits_41 : decode cX5_fits 41 = .ok (.iconst 1, 1) := by decide +kernel
theorem dX5_fits_42 : decode cX5_fits 42 = .ok (.goto 4, 3) := by decide +kernel
theorem dX5_fits_45 : decode cX5_fits 45 = .ok (.iconst 0, 1) := by decide +kernel
theorem dX5_fits_46 : decode cX5_fits 46 = .ok (.if_icmp .eq 5, 3) := by decide +kernel
theorem dX5_fits_49 : decode cX5_fits 49 = .ok (.iconst 0, 1) := by decide +kernel
theorem dX5_fits_50 : decode cX5_fits 50 = .ok (.ireturn, 1) := by decide +kernel
theorem dX5_fits_51 : decode cX5_fits 51 = .ok (.iinc 2 1, 3) := by decide +kernel
theorem dX5_fits_54 : decode cX5_fits 54 = .ok (.goto (-52), 3) := by decide +kernel
theorem dX5_fits_57 : decode cX5_fits 57 = .ok (.iconst 1, 1) := by decide +kernel
theorem dX5_fits_58 : decode cX5_fits 58 = .ok (.ireturn, 1) := by decide +kernel
theorem dX5_firstWrong_0 : decode cX5_firstWrong 0 = .ok (.iconst 0, 1) := by decide +kernel
theorem dX5_firstWrong_1 : decode cX5_firstWrong 1 = .ok (.istore_n 2, 1) := by decide +kernel
theorem dX5_firstWrong_2 : decode cX5_firstWrong 2 = .ok (.iload_n 2, 1) := by decide +kernel
theorem dX5_firstWrong_3 : decode cX5_firstWrong 3 = .ok (.aload_n 0, 1) := by decide +kernel
theorem dX5_firstWrong_4 : decode cX5_firstWrong 4 = .ok (.getfield 28, 3) := by decide +kernel
theorem dX5_firstWrong_7 : decode cX5_firstWrong 7 = .ok (.if_icmp .ge 34, 3) := by decide +kernel
theorem dX5_firstWrong_10 : decode cX5_firstWrong 10 = .ok (.aload_n 1, 1) := by decide +kernel
theorem dX5_firstWrong_11 : decode cX5_firstWrong 11 = .ok (.aload_n 0, 1) := by decide +kernel
theorem dX5_firstWrong_12 : decode cX5_firstWrong 12 = .ok (.getfield 18, 3) := by decide +kernel
theorem dX5_firstWrong_15 : decode cX5_firstWrong 15 = .ok (.iload_n 2, 1) := by decide +kernel
theorem dX5_firstWrong_16 : decode cX5_firstWrong 16 = .ok (.invokestatic 50, 3) := by decide +kernel
theorem dX5_firstWrong_19 : decode cX5_firstWrong 19 = .ok (.invokevirtual 36, 3) := by decide +kernel
theorem dX5_firstWrong_22 : decode cX5_firstWrong 22 = .ok (.aload_n 0, 1) := by decide +kernel
theorem dX5_firstWrong_23 : decode cX5_firstWrong 23 = .ok (.getfield 21, 3) := by decide +kernel
theorem dX5_firstWrong_26 : decode cX5_firstWrong 26 = .ok (.iload_n 2, 1) := by decide +kernel
theorem dX5_firstWrong_27 : decode cX5_firstWrong 27 = .ok (.invokestatic 50, 3) := by decide +kernel
theorem dX5_firstWrong_30 : decode cX5_firstWrong 30 = .ok (.if_icmp .eq 5, 3) := by decide +kernel
theorem dX5_firstWrong_33 : decode cX5_firstWrong 33 = .ok (.iload_n 2, 1) := by decide +kernel
theorem dX5_firstWrong_34 : decode cX5_firstWrong 34 = .ok (.ireturn, 1) := by decide +kernel
theorem dX5_firstWrong_35 : decode cX5_firstWrong 35 = .ok (.iinc 2 1, 3) := by decide +kernel
theorem dX5_firstWrong_38 : decode cX5_firstWrong 38 = .ok (.goto (-36), 3) := by decide +kernel
theorem dX5_firstWrong_41 : decode cX5_firstWrong 41 = .ok (.iconst (-1), 1) := by decide +kernel
theorem dX5_firstWrong_42 : decode cX5_firstWrong 42 = .ok (.ireturn, 1) := by decide +kernel
theorem dX6_init_0 : decode cX6_init 0 = .ok (.aload_n 0, 1) := by decide +kernel
theorem dX6_init_1 : decode cX6_init 1 = .ok (.invokespecial 3, 3) := by decide +kernel
theorem dX6_init_4 : decode cX6_init 4 = .ok (.aload_n 0, 1) := by decide +kernel
theorem dX6_init_5 : decode cX6_init 5 = .ok (.bipush 20, 2) := by decide +kernel
theorem dX6_init_7 : decode cX6_init 7 = .ok (.anewarray 9, 3) := by decide +kernel
theorem dX6_init_10 : decode cX6_init 10 = .ok (.putfield 11, 3) := by decide +kernel
theorem dX6_init_13 : decode cX6_init 13 = .ok (.iconst 0, 1) := by decide +kernel
theorem dX6_init_14 : decode cX6_init 14 = .ok (.istore_n 1, 1) := by decide +kernel
theorem dX6_init_15 : decode cX6_init 15 = .ok (.iload_n 1, 1) := by decide +kernel
theorem dX6_init_16 : decode cX6_init 16 = .ok (.aload_n 0, 1) := by decide +kernel
theorem dX6_init_17 : decode cX6_init 17 = .ok (.getfield 11, 3) := by decide +kernel
theorem dX6_init_20 : decode cX6_init 20 = .ok (.arraylength, 1) := by decide +kernel
theorem dX6_init_21 : decode cX6_init 21 = .ok (.if_icmp .ge 22, 3) := by decide +kernel
theorem dX6_init_24 : decode cX6_init 24 = .ok (.aload_n 0, 1) := by decide +kernel
theorem dX6_init_25 : decode cX6_init 25 = .ok (.getfield 11, 3) := by decide +kernel
theorem dX6_init_28 : decode cX6_init 28 = .ok (.iload_n 1, 1) := by decide +kernel
theorem dX6_init_29 : decode cX6_init 29 = .ok (.new 9, 3) := by decide +kernel
theorem dX6_init_32 : decode cX6_init 32 = .ok (.dup, 1) := by decide +kernel
theorem dX6_init_33 : decode cX6_init 33 = .ok (.invokespecial 17, 3) := by decide +kernel
theorem dX6_init_36 : decode cX6_init 36 = .ok (.aastore, 1) := by decide +kernel
theorem dX6_init_37 : decode cX6_init 37 = .ok (.iinc 1 1, 3) := by decide +kernel
theorem dX6_init_40 : decode cX6_init 40 = .ok (.goto (-25), 3) := by decide +kernel
theorem dX6_init_43 : decode cX6_init 43 = .ok (.return_, 1) := by decide +kernel
theorem dX6_forget_0 : decode cX6_forget 0 = .ok (.aload_n 0, 1) := by decide +kernel
theorem dX6_forget_1 : decode cX6_forget 1 = .ok (.iconst 0, 1) := by decide +kernel
theorem dX6_forget_2 : decode cX6_forget 2 = .ok (.putfield 18, 3) := by decide +kernel
theorem dX6_forget_5 : decode cX6_forget 5 = .ok (.return_, 1) := by decide +kernel
theorem dX6_push_0 : decode cX6_push 0 = .ok (.aload_n 0, 1) := by decide +kernel
theorem dX6_push_1 : decode cX6_push 1 = .ok (.getfield 18, 3) := by decide +kernel
theorem dX6_push_4 : decode cX6_push 4 = .ok (.aload_n 0, 1) := by decide +kernel
theorem dX6_push_5 : decode cX6_push 5 = .ok (.getfield 11, 3) := by decide +kernel
theorem dX6_push_8 : decode cX6_push 8 = .ok (.arraylength, 1) := by decide +kernel
theorem dX6_push_9 : decode cX6_push 9 = .ok (.if_icmp .lt 7, 3) := by decide +kernel
theorem dX6_push_12 : decode cX6_push 12 = .ok (.aload_n 0, 1) := by decide +kernel
theorem dX6_push_13 : decode cX6_push 13 = .ok (.invokevirtual 22, 3) := by decide +kernel
theorem dX6_push_16 : decode cX6_push 16 = .ok (.aload_n 0, 1) := by decide +kernel
theorem dX6_push_17 : decode cX6_push 17 = .ok (.getfield 18, 3) := by decide +kernel
theorem dX6_push_20 : decode cX6_push 20 = .ok (.ifCond .lt 27, 3) := by decide +kernel
theorem dX6_push_23 : decode cX6_push 23 = .ok (.aload_n 0, 1) := by decide +kernel
theorem dX6_push_24 : decode cX6_push 24 = .ok (.getfield 18, 3) := by decide +kernel
theorem dX6_push_27 : decode cX6_push 27 = .ok (.aload_n 0, 1) := by decide +kernel
theorem dX6_push_28 : decode cX6_push 28 = .ok (.getfield 11, 3) := by decide +kernel
theorem dX6_push_31 : decode cX6_push 31 = .ok (.arraylength, 1) := by decide +kernel
theorem dX6_push_32 : decode cX6_push 32 = .ok (.if_icmp .ge 15, 3) := by decide +kernel
theorem dX6_push_35 : decode cX6_push 35 = .ok (.aload_n 0, 1) := by decide +kernel
theorem dX6_push_36 : decode cX6_push 36 = .ok (.getfield 11, 3) := by decide +kernel
theorem dX6_push_39 : decode cX6_push 39 = .ok (.aload_n 0, 1) := by decide +kernel
theorem dX6_push_40 : decode cX6_push 40 = .ok (.getfield 18, 3) := by decide +kernel
theorem dX6_push_43 : decode cX6_push 43 = .ok (.aaload, 1) := by decide +kernel
theorem dX6_push_44 : decode cX6_push 44 = .ok (.goto 4, 3) := by decide +kernel
theorem dX6_push_47 : decode cX6_push 47 = .ok (.aconst_null, 1) := by decide +kernel
theorem dX6_push_48 : decode cX6_push 48 = .ok (.astore_n 2, 1) := by decide +kernel
theorem dX6_push_49 : decode cX6_push 49 = .ok (.aload_n 2, 1) := by decide +kernel
end
section
theorem dX6_push_50 : decode cX6_push 50 = .ok (.ifnull 18, 3) := by decide +kernel
theorem dX6_push_53 : decode cX6_push 53 = .ok (.aload_n 2, 1) := by decide +kernel
theorem dX6_push_54 : decode cX6_push 54 = .ok (.aload_n 1, 1) := by decide +kernel
theorem dX6_push_55 : decode cX6_push 55 = .ok (.invokevirtual 25, 3) := by decide +kernel
theorem dX6_push_58 : decode cX6_push 58 = .ok (.aload_n 0, 1) := by decide +kernel
theorem dX6_push_59 : decode cX6_push 59 = .ok (.dup, 1) := by decide +kernel
theorem dX6_push_60 : decode cX6_push 60 = .ok (.getfield 18, 3) := by decide +kernel
theorem dX6_push_63 : decode cX6_push 63 = .ok (.iconst 1, 1) := by decide +kernel
theorem dX6_push_64 : decode cX6_push 64 = .ok (.iadd, 1) := by decide +kernel
theorem dX6_push_65 : decode cX6_push 65 = .ok (.putfield 18, 3) := by decide +kernel
theorem dX6_push_68 : decode cX6_push 68 = .ok (.return_, 1) := by decide +kernel
theorem dX6_pop_0 : decode cX6_pop 0 = .ok (.aload_n 0, 1) := by decide +kernel
theorem dX6_pop_1 : decode cX6_pop 1 = .ok (.getfield 18, 3) := by decide +kernel
theorem dX6_pop_4 : decode cX6_pop 4 = .ok (.iload_n 1, 1) := by decide +kernel
theorem dX6_pop_5 : decode cX6_pop 5 = .ok (.isub, 1) := by decide +kernel
theorem dX6_pop_6 : decode cX6_pop 6 = .ok (.istore_n 3, 1) := by decide +kernel
theorem dX6_pop_7 : decode cX6_pop 7 = .ok (.iload_n 3, 1) := by decide +kernel
theorem dX6_pop_8 : decode cX6_pop 8 = .ok (.ifCond .lt 21, 3) := by decide +kernel
theorem dX6_pop_11 : decode cX6_pop 11 = .ok (.iload_n 3, 1) := by decide +kernel
theorem dX6_pop_12 : decode cX6_pop 12 = .ok (.aload_n 0, 1) := by decide +kernel
theorem dX6_pop_13 : decode cX6_pop 13 = .ok (.getfield 11, 3) := by decide +kernel
theorem dX6_pop_16 : decode cX6_pop 16 = .ok (.arraylength, 1) := by decide +kernel
theorem dX6_pop_17 : decode cX6_pop 17 = .ok (.if_icmp .ge 12, 3) := by decide +kernel
theorem dX6_pop_20 : decode cX6_pop 20 = .ok (.aload_n 0, 1) := by decide +kernel
theorem dX6_pop_21 : decode cX6_pop 21 = .ok (.getfield 11, 3) := by decide +kernel
theorem dX6_pop_24 : decode cX6_pop 24 = .ok (.iload_n 3, 1) := by decide +kernel
theorem dX6_pop_25 : decode cX6_pop 25 = .ok (.aaload, 1) := by decide +kernel
theorem dX6_pop_26 : decode cX6_pop 26 = .ok (.goto 4, 3) := by decide +kernel
theorem dX6_pop_29 : decode cX6_pop 29 = .ok (.aconst_null, 1) := by decide +kernel
theorem dX6_pop_30 : decode cX6_pop 30 = .ok (.astore 4, 2) := by decide +kernel
theorem dX6_pop_32 : decode cX6_pop 32 = .ok (.aload 4, 2) := by decide +kernel
theorem dX6_pop_34 : decode cX6_pop 34 = .ok (.ifnull 14, 3) := by decide +kernel
theorem dX6_pop_37 : decode cX6_pop 37 = .ok (.aload_n 2, 1) := by decide +kernel
theorem dX6_pop_38 : decode cX6_pop 38 = .ok (.aload 4, 2) := by decide +kernel
theorem dX6_pop_40 : decode cX6_pop 40 = .ok (.invokevirtual 25, 3) := by decide +kernel
theorem dX6_pop_43 : decode cX6_pop 43 = .ok (.aload_n 0, 1) := by decide +kernel
theorem dX6_pop_44 : decode cX6_pop 44 = .ok (.iload_n 3, 1) := by decide +kernel
theorem dX6_pop_45 : decode cX6_pop 45 = .ok (.putfield 18, 3) := by decide +kernel
theorem dX6_pop_48 : decode cX6_pop 48 = .ok (.return_, 1) := by decide +kernel
theorem dX6_dropOldest_0 : decode cX6_dropOldest 0 = .ok (.aload_n 0, 1) := by decide +kernel
theorem dX6_dropOldest_1 : decode cX6_dropOldest 1 = .ok (.getfield 11, 3) := by decide +kernel
theorem dX6_dropOldest_4 : decode cX6_dropOldest 4 = .ok (.iconst 0, 1) := by decide +kernel
theorem dX6_dropOldest_5 : decode cX6_dropOldest 5 = .ok (.aaload, 1) := by decide +kernel
theorem dX6_dropOldest_6 : decode cX6_dropOldest 6 = .ok (.astore_n 1, 1) := by decide +kernel
theorem dX6_dropOldest_7 : decode cX6_dropOldest 7 = .ok (.aload_n 0, 1) := by decide +kernel
theorem dX6_dropOldest_8 : decode cX6_dropOldest 8 = .ok (.getfield 11, 3) := by decide +kernel
theorem dX6_dropOldest_11 : decode cX6_dropOldest 11 = .ok (.arraylength, 1) := by decide +kernel
theorem dX6_dropOldest_12 : decode cX6_dropOldest 12 = .ok (.iconst 1, 1) := by decide +kernel
theorem dX6_dropOldest_13 : decode cX6_dropOldest 13 = .ok (.isub, 1) := by decide +kernel
theorem dX6_dropOldest_14 : decode cX6_dropOldest 14 = .ok (.istore_n 2, 1) := by decide +kernel
theorem dX6_dropOldest_15 : decode cX6_dropOldest 15 = .ok (.iconst 0, 1) := by decide +kernel
theorem dX6_dropOldest_16 : decode cX6_dropOldest 16 = .ok (.istore_n 3, 1) := by decide +kernel
theorem dX6_dropOldest_17 : decode cX6_dropOldest 17 = .ok (.iload_n 3, 1) := by decide +kernel
theorem dX6_dropOldest_18 : decode cX6_dropOldest 18 = .ok (.iload_n 2, 1) := by decide +kernel
theorem dX6_dropOldest_19 : decode cX6_dropOldest 19 = .ok (.if_icmp .ge 23, 3) := by decide +kernel
theorem dX6_dropOldest_22 : decode cX6_dropOldest 22 = .ok (.aload_n 0, 1) := by decide +kernel
theorem dX6_dropOldest_23 : decode cX6_dropOldest 23 = .ok (.getfield 11, 3) := by decide +kernel
theorem dX6_dropOldest_26 : decode cX6_dropOldest 26 = .ok (.iload_n 3, 1) := by decide +kernel
theorem dX6_dropOldest_27 : decode cX6_dropOldest 27 = .ok (.aload_n 0, 1) := by decide +kernel
theorem dX6_dropOldest_28 : decode cX6_dropOldest 28 = .ok (.getfield 11, 3) := by decide +kernel
theorem dX6_dropOldest_31 : decode cX6_dropOldest 31 = .ok (.iload_n 3, 1) := by decide +kernel
theorem dX6_dropOldest_32 : decode cX6_dropOldest 32 = .ok (.iconst 1, 1) := by decide +kernel
theorem dX6_dropOldest_33 : decode cX6_dropOldest 33 = .ok (.iadd, 1) := by decide +kernel
theorem dX6_dropOldest_34 : decode cX6_dropOldest 34 = .ok (.aaload, 1) := by decide +kernel
theorem dX6_dropOldest_35 : decode cX6_dropOldest 35 = .ok (.aastore, 1) := by decide +kernel
theorem dX6_dropOldest_36 : decode cX6_dropOldest 36 = .ok (.iinc 3 1, 3) := by decide +kernel
theorem dX6_dropOldest_39 : decode cX6_dropOldest 39 = .ok (.goto (-22), 3) := by decide +kernel
theorem dX6_dropOldest_42 : decode cX6_dropOldest 42 = .ok (.aload_n 0, 1) := by decide +kernel
theorem dX6_dropOldest_43 : decode cX6_dropOldest 43 = .ok (.getfield 11, 3) := by decide +kernel
theorem dX6_dropOldest_46 : decode cX6_dropOldest 46 = .ok (.iload_n 2, 1) := by decide +kernel
theorem dX6_dropOldest_47 : decode cX6_dropOldest 47 = .ok (.aload_n 1, 1) := by decide +kernel
theorem dX6_dropOldest_48 : decode cX6_dropOldest 48 = .ok (.aastore, 1) := by decide +kernel
theorem dX6_dropOldest_49 : decode cX6_dropOldest 49 = .ok (.aload_n 0, 1) := by decide +kernel
theorem dX6_dropOldest_50 : decode cX6_dropOldest 50 = .ok (.iload_n 2, 1) := by decide +kernel
theorem dX6_dropOldest_51 : decode cX6_dropOldest 51 = .ok (.putfield 18, 3) := by decide +kernel
theorem dX6_dropOldest_54 : decode cX6_dropOldest 54 = .ok (.return_, 1) := by decide +kernel
theorem dX7_init_0 : decode cX7_init 0 = .ok (.aload_n 0, 1) := by decide +kernel
theorem dX7_init_1 : decode cX7_init 1 = .ok (.invokespecial 3, 3) := by decide +kernel
theorem dX7_init_4 : decode cX7_init 4 = .ok (.aload_n 0, 1) := by decide +kernel
theorem dX7_init_5 : decode cX7_init 5 = .ok (.iconst (-1), 1) := by decide +kernel
theorem dX7_init_6 : decode cX7_init 6 = .ok (.putfield 9, 3) := by decide +kernel
theorem dX7_init_9 : decode cX7_init 9 = .ok (.aload_n 0, 1) := by decide +kernel
theorem dX7_init_10 : decode cX7_init 10 = .ok (.sipush 240, 3) := by decide +kernel
theorem dX7_init_13 : decode cX7_init 13 = .ok (.newarray .int, 2) := by decide +kernel
theorem dX7_init_15 : decode cX7_init 15 = .ok (.putfield 15, 3) := by decide +kernel
theorem dX7_init_18 : decode cX7_init 18 = .ok (.return_, 1) := by decide +kernel
theorem dX7_add_0 : decode cX7_add 0 = .ok (.aload_n 0, 1) := by decide +kernel
theorem dX7_add_1 : decode cX7_add 1 = .ok (.getfield 19, 3) := by decide +kernel
theorem dX7_add_4 : decode cX7_add 4 = .ok (.sipush 240, 3) := by decide +kernel
theorem dX7_add_7 : decode cX7_add 7 = .ok (.if_icmp .lt 6, 3) := by decide +kernel
theorem dX7_add_10 : decode cX7_add 10 = .ok (.ldc 22, 2) := by decide +kernel
theorem dX7_add_12 : decode cX7_add 12 = .ok (.ireturn, 1) := by decide +kernel
theorem dX7_add_13 : decode cX7_add 13 = .ok (.aload_n 0, 1) := by decide +kernel
theorem dX7_add_14 : decode cX7_add 14 = .ok (.getfield 15, 3) := by decide +kernel
theorem dX7_add_17 : decode cX7_add 17 = .ok (.aload_n 0, 1) := by decide +kernel
theorem dX7_add_18 : decode cX7_add 18 = .ok (.getfield 19, 3) := by decide +kernel
theorem dX7_add_21 : decode cX7_add 21 = .ok (.iload_n 1, 1) := by decide +kernel
theorem dX7_add_22 : decode cX7_add 22 = .ok (.invokestatic 23, 3) := by decide +kernel
theorem dX7_add_25 : decode cX7_add 25 = .ok (.aload_n 0, 1) := by decide +kernel
theorem dX7_add_26 : decode cX7_add 26 = .ok (.dup, 1) := by decide +kernel
theorem dX7_add_27 : decode cX7_add 27 = .ok (.getfield 19, 3) := by decide +kernel
theorem dX7_add_30 : decode cX7_add 30 = .ok (.iconst 1, 1) := by decide +kernel
theorem dX7_add_31 : decode cX7_add 31 = .ok (.iadd, 1) := by decide +kernel
theorem dX7_add_32 : decode cX7_add 32 = .ok (.putfield 19, 3) := by decide +kernel
theorem dX7_add_35 : decode cX7_add 35 = .ok (.aload_n 0, 1) := by decide +kernel
theorem dX7_add_36 : decode cX7_add 36 = .ok (.getfield 19, 3) := by decide +kernel
theorem dX7_add_39 : decode cX7_add 39 = .ok (.ireturn, 1) := by decide +kernel
theorem dX7_readInto_0 : decode cX7_readInto 0 = .ok (.aload_n 1, 1) := by decide +kernel
theorem dX7_readInto_1 : decode cX7_readInto 1 = .ok (.invokevirtual 27, 3) := by decide +kernel
theorem dX7_readInto_4 : decode cX7_readInto 4 = .ok (.aload_n 0, 1) := by decide +kernel
theorem dX7_readInto_5 : decode cX7_readInto 5 = .ok (.iconst 0, 1) := by decide +kernel
theorem dX7_readInto_6 : decode cX7_readInto 6 = .ok (.putfield 32, 3) := by decide +kernel
theorem dX7_readInto_9 : decode cX7_readInto 9 = .ok (.aload_n 0, 1) := by decide +kernel
theorem dX7_readInto_10 : decode cX7_readInto 10 = .ok (.iconst 0, 1) := by decide +kernel
theorem dX7_readInto_11 : decode cX7_readInto 11 = .ok (.putfield 35, 3) := by decide +kernel
theorem dX7_readInto_14 : decode cX7_readInto 14 = .ok (.aload_n 0, 1) := by decide +kernel
theorem dX7_readInto_15 : decode cX7_readInto 15 = .ok (.iconst (-1), 1) := by decide +kernel
theorem dX7_readInto_16 : decode cX7_readInto 16 = .ok (.putfield 9, 3) := by decide +kernel
theorem dX7_readInto_19 : decode cX7_readInto 19 = .ok (.aload_n 0, 1) := by decide +kernel
theorem dX7_readInto_20 : decode cX7_readInto 20 = .ok (.invokevirtual 38, 3) := by decide +kernel
theorem dX7_readInto_23 : decode cX7_readInto 23 = .ok (.iconst (-1), 1) := by decide +kernel
theorem dX7_readInto_24 : decode cX7_readInto 24 = .ok (.if_icmp .eq 43, 3) := by decide +kernel
theorem dX7_readInto_27 : decode cX7_readInto 27 = .ok (.aload_n 0, 1) := by decide +kernel
theorem dX7_readInto_28 : decode cX7_readInto 28 = .ok (.aload_n 1, 1) := by decide +kernel
theorem dX7_readInto_29 : decode cX7_readInto 29 = .ok (.invokevirtual 42, 3) := by decide +kernel
theorem dX7_readInto_32 : decode cX7_readInto 32 = .ok (.iconst 0, 1) := by decide +kernel
theorem dX7_readInto_33 : decode cX7_readInto 33 = .ok (.istore_n 2, 1) := by decide +kernel
theorem dX7_readInto_34 : decode cX7_readInto 34 = .ok (.iload_n 2, 1) := by decide +kernel
theorem dX7_readInto_35 : decode cX7_readInto 35 = .ok (.sipush 240, 3) := by decide +kernel
theorem dX7_readInto_38 : decode cX7_readInto 38 = .ok (.if_icmp .ge 29, 3) := by decide +kernel
theorem dX7_readInto_41 : decode cX7_readInto 41 = .ok (.aload_n 0, 1) := by decide +kernel
theorem dX7_readInto_42 : decode cX7_readInto 42 = .ok (.getfield 35, 3) := by decide +kernel
theorem dX7_readInto_45 : decode cX7_readInto 45 = .ok (.ifCond .ne 22, 3) := by decide +kernel
theorem dX7_readInto_48 : decode cX7_readInto 48 = .ok (.aload_n 0, 1) := by decide +kernel
theorem dX7_readInto_49 : decode cX7_readInto 49 = .ok (.invokevirtual 38, 3) := by decide +kernel
theorem dX7_readInto_52 : decode cX7_readInto 52 = .ok (.iconst (-1), 1) := by decide +kernel
theorem dX7_readInto_53 : decode cX7_readInto 53 = .ok (.if_icmp .eq 14, 3) := by decide +kernel
theorem dX7_readInto_56 : decode cX7_readInto 56 = .ok (.aload_n 0, 1) := by decide +kernel
theorem dX7_readInto_57 : decode cX7_readInto 57 = .ok (.aload_n 1, 1) := by decide +kernel
theorem dX7_readInto_58 : decode cX7_readInto 58 = .ok (.invokevirtual 46, 3) := by decide +kernel
theorem dX7_readInto_61 : decode cX7_readInto 61 = .ok (.iinc 2 1, 3) := by decide +kernel
theorem dX7_readInto_64 : decode cX7_readInto 64 = .ok (.goto (-30), 3) := by decide +kernel
theorem dX7_readInto_67 : decode cX7_readInto 67 = .ok (.aload_n 0, 1) := by decide +kernel
theorem dX7_readInto_68 : decode cX7_readInto 68 = .ok (.iconst 0, 1) := by decide +kernel
theorem dX7_readInto_69 : decode cX7_readInto 69 = .ok (.putfield 19, 3) := by decide +kernel
theorem dX7_readInto_72 : decode cX7_readInto 72 = .ok (.aload_n 0, 1) := by decide +kernel
theorem dX7_readInto_73 : decode cX7_readInto 73 = .ok (.getfield 35, 3) := by decide +kernel
theorem dX7_readInto_76 : decode cX7_readInto 76 = .ok (.ireturn, 1) := by decide +kernel
theorem dX7_fail_0 : decode cX7_fail 0 = .ok (.aload_n 0, 1) := by decide +kernel
theorem dX7_fail_1 : decode cX7_fail 1 = .ok (.getfield 35, 3) := by decide +kernel
theorem dX7_fail_4 : decode cX7_fail 4 = .ok (.ifCond .ne 13, 3) := by decide +kernel
theorem dX7_fail_7 : decode cX7_fail 7 = .ok (.aload_n 0, 1) := by decide +kernel
theorem dX7_fail_8 : decode cX7_fail 8 = .ok (.iload_n 1, 1) := by decide +kernel
theorem dX7_fail_9 : decode cX7_fail 9 = .ok (.putfield 35, 3) := by decide +kernel
theorem dX7_fail_12 : decode cX7_fail 12 = .ok (.aload_n 0, 1) := by decide +kernel
theorem dX7_fail_13 : decode cX7_fail 13 = .ok (.iload_n 2, 1) := by decide +kernel
theorem dX7_fail_14 : decode cX7_fail 14 = .ok (.putfield 9, 3) := by decide +kernel
theorem dX7_fail_17 : decode cX7_fail 17 = .ok (.return_, 1) := by decide +kernel
theorem dX7_peek_0 : decode cX7_peek 0 = .ok (.aload_n 0, 1) := by decide +kernel
theorem dX7_peek_1 : decode cX7_peek 1 = .ok (.getfield 32, 3) := by decide +kernel
theorem dX7_peek_4 : decode cX7_peek 4 = .ok (.ifCond .lt 63, 3) := by decide +kernel
theorem dX7_peek_7 : decode cX7_peek 7 = .ok (.aload_n 0, 1) := by decide +kernel
theorem dX7_peek_8 : decode cX7_peek 8 = .ok (.getfield 32, 3) := by decide +kernel
theorem dX7_peek_11 : decode cX7_peek 11 = .ok (.aload_n 0, 1) := by decide +kernel
theorem dX7_peek_12 : decode cX7_peek 12 = .ok (.getfield 19, 3) := by decide +kernel
theorem dX7_peek_15 : decode cX7_peek 15 = .ok (.if_icmp .ge 52, 3) := by decide +kernel
theorem dX7_peek_18 : decode cX7_peek 18 = .ok (.aload_n 0, 1) := by decide +kernel
theorem dX7_peek_19 : decode cX7_peek 19 = .ok (.getfield 32, 3) := by decide +kernel
theorem dX7_peek_22 : decode cX7_peek 22 = .ok (.aload_n 0, 1) := by decide +kernel
theorem dX7_peek_23 : decode cX7_peek 23 = .ok (.getfield 15, 3) := by decide +kernel
theorem dX7_peek_26 : decode cX7_peek 26 = .ok (.arraylength, 1) := by decide +kernel
theorem dX7_peek_27 : decode cX7_peek 27 = .ok (.if_icmp .ge 40, 3) := by decide +kernel
theorem dX7_peek_30 : decode cX7_peek 30 = .ok (.aload_n 0, 1) := by decide +kernel
theorem dX7_peek_31 : decode cX7_peek 31 = .ok (.getfield 15, 3) := by decide +kernel
theorem dX7_peek_34 : decode cX7_peek 34 = .ok (.aload_n 0, 1) := by decide +kernel
theorem dX7_peek_35 : decode cX7_peek 35 = .ok (.getfield 32, 3) := by decide +kernel
theorem dX7_peek_38 : decode cX7_peek 38 = .ok (.iaload, 1) := by decide +kernel
theorem dX7_peek_39 : decode cX7_peek 39 = .ok (.bipush 32, 2) := by decide +kernel
theorem dX7_peek_41 : decode cX7_peek 41 = .ok (.if_icmp .eq 13, 3) := by decide +kernel
theorem dX7_peek_44 : decode cX7_peek 44 = .ok (.aload_n 0, 1) := by decide +kernel
theorem dX7_peek_45 : decode cX7_peek 45 = .ok (.getfield 15, 3) := by decide +kernel
theorem dX7_peek_48 : decode cX7_peek 48 = .ok (.aload_n 0, 1) := by decide +kernel
theorem dX7_peek_49 : decode cX7_peek 49 = .ok (.getfield 32, 3) := by decide +kernel
theorem dX7_peek_52 : decode cX7_peek 52 = .ok (.iaload, 1) := by decide +kernel
theorem dX7_peek_53 : decode cX7_peek 53 = .ok (.ireturn, 1) := by decide +kernel
theorem dX7_peek_54 : decode cX7_peek 54 = .ok (.aload_n 0, 1) := by decide +kernel
theorem dX7_peek_55 : decode cX7_peek 55 = .ok (.dup, 1) := by decide +kernel
theorem dX7_peek_56 : decode cX7_peek 56 = .ok (.getfield 32, 3) := by decide +kernel
theorem dX7_peek_59 : decode cX7_peek 59 = .ok (.iconst 1, 1) := by decide +kernel
theorem dX7_peek_60 : decode cX7_peek 60 = .ok (.iadd, 1) := by decide +kernel
theorem dX7_peek_61 : decode cX7_peek 61 = .ok (.putfield 32, 3) := by decide +kernel
theorem dX7_peek_64 : decode cX7_peek 64 = .ok (.goto (-64), 3) := by decide +kernel
theorem dX7_peek_67 : decode cX7_peek 67 = .ok (.iconst (-1), 1) := by decide +kernel
theorem dX7_peek_68 : decode cX7_peek 68 = .ok (.ireturn, 1) := by decide +kernel
theorem dX7_expect_0 : decode cX7_expect 0 = .ok (.aload_n 0, 1) := by decide +kernel
theorem dX7_expect_1 : decode cX7_expect 1 = .ok (.invokevirtual 38, 3) := by decide +kernel
theorem dX7_expect_4 : decode cX7_expect 4 = .ok (.iload_n 1, 1) := by decide +kernel
theorem dX7_expect_5 : decode cX7_expect 5 = .ok (.if_icmp .ne 16, 3) := by decide +kernel
theorem dX7_expect_8 : decode cX7_expect 8 = .ok (.aload_n 0, 1) := by decide +kernel
theorem dX7_expect_9 : decode cX7_expect 9 = .ok (.dup, 1) := by decide +kernel
theorem dX7_expect_10 : decode cX7_expect 10 = .ok (.getfield 32, 3) := by decide +kernel
theorem dX7_expect_13 : decode cX7_expect 13 = .ok (.iconst 1, 1) := by decide +kernel
theorem dX7_expect_14 : decode cX7_expect 14 = .ok (.iadd, 1) := by decide +kernel
theorem dX7_expect_15 : decode cX7_expect 15 = .ok (.putfield 32, 3) := by decide +kernel
theorem dX7_expect_18 : decode cX7_expect 18 = .ok (.goto 12, 3) := by decide +kernel
theorem dX7_expect_21 : decode cX7_expect 21 = .ok (.aload_n 0, 1) := by decide +kernel
theorem dX7_expect_22 : decode cX7_expect 22 = .ok (.iconst 1, 1) := by decide +kernel
theorem dX7_expect_23 : decode cX7_expect 23 = .ok (.aload_n 0, 1) := by decide +kernel
theorem dX7_expect_24 : decode cX7_expect 24 = .ok (.getfield 32, 3) := by decide +kernel
theorem dX7_expect_27 : decode cX7_expect 27 = .ok (.invokevirtual 49, 3) := by decide +kernel
theorem dX7_expect_30 : decode cX7_expect 30 = .ok (.return_, 1) := by decide +kernel
theorem dX7_readRooms_0 : decode cX7_readRooms 0 = .ok (.aload_n 0, 1) := by decide +kernel
theorem dX7_readRooms_1 : decode cX7_readRooms 1 = .ok (.bipush 114, 2) := by decide +kernel
theorem dX7_readRooms_3 : decode cX7_readRooms 3 = .ok (.invokevirtual 53, 3) := by decide +kernel
theorem dX7_readRooms_6 : decode cX7_readRooms 6 = .ok (.aload_n 0, 1) := by decide +kernel
theorem dX7_readRooms_7 : decode cX7_readRooms 7 = .ok (.getfield 35, 3) := by decide +kernel
theorem dX7_readRooms_10 : decode cX7_readRooms 10 = .ok (.ifCond .eq 4, 3) := by decide +kernel
theorem dX7_readRooms_13 : decode cX7_readRooms 13 = .ok (.return_, 1) := by decide +kernel
theorem dX7_readRooms_14 : decode cX7_readRooms 14 = .ok (.aload_n 0, 1) := by decide +kernel
theorem dX7_readRooms_15 : decode cX7_readRooms 15 = .ok (.invokevirtual 57, 3) := by decide +kernel
theorem dX7_readRooms_18 : decode cX7_readRooms 18 = .ok (.istore_n 2, 1) := by decide +kernel
theorem dX7_readRooms_19 : decode cX7_readRooms 19 = .ok (.iload_n 2, 1) := by decide +kernel
theorem dX7_readRooms_20 : decode cX7_readRooms 20 = .ok (.iconst 1, 1) := by decide +kernel
theorem dX7_readRooms_21 : decode cX7_readRooms 21 = .ok (.if_icmp .lt 9, 3) := by decide +kernel
theorem dX7_readRooms_24 : decode cX7_readRooms 24 = .ok (.iload_n 2, 1) := by decide +kernel
theorem dX7_readRooms_25 : decode cX7_readRooms 25 = .ok (.bipush 8, 2) := by decide +kernel
theorem dX7_readRooms_27 : decode cX7_readRooms 27 = .ok (.if_icmp .le 12, 3) := by decide +kernel
theorem dX7_readRooms_30 : decode cX7_readRooms 30 = .ok (.aload_n 0, 1) := by decide +kernel
theorem dX7_readRooms_31 : decode cX7_readRooms 31 = .ok (.iconst 2, 1) := by decide +kernel
theorem dX7_readRooms_32 : decode cX7_readRooms 32 = .ok (.aload_n 0, 1) := by decide +kernel
theorem dX7_readRooms_33 : decode cX7_readRooms 33 = .ok (.getfield 60, 3) := by decide +kernel
theorem dX7_readRooms_36 : decode cX7_readRooms 36 = .ok (.invokevirtual 49, 3) := by decide +kernel
theorem dX7_readRooms_39 : decode cX7_readRooms 39 = .ok (.aload_n 0, 1) := by decide +kernel
theorem dX7_readRooms_40 : decode cX7_readRooms 40 = .ok (.getfield 35, 3) := by decide +kernel
theorem dX7_readRooms_43 : decode cX7_readRooms 43 = .ok (.ifCond .ne 14, 3) := by decide +kernel
theorem dX7_readRooms_46 : decode cX7_readRooms 46 = .ok (.aload_n 1, 1) := by decide +kernel
theorem dX7_readRooms_47 : decode cX7_readRooms 47 = .ok (.iload_n 2, 1) := by decide +kernel
theorem dX7_readRooms_48 : decode cX7_readRooms 48 = .ok (.putfield 63, 3) := by decide +kernel
theorem dX7_readRooms_51 : decode cX7_readRooms 51 = .ok (.aload_n 0, 1) := by decide +kernel
theorem dX7_readRooms_52 : decode cX7_readRooms 52 = .ok (.bipush 59, 2) := by decide +kernel
theorem dX7_readRooms_54 : decode cX7_readRooms 54 = .ok (.invokevirtual 53, 3) := by decide +kernel
theorem dX7_readRooms_57 : decode cX7_readRooms 57 = .ok (.return_, 1) := by decide +kernel
theorem dX7_readClause_0 : decode cX7_readClause 0 = .ok (.aload_n 0, 1) := by decide +kernel
theorem dX7_readClause_1 : decode cX7_readClause 1 = .ok (.invokevirtual 38, 3) := by decide +kernel
theorem dX7_readClause_4 : decode cX7_readClause 4 = .ok (.istore_n 2, 1) := by decide +kernel
theorem dX7_readClause_5 : decode cX7_readClause 5 = .ok (.aload_n 0, 1) := by decide +kernel
theorem dX7_readClause_6 : decode cX7_readClause 6 = .ok (.iload_n 2, 1) := by decide +kernel
theorem dX7_readClause_7 : decode cX7_readClause 7 = .ok (.aload_n 1, 1) := by decide +kernel
theorem dX7_readClause_8 : decode cX7_readClause 8 = .ok (.getfield 66, 3) := by decide +kernel
theorem dX7_readClause_11 : decode cX7_readClause 11 = .ok (.invokevirtual 69, 3) := by decide +kernel
theorem dX7_readClause_14 : decode cX7_readClause 14 = .ok (.aload_n 0, 1) := by decide +kernel
theorem dX7_readClause_15 : decode cX7_readClause 15 = .ok (.getfield 35, 3) := by decide +kernel
theorem dX7_readClause_18 : decode cX7_readClause 18 = .ok (.ifCond .eq 4, 3) := by decide +kernel
theorem dX7_readClause_21 : decode cX7_readClause 21 = .ok (.return_, 1) := by decide +kernel
theorem dX7_readClause_22 : decode cX7_readClause 22 = .ok (.aload_n 0, 1) := by decide +kernel
theorem dX7_readClause_23 : decode cX7_readClause 23 = .ok (.dup, 1) := by decide +kernel
theorem dX7_readClause_24 : decode cX7_readClause 24 = .ok (.getfield 32, 3) := by decide +kernel
theorem dX7_readClause_27 : decode cX7_readClause 27 = .ok (.iconst 1, 1) := by decide +kernel
theorem dX7_readClause_28 : decode cX7_readClause 28 = .ok (.iadd, 1) := by decide +kernel
theorem dX7_readClause_29 : decode cX7_readClause 29 = .ok (.putfield 32, 3) := by decide +kernel
theorem dX7_readClause_32 : decode cX7_readClause 32 = .ok (.aload_n 1, 1) := by decide +kernel
theorem dX7_readClause_33 : decode cX7_readClause 33 = .ok (.invokevirtual 72, 3) := by decide +kernel
theorem dX7_readClause_36 : decode cX7_readClause 36 = .ok (.istore_n 3, 1) := by decide +kernel
theorem dX7_readClause_37 : decode cX7_readClause 37 = .ok (.iload_n 2, 1) := by decide +kernel
theorem dX7_readClause_38 : decode cX7_readClause 38 = .ok (.bipush 116, 2) := by decide +kernel
theorem dX7_readClause_40 : decode cX7_readClause 40 = .ok (.if_icmp .ne 12, 3) := by decide +kernel
theorem dX7_readClause_43 : decode cX7_readClause 43 = .ok (.aload_n 0, 1) := by decide +kernel
theorem dX7_readClause_44 : decode cX7_readClause 44 = .ok (.aload_n 1, 1) := by decide +kernel
theorem dX7_readClause_45 : decode cX7_readClause 45 = .ok (.iload_n 3, 1) := by decide +kernel
theorem dX7_readClause_46 : decode cX7_readClause 46 = .ok (.invokevirtual 75, 3) := by decide +kernel
theorem dX7_readClause_49 : decode cX7_readClause 49 = .ok (.goto 9, 3) := by decide +kernel
theorem dX7_readClause_52 : decode cX7_readClause 52 = .ok (.aload_n 0, 1) := by decide +kernel
theorem dX7_readClause_53 : decode cX7_readClause 53 = .ok (.aload_n 1, 1) := by decide +kernel
theorem dX7_readClause_54 : decode cX7_readClause 54 = .ok (.iload_n 3, 1) := by decide +kernel
theorem dX7_readClause_55 : decode cX7_readClause 55 = .ok (.invokevirtual 79, 3) := by decide +kernel
theorem dX7_readClause_58 : decode cX7_readClause 58 = .ok (.iconst 0, 1) := by decide +kernel
theorem dX7_readClause_59 : decode cX7_readClause 59 = .ok (.istore 4, 2) := by decide +kernel
theorem dX7_readClause_61 : decode cX7_readClause 61 = .ok (.iload 4, 2) := by decide +kernel
theorem dX7_readClause_63 : decode cX7_readClause 63 = .ok (.bipush 8, 2) := by decide +kernel
theorem dX7_readClause_65 : decode cX7_readClause 65 = .ok (.if_icmp .gt 41, 3) := by decide +kernel
theorem dX7_readClause_68 : decode cX7_readClause 68 = .ok (.aload_n 0, 1) := by decide +kernel
theorem dX7_readClause_69 : decode cX7_readClause 69 = .ok (.getfield 35, 3) := by decide +kernel
theorem dX7_readClause_72 : decode cX7_readClause 72 = .ok (.ifCond .ne 34, 3) := by decide +kernel
theorem dX7_readClause_75 : decode cX7_readClause 75 = .ok (.aload_n 0, 1) := by decide +kernel
theorem dX7_readClause_76 : decode cX7_readClause 76 = .ok (.invokevirtual 38, 3) := by decide +kernel
theorem dX7_readClause_79 : decode cX7_readClause 79 = .ok (.bipush 44, 2) := by decide +kernel
theorem dX7_readClause_81 : decode cX7_readClause 81 = .ok (.if_icmp .ne 25, 3) := by decide +kernel
theorem dX7_readClause_84 : decode cX7_readClause 84 = .ok (.aload_n 0, 1) := by decide +kernel
theorem dX7_readClause_85 : decode cX7_readClause 85 = .ok (.dup, 1) := by decide +kernel
theorem dX7_readClause_86 : decode cX7_readClause 86 = .ok (.getfield 32, 3) := by decide +kernel
theorem dX7_readClause_89 : decode cX7_readClause 89 = .ok (.iconst 1, 1) := by decide +kernel
theorem dX7_readClause_90 : decode cX7_readClause 90 = .ok (.iadd, 1) := by decide +kernel
theorem dX7_readClause_91 : decode cX7_readClause 91 = .ok (.putfield 32, 3) := by decide +kernel
theorem dX7_readClause_94 : decode cX7_readClause 94 = .ok (.aload_n 0, 1) := by decide +kernel
theorem dX7_readClause_95 : decode cX7_readClause 95 = .ok (.aload_n 1, 1) := by decide +kernel
theorem dX7_readClause_96 : decode cX7_readClause 96 = .ok (.iload_n 3, 1) := by decide +kernel
theorem dX7_readClause_97 : decode cX7_readClause 97 = .ok (.invokevirtual 79, 3) := by decide +kernel
theorem dX7_readClause_100 : decode cX7_readClause 100 = .ok (.iinc 4 1, 3) := by decide +kernel
theorem dX7_readClause_103 : decode cX7_readClause 103 = .ok (.goto (-42), 3) := by decide +kernel
theorem dX7_readClause_106 : decode cX7_readClause 106 = .ok (.aload_n 0, 1) := by decide +kernel
theorem dX7_readClause_107 : decode cX7_readClause 107 = .ok (.getfield 35, 3) := by decide +kernel
theorem dX7_readClause_110 : decode cX7_readClause 110 = .ok (.ifCond .ne 9, 3) := by decide +kernel
theorem dX7_readClause_113 : decode cX7_readClause 113 = .ok (.aload_n 0, 1) := by decide +kernel
theorem dX7_readClause_114 : decode cX7_readClause 114 = .ok (.bipush 59, 2) := by decide +kernel
theorem dX7_readClause_116 : decode cX7_readClause 116 = .ok (.invokevirtual 53, 3) := by decide +kernel
theorem dX7_readClause_119 : decode cX7_readClause 119 = .ok (.return_, 1) := by decide +kernel
theorem dX7_checkWord_0 : decode cX7_checkWord 0 = .ok (.iload_n 1, 1) := by decide +kernel
theorem dX7_checkWord_1 : decode cX7_checkWord 1 = .ok (.bipush 114, 2) := by decide +kernel
theorem dX7_checkWord_3 : decode cX7_checkWord 3 = .ok (.if_icmp .eq 27, 3) := by decide +kernel
theorem dX7_checkWord_6 : decode cX7_checkWord 6 = .ok (.iload_n 1, 1) := by decide +kernel
theorem dX7_checkWord_7 : decode cX7_checkWord 7 = .ok (.bipush 116, 2) := by decide +kernel
theorem dX7_checkWord_9 : decode cX7_checkWord 9 = .ok (.if_icmp .eq 21, 3) := by decide +kernel
theorem dX7_checkWord_12 : decode cX7_checkWord 12 = .ok (.iload_n 1, 1) := by decide +kernel
theorem dX7_checkWord_13 : decode cX7_checkWord 13 = .ok (.bipush 110, 2) := by decide +kernel
theorem dX7_checkWord_15 : decode cX7_checkWord 15 = .ok (.if_icmp .eq 15, 3) := by decide +kernel
theorem dX7_checkWord_18 : decode cX7_checkWord 18 = .ok (.aload_n 0, 1) := by decide +kernel
theorem dX7_checkWord_19 : decode cX7_checkWord 19 = .ok (.iconst 1, 1) := by decide +kernel
theorem dX7_checkWord_20 : decode cX7_checkWord 20 = .ok (.aload_n 0, 1) := by decide +kernel
theorem dX7_checkWord_21 : decode cX7_checkWord 21 = .ok (.getfield 32, 3) := by decide +kernel
theorem dX7_checkWord_24 : decode cX7_checkWord 24 = .ok (.invokevirtual 49, 3) := by decide +kernel
theorem dX7_checkWord_27 : decode cX7_checkWord 27 = .ok (.goto 24, 3) := by decide +kernel
theorem dX7_checkWord_30 : decode cX7_checkWord 30 = .ok (.iload_n 1, 1) := by decide +kernel
theorem dX7_checkWord_31 : decode cX7_checkWord 31 = .ok (.bipush 114, 2) := by decide +kernel
theorem dX7_checkWord_33 : decode cX7_checkWord 33 = .ok (.if_icmp .eq 9, 3) := by decide +kernel
theorem dX7_checkWord_36 : decode cX7_checkWord 36 = .ok (.iload_n 2, 1) := by decide +kernel
theorem dX7_checkWord_37 : decode cX7_checkWord 37 = .ok (.bipush 6, 2) := by decide +kernel
theorem dX7_checkWord_39 : decode cX7_checkWord 39 = .ok (.if_icmp .lt 12, 3) := by decide +kernel
theorem dX7_checkWord_42 : decode cX7_checkWord 42 = .ok (.aload_n 0, 1) := by decide +kernel
theorem dX7_checkWord_43 : decode cX7_checkWord 43 = .ok (.iconst 3, 1) := by decide +kernel
theorem dX7_checkWord_44 : decode cX7_checkWord 44 = .ok (.aload_n 0, 1) := by decide +kernel
theorem dX7_checkWord_45 : decode cX7_checkWord 45 = .ok (.getfield 32, 3) := by decide +kernel
theorem dX7_checkWord_48 : decode cX7_checkWord 48 = .ok (.invokevirtual 49, 3) := by decide +kernel
theorem dX7_checkWord_51 : decode cX7_checkWord 51 = .ok (.return_, 1) := by decide +kernel
theorem dX7_readSeat_0 : decode cX7_readSeat 0 = .ok (.aload_n 0, 1) := by decide +kernel
theorem dX7_readSeat_1 : decode cX7_readSeat 1 = .ok (.aload_n 1, 1) := by decide +kernel
theorem dX7_readSeat_2 : decode cX7_readSeat 2 = .ok (.invokevirtual 82, 3) := by decide +kernel
theorem dX7_readSeat_5 : decode cX7_readSeat 5 = .ok (.istore_n 3, 1) := by decide +kernel
theorem dX7_readSeat_6 : decode cX7_readSeat 6 = .ok (.aload_n 0, 1) := by decide +kernel
theorem dX7_readSeat_7 : decode cX7_readSeat 7 = .ok (.getfield 35, 3) := by decide +kernel
theorem dX7_readSeat_10 : decode cX7_readSeat 10 = .ok (.ifCond .ne 21, 3) := by decide +kernel
theorem dX7_readSeat_13 : decode cX7_readSeat 13 = .ok (.aload_n 1, 1) := by decide +kernel
theorem dX7_readSeat_14 : decode cX7_readSeat 14 = .ok (.iload_n 3, 1) := by decide +kernel
theorem dX7_readSeat_15 : decode cX7_readSeat 15 = .ok (.invokevirtual 86, 3) := by decide +kernel
theorem dX7_readSeat_18 : decode cX7_readSeat 18 = .ok (.iconst (-1), 1) := by decide +kernel
theorem dX7_readSeat_19 : decode cX7_readSeat 19 = .ok (.if_icmp .eq 12, 3) := by decide +kernel
theorem dX7_readSeat_22 : decode cX7_readSeat 22 = .ok (.aload_n 0, 1) := by decide +kernel
theorem dX7_readSeat_23 : decode cX7_readSeat 23 = .ok (.iconst 4, 1) := by decide +kernel
theorem dX7_readSeat_24 : decode cX7_readSeat 24 = .ok (.aload_n 0, 1) := by decide +kernel
theorem dX7_readSeat_25 : decode cX7_readSeat 25 = .ok (.getfield 60, 3) := by decide +kernel
theorem dX7_readSeat_28 : decode cX7_readSeat 28 = .ok (.invokevirtual 49, 3) := by decide +kernel
theorem dX7_readSeat_31 : decode cX7_readSeat 31 = .ok (.aload_n 0, 1) := by decide +kernel
theorem dX7_readSeat_32 : decode cX7_readSeat 32 = .ok (.getfield 35, 3) := by decide +kernel
theorem dX7_readSeat_35 : decode cX7_readSeat 35 = .ok (.ifCond .ne 9, 3) := by decide +kernel
theorem dX7_readSeat_38 : decode cX7_readSeat 38 = .ok (.aload_n 1, 1) := by decide +kernel
theorem dX7_readSeat_39 : decode cX7_readSeat 39 = .ok (.iload_n 2, 1) := by decide +kernel
theorem dX7_readSeat_40 : decode cX7_readSeat 40 = .ok (.iload_n 3, 1) := by decide +kernel
theorem dX7_readSeat_41 : decode cX7_readSeat 41 = .ok (.invokevirtual 90, 3) := by decide +kernel
theorem dX7_readSeat_44 : decode cX7_readSeat 44 = .ok (.return_, 1) := by decide +kernel
theorem dX7_readLiking_0 : decode cX7_readLiking 0 = .ok (.aload_n 0, 1) := by decide +kernel
theorem dX7_readLiking_1 : decode cX7_readLiking 1 = .ok (.aload_n 1, 1) := by decide +kernel
theorem dX7_readLiking_2 : decode cX7_readLiking 2 = .ok (.invokevirtual 82, 3) := by decide +kernel
theorem dX7_readLiking_5 : decode cX7_readLiking 5 = .ok (.istore_n 3, 1) := by decide +kernel
theorem dX7_readLiking_6 : decode cX7_readLiking 6 = .ok (.aload_n 0, 1) := by decide +kernel
theorem dX7_readLiking_7 : decode cX7_readLiking 7 = .ok (.getfield 35, 3) := by decide +kernel
theorem dX7_readLiking_10 : decode cX7_readLiking 10 = .ok (.ifCond .ne 22, 3) := by decide +kernel
theorem dX7_readLiking_13 : decode cX7_readLiking 13 = .ok (.aload_n 1, 1) := by decide +kernel
theorem dX7_readLiking_14 : decode cX7_readLiking 14 = .ok (.iload_n 2, 1) := by decide +kernel
theorem dX7_readLiking_15 : decode cX7_readLiking 15 = .ok (.iload_n 3, 1) := by decide +kernel
theorem dX7_readLiking_16 : decode cX7_readLiking 16 = .ok (.invokevirtual 93, 3) := by decide +kernel
theorem dX7_readLiking_19 : decode cX7_readLiking 19 = .ok (.iconst (-1), 1) := by decide +kernel
theorem dX7_readLiking_20 : decode cX7_readLiking 20 = .ok (.if_icmp .eq 12, 3) := by decide +kernel
theorem dX7_readLiking_23 : decode cX7_readLiking 23 = .ok (.aload_n 0, 1) := by decide +kernel
theorem dX7_readLiking_24 : decode cX7_readLiking 24 = .ok (.iconst 4, 1) := by decide +kernel
theorem dX7_readLiking_25 : decode cX7_readLiking 25 = .ok (.aload_n 0, 1) := by decide +kernel
theorem dX7_readLiking_26 : decode cX7_readLiking 26 = .ok (.getfield 60, 3) := by decide +kernel
theorem dX7_readLiking_29 : decode cX7_readLiking 29 = .ok (.invokevirtual 49, 3) := by decide +kernel
theorem dX7_readLiking_32 : decode cX7_readLiking 32 = .ok (.aload_n 0, 1) := by decide +kernel
theorem dX7_readLiking_33 : decode cX7_readLiking 33 = .ok (.getfield 35, 3) := by decide +kernel
theorem dX7_readLiking_36 : decode cX7_readLiking 36 = .ok (.ifCond .ne 9, 3) := by decide +kernel
theorem dX7_readLiking_39 : decode cX7_readLiking 39 = .ok (.aload_n 1, 1) := by decide +kernel
theorem dX7_readLiking_40 : decode cX7_readLiking 40 = .ok (.iload_n 2, 1) := by decide +kernel
theorem dX7_readLiking_41 : decode cX7_readLiking 41 = .ok (.iload_n 3, 1) := by decide +kernel
theorem dX7_readLiking_42 : decode cX7_readLiking 42 = .ok (.invokevirtual 97, 3) := by decide +kernel
theorem dX7_readLiking_45 : decode cX7_readLiking 45 = .ok (.return_, 1) := by decide +kernel
theorem dX7_readRoom_0 : decode cX7_readRoom 0 = .ok (.aload_n 0, 1) := by decide +kernel
theorem dX7_readRoom_1 : decode cX7_readRoom 1 = .ok (.invokevirtual 57, 3) := by decide +kernel
theorem dX7_readRoom_4 : decode cX7_readRoom 4 = .ok (.istore_n 2, 1) := by decide +kernel
theorem dX7_readRoom_5 : decode cX7_readRoom 5 = .ok (.aload_n 1, 1) := by decide +kernel
theorem dX7_readRoom_6 : decode cX7_readRoom 6 = .ok (.iload_n 2, 1) := by decide +kernel
theorem dX7_readRoom_7 : decode cX7_readRoom 7 = .ok (.invokevirtual 100, 3) := by decide +kernel
theorem dX7_readRoom_10 : decode cX7_readRoom 10 = .ok (.ifCond .ne 12, 3) := by decide +kernel
theorem dX7_readRoom_13 : decode cX7_readRoom 13 = .ok (.aload_n 0, 1) := by decide +kernel
theorem dX7_readRoom_14 : decode cX7_readRoom 14 = .ok (.iconst 2, 1) := by decide +kernel
theorem dX7_readRoom_15 : decode cX7_readRoom 15 = .ok (.aload_n 0, 1) := by decide +kernel
theorem dX7_readRoom_16 : decode cX7_readRoom 16 = .ok (.getfield 60, 3) := by decide +kernel
theorem dX7_readRoom_19 : decode cX7_readRoom 19 = .ok (.invokevirtual 49, 3) := by decide +kernel
theorem dX7_readRoom_22 : decode cX7_readRoom 22 = .ok (.iload_n 2, 1) := by decide +kernel
theorem dX7_readRoom_23 : decode cX7_readRoom 23 = .ok (.ireturn, 1) := by decide +kernel
theorem dX7_readNumber_0 : decode cX7_readNumber 0 = .ok (.aload_n 0, 1) := by decide +kernel
theorem dX7_readNumber_1 : decode cX7_readNumber 1 = .ok (.invokevirtual 38, 3) := by decide +kernel
theorem dX7_readNumber_4 : decode cX7_readNumber 4 = .ok (.pop, 1) := by decide +kernel
theorem dX7_readNumber_5 : decode cX7_readNumber 5 = .ok (.aload_n 0, 1) := by decide +kernel
theorem dX7_readNumber_6 : decode cX7_readNumber 6 = .ok (.aload_n 0, 1) := by decide +kernel
theorem dX7_readNumber_7 : decode cX7_readNumber 7 = .ok (.getfield 32, 3) := by decide +kernel
theorem dX7_readNumber_10 : decode cX7_readNumber 10 = .ok (.putfield 60, 3) := by decide +kernel
theorem dX7_readNumber_13 : decode cX7_readNumber 13 = .ok (.iconst 0, 1) := by decide +kernel
theorem dX7_readNumber_14 : decode cX7_readNumber 14 = .ok (.istore_n 1, 1) := by decide +kernel
theorem dX7_readNumber_15 : decode cX7_readNumber 15 = .ok (.iconst 0, 1) := by decide +kernel
theorem dX7_readNumber_16 : decode cX7_readNumber 16 = .ok (.istore_n 2, 1) := by decide +kernel
theorem dX7_readNumber_17 : decode cX7_readNumber 17 = .ok (.aload_n 0, 1) := by decide +kernel
theorem dX7_readNumber_18 : decode cX7_readNumber 18 = .ok (.getfield 32, 3) := by decide +kernel
theorem dX7_readNumber_21 : decode cX7_readNumber 21 = .ok (.aload_n 0, 1) := by decide +kernel
theorem dX7_readNumber_22 : decode cX7_readNumber 22 = .ok (.getfield 19, 3) := by decide +kernel
theorem dX7_readNumber_25 : decode cX7_readNumber 25 = .ok (.if_icmp .ge 61, 3) := by decide +kernel
theorem dX7_readNumber_28 : decode cX7_readNumber 28 = .ok (.aload_n 0, 1) := by decide +kernel
theorem dX7_readNumber_29 : decode cX7_readNumber 29 = .ok (.getfield 15, 3) := by decide +kernel
theorem dX7_readNumber_32 : decode cX7_readNumber 32 = .ok (.aload_n 0, 1) := by decide +kernel
theorem dX7_readNumber_33 : decode cX7_readNumber 33 = .ok (.getfield 32, 3) := by decide +kernel
theorem dX7_readNumber_36 : decode cX7_readNumber 36 = .ok (.invokestatic 104, 3) := by decide +kernel
theorem dX7_readNumber_39 : decode cX7_readNumber 39 = .ok (.invokestatic 108, 3) := by decide +kernel
theorem dX7_readNumber_42 : decode cX7_readNumber 42 = .ok (.ifCond .eq 44, 3) := by decide +kernel
theorem dX7_readNumber_45 : decode cX7_readNumber 45 = .ok (.iinc 2 1, 3) := by decide +kernel
theorem dX7_readNumber_48 : decode cX7_readNumber 48 = .ok (.iload_n 2, 1) := by decide +kernel
theorem dX7_readNumber_49 : decode cX7_readNumber 49 = .ok (.iconst 3, 1) := by decide +kernel
theorem dX7_readNumber_50 : decode cX7_readNumber 50 = .ok (.if_icmp .gt 23, 3) := by decide +kernel
theorem dX7_readNumber_53 : decode cX7_readNumber 53 = .ok (.iload_n 1, 1) := by decide +kernel
theorem dX7_readNumber_54 : decode cX7_readNumber 54 = .ok (.bipush 10, 2) := by decide +kernel
theorem dX7_readNumber_56 : decode cX7_readNumber 56 = .ok (.imul, 1) := by decide +kernel
theorem dX7_readNumber_57 : decode cX7_readNumber 57 = .ok (.aload_n 0, 1) := by decide +kernel
theorem dX7_readNumber_58 : decode cX7_readNumber 58 = .ok (.getfield 15, 3) := by decide +kernel
theorem dX7_readNumber_61 : decode cX7_readNumber 61 = .ok (.aload_n 0, 1) := by decide +kernel
theorem dX7_readNumber_62 : decode cX7_readNumber 62 = .ok (.getfield 32, 3) := by decide +kernel
theorem dX7_readNumber_65 : decode cX7_readNumber 65 = .ok (.invokestatic 104, 3) := by decide +kernel
theorem dX7_readNumber_68 : decode cX7_readNumber 68 = .ok (.iadd, 1) := by decide +kernel
theorem dX7_readNumber_69 : decode cX7_readNumber 69 = .ok (.bipush 48, 2) := by decide +kernel
theorem dX7_readNumber_71 : decode cX7_readNumber 71 = .ok (.isub, 1) := by decide +kernel
theorem dX7_readNumber_72 : decode cX7_readNumber 72 = .ok (.istore_n 1, 1) := by decide +kernel
theorem dX7_readNumber_73 : decode cX7_readNumber 73 = .ok (.aload_n 0, 1) := by decide +kernel
theorem dX7_readNumber_74 : decode cX7_readNumber 74 = .ok (.dup, 1) := by decide +kernel
theorem dX7_readNumber_75 : decode cX7_readNumber 75 = .ok (.getfield 32, 3) := by decide +kernel
theorem dX7_readNumber_78 : decode cX7_readNumber 78 = .ok (.iconst 1, 1) := by decide +kernel
theorem dX7_readNumber_79 : decode cX7_readNumber 79 = .ok (.iadd, 1) := by decide +kernel
theorem dX7_readNumber_80 : decode cX7_readNumber 80 = .ok (.putfield 32, 3) := by decide +kernel
theorem dX7_readNumber_83 : decode cX7_readNumber 83 = .ok (.goto (-66), 3) := by decide +kernel
theorem dX7_readNumber_86 : decode cX7_readNumber 86 = .ok (.iload_n 2, 1) := by decide +kernel
theorem dX7_readNumber_87 : decode cX7_readNumber 87 = .ok (.ifCond .ne 15, 3) := by decide +kernel
theorem dX7_readNumber_90 : decode cX7_readNumber 90 = .ok (.aload_n 0, 1) := by decide +kernel
theorem dX7_readNumber_91 : decode cX7_readNumber 91 = .ok (.iconst 1, 1) := by decide +kernel
theorem dX7_readNumber_92 : decode cX7_readNumber 92 = .ok (.aload_n 0, 1) := by decide +kernel
theorem dX7_readNumber_93 : decode cX7_readNumber 93 = .ok (.getfield 60, 3) := by decide +kernel
theorem dX7_readNumber_96 : decode cX7_readNumber 96 = .ok (.invokevirtual 49, 3) := by decide +kernel
theorem dX7_readNumber_99 : decode cX7_readNumber 99 = .ok (.goto 17, 3) := by decide +kernel
theorem dX7_readNumber_102 : decode cX7_readNumber 102 = .ok (.iload_n 2, 1) := by decide +kernel
theorem dX7_readNumber_103 : decode cX7_readNumber 103 = .ok (.iconst 3, 1) := by decide +kernel
theorem dX7_readNumber_104 : decode cX7_readNumber 104 = .ok (.if_icmp .le 12, 3) := by decide +kernel
theorem dX7_readNumber_107 : decode cX7_readNumber 107 = .ok (.aload_n 0, 1) := by decide +kernel
theorem dX7_readNumber_108 : decode cX7_readNumber 108 = .ok (.iconst 2, 1) := by decide +kernel
theorem dX7_readNumber_109 : decode cX7_readNumber 109 = .ok (.aload_n 0, 1) := by decide +kernel
theorem dX7_readNumber_110 : decode cX7_readNumber 110 = .ok (.getfield 60, 3) := by decide +kernel
theorem dX7_readNumber_113 : decode cX7_readNumber 113 = .ok (.invokevirtual 49, 3) := by decide +kernel
theorem dX7_readNumber_116 : decode cX7_readNumber 116 = .ok (.iload_n 1, 1) := by decide +kernel
theorem dX7_readNumber_117 : decode cX7_readNumber 117 = .ok (.ireturn, 1) := by decide +kernel
theorem dX7_isFigure_0 : decode cX7_isFigure 0 = .ok (.iload_n 0, 1) := by decide +kernel
theorem dX7_isFigure_1 : decode cX7_isFigure 1 = .ok (.bipush 48, 2) := by decide +kernel
theorem dX7_isFigure_3 : decode cX7_isFigure 3 = .ok (.if_icmp .lt 13, 3) := by decide +kernel
theorem dX7_isFigure_6 : decode cX7_isFigure 6 = .ok (.iload_n 0, 1) := by decide +kernel
theorem dX7_isFigure_7 : decode cX7_isFigure 7 = .ok (.bipush 57, 2) := by decide +kernel
theorem dX7_isFigure_9 : decode cX7_isFigure 9 = .ok (.if_icmp .gt 7, 3) := by decide +kernel
theorem dX7_isFigure_12 : decode cX7_isFigure 12 = .ok (.iconst 1, 1) := by decide +kernel
theorem dX7_isFigure_13 : decode cX7_isFigure 13 = .ok (.goto 4, 3) := by decide +kernel
theorem dX7_isFigure_16 : decode cX7_isFigure 16 = .ok (.iconst 0, 1) := by decide +kernel
theorem dX7_isFigure_17 : decode cX7_isFigure 17 = .ok (.ireturn, 1) := by decide +kernel
theorem dX8_init_0 : decode cX8_init 0 = .ok (.aload_n 0, 1) := by decide +kernel
theorem dX8_init_1 : decode cX8_init 1 = .ok (.invokespecial 1, 3) := by decide +kernel
theorem dX8_init_4 : decode cX8_init 4 = .ok (.aload_n 0, 1) := by decide +kernel
theorem dX8_init_5 : decode cX8_init 5 = .ok (.new 7, 3) := by decide +kernel
theorem dX8_init_8 : decode cX8_init 8 = .ok (.dup, 1) := by decide +kernel
theorem dX8_init_9 : decode cX8_init 9 = .ok (.invokespecial 9, 3) := by decide +kernel
theorem dX8_init_12 : decode cX8_init 12 = .ok (.putfield 10, 3) := by decide +kernel
theorem dX8_init_15 : decode cX8_init 15 = .ok (.aload_n 0, 1) := by decide +kernel
theorem dX8_init_16 : decode cX8_init 16 = .ok (.new 16, 3) := by decide +kernel
theorem dX8_init_19 : decode cX8_init 19 = .ok (.dup, 1) := by decide +kernel
theorem dX8_init_20 : decode cX8_init 20 = .ok (.invokespecial 18, 3) := by decide +kernel
theorem dX8_init_23 : decode cX8_init 23 = .ok (.putfield 19, 3) := by decide +kernel
theorem dX8_init_26 : decode cX8_init 26 = .ok (.aload_n 0, 1) := by decide +kernel
theorem dX8_init_27 : decode cX8_init 27 = .ok (.new 16, 3) := by decide +kernel
theorem dX8_init_30 : decode cX8_init 30 = .ok (.dup, 1) := by decide +kernel
theorem dX8_init_31 : decode cX8_init 31 = .ok (.invokespecial 18, 3) := by decide +kernel
theorem dX8_init_34 : decode cX8_init 34 = .ok (.putfield 23, 3) := by decide +kernel
theorem dX8_init_37 : decode cX8_init 37 = .ok (.aload_n 0, 1) := by decide +kernel
theorem dX8_init_38 : decode cX8_init 38 = .ok (.new 26, 3) := by decide +kernel
theorem dX8_init_41 : decode cX8_init 41 = .ok (.dup, 1) := by decide +kernel
theorem dX8_init_42 : decode cX8_init 42 = .ok (.invokespecial 28, 3) := by decide +kernel
theorem dX8_init_45 : decode cX8_init 45 = .ok (.putfield 29, 3) := by decide +kernel
theorem dX8_init_48 : decode cX8_init 48 = .ok (.aload_n 0, 1) := by decide +kernel
theorem dX8_init_49 : decode cX8_init 49 = .ok (.new 33, 3) := by decide +kernel
theorem dX8_init_52 : decode cX8_init 52 = .ok (.dup, 1) := by decide +kernel
theorem dX8_init_53 : decode cX8_init 53 = .ok (.invokespecial 35, 3) := by decide +kernel
theorem dX8_init_56 : decode cX8_init 56 = .ok (.putfield 36, 3) := by decide +kernel
theorem dX8_init_59 : decode cX8_init 59 = .ok (.aload_n 0, 1) := by decide +kernel
theorem dX8_init_60 : decode cX8_init 60 = .ok (.new 40, 3) := by decide +kernel
theorem dX8_init_63 : decode cX8_init 63 = .ok (.dup, 1) := by decide +kernel
theorem dX8_init_64 : decode cX8_init 64 = .ok (.invokespecial 42, 3) := by decide +kernel
theorem dX8_init_67 : decode cX8_init 67 = .ok (.putfield 43, 3) := by decide +kernel
theorem dX8_init_70 : decode cX8_init 70 = .ok (.aload_n 0, 1) := by decide +kernel
theorem dX8_init_71 : decode cX8_init 71 = .ok (.new 47, 3) := by decide +kernel
theorem dX8_init_74 : decode cX8_init 74 = .ok (.dup, 1) := by decide +kernel
theorem dX8_init_75 : decode cX8_init 75 = .ok (.invokespecial 49, 3) := by decide +kernel
theorem dX8_init_78 : decode cX8_init 78 = .ok (.putfield 50, 3) := by decide +kernel
theorem dX8_init_81 : decode cX8_init 81 = .ok (.aload_n 0, 1) := by decide +kernel
theorem dX8_init_82 : decode cX8_init 82 = .ok (.new 54, 3) := by decide +kernel
theorem dX8_init_85 : decode cX8_init 85 = .ok (.dup, 1) := by decide +kernel
theorem dX8_init_86 : decode cX8_init 86 = .ok (.invokespecial 56, 3) := by decide +kernel
theorem dX8_init_89 : decode cX8_init 89 = .ok (.putfield 57, 3) := by decide +kernel
theorem dX8_init_92 : decode cX8_init 92 = .ok (.aload_n 0, 1) := by decide +kernel
theorem dX8_init_93 : decode cX8_init 93 = .ok (.iconst 2, 1) := by decide +kernel
theorem dX8_init_94 : decode cX8_init 94 = .ok (.anewarray 61, 3) := by decide +kernel
theorem dX8_init_97 : decode cX8_init 97 = .ok (.putfield 63, 3) := by decide +kernel
theorem dX8_init_100 : decode cX8_init 100 = .ok (.iconst 0, 1) := by decide +kernel
theorem dX8_init_101 : decode cX8_init 101 = .ok (.istore_n 1, 1) := by decide +kernel
theorem dX8_init_102 : decode cX8_init 102 = .ok (.iload_n 1, 1) := by decide +kernel
theorem dX8_init_103 : decode cX8_init 103 = .ok (.aload_n 0, 1) := by decide +kernel
theorem dX8_init_104 : decode cX8_init 104 = .ok (.getfield 63, 3) := by decide +kernel
theorem dX8_init_107 : decode cX8_init 107 = .ok (.arraylength, 1) := by decide +kernel
theorem dX8_init_108 : decode cX8_init 108 = .ok (.if_icmp .ge 22, 3) := by decide +kernel
theorem dX8_init_111 : decode cX8_init 111 = .ok (.aload_n 0, 1) := by decide +kernel
theorem dX8_init_112 : decode cX8_init 112 = .ok (.getfield 63, 3) := by decide +kernel
theorem dX8_init_115 : decode cX8_init 115 = .ok (.iload_n 1, 1) := by decide +kernel
theorem dX8_init_116 : decode cX8_init 116 = .ok (.new 61, 3) := by decide +kernel
theorem dX8_init_119 : decode cX8_init 119 = .ok (.dup, 1) := by decide +kernel
theorem dX8_init_120 : decode cX8_init 120 = .ok (.invokespecial 67, 3) := by decide +kernel
theorem dX8_init_123 : decode cX8_init 123 = .ok (.aastore, 1) := by decide +kernel
theorem dX8_init_124 : decode cX8_init 124 = .ok (.iinc 1 1, 3) := by decide +kernel
theorem dX8_init_127 : decode cX8_init 127 = .ok (.goto (-25), 3) := by decide +kernel
theorem dX8_init_130 : decode cX8_init 130 = .ok (.return_, 1) := by decide +kernel
theorem dX8_feed_0 : decode cX8_feed 0 = .ok (.iload_n 1, 1) := by decide +kernel
theorem dX8_feed_1 : decode cX8_feed 1 = .ok (.ifCond .lt 10, 3) := by decide +kernel
theorem dX8_feed_4 : decode cX8_feed 4 = .ok (.iload_n 1, 1) := by decide +kernel
theorem dX8_feed_5 : decode cX8_feed 5 = .ok (.sipush 255, 3) := by decide +kernel
theorem dX8_feed_8 : decode cX8_feed 8 = .ok (.if_icmp .le 6, 3) := by decide +kernel
theorem dX8_feed_11 : decode cX8_feed 11 = .ok (.ldc 68, 2) := by decide +kernel
theorem dX8_feed_13 : decode cX8_feed 13 = .ok (.ireturn, 1) := by decide +kernel
theorem dX8_feed_14 : decode cX8_feed 14 = .ok (.aload_n 0, 1) := by decide +kernel
theorem dX8_feed_15 : decode cX8_feed 15 = .ok (.getfield 10, 3) := by decide +kernel
theorem dX8_feed_18 : decode cX8_feed 18 = .ok (.iload_n 1, 1) := by decide +kernel
theorem dX8_feed_19 : decode cX8_feed 19 = .ok (.invokevirtual 69, 3) := by decide +kernel
theorem dX8_feed_22 : decode cX8_feed 22 = .ok (.ireturn, 1) := by decide +kernel
theorem dX8_hostel_0 : decode cX8_hostel 0 = .ok (.aload_n 0, 1) := by decide +kernel
theorem dX8_hostel_1 : decode cX8_hostel 1 = .ok (.getfield 10, 3) := by decide +kernel
theorem dX8_hostel_4 : decode cX8_hostel 4 = .ok (.aload_n 0, 1) := by decide +kernel
theorem dX8_hostel_5 : decode cX8_hostel 5 = .ok (.getfield 23, 3) := by decide +kernel
theorem dX8_hostel_8 : decode cX8_hostel 8 = .ok (.invokevirtual 73, 3) := by decide +kernel
theorem dX8_hostel_11 : decode cX8_hostel 11 = .ok (.istore_n 1, 1) := by decide +kernel
theorem dX8_hostel_12 : decode cX8_hostel 12 = .ok (.iload_n 1, 1) := by decide +kernel
theorem dX8_hostel_13 : decode cX8_hostel 13 = .ok (.ifCond .eq 8, 3) := by decide +kernel
theorem dX8_hostel_16 : decode cX8_hostel 16 = .ok (.bipush (-10), 2) := by decide +kernel
theorem dX8_hostel_18 : decode cX8_hostel 18 = .ok (.iload_n 1, 1) := by decide +kernel
theorem dX8_hostel_19 : decode cX8_hostel 19 = .ok (.isub, 1) := by decide +kernel
theorem dX8_hostel_20 : decode cX8_hostel 20 = .ok (.ireturn, 1) := by decide +kernel
theorem dX8_hostel_21 : decode cX8_hostel 21 = .ok (.aload_n 0, 1) := by decide +kernel
theorem dX8_hostel_22 : decode cX8_hostel 22 = .ok (.getfield 19, 3) := by decide +kernel
theorem dX8_hostel_25 : decode cX8_hostel 25 = .ok (.aload_n 0, 1) := by decide +kernel
theorem dX8_hostel_26 : decode cX8_hostel 26 = .ok (.getfield 23, 3) := by decide +kernel
theorem dX8_hostel_29 : decode cX8_hostel 29 = .ok (.invokevirtual 77, 3) := by decide +kernel
theorem dX8_hostel_32 : decode cX8_hostel 32 = .ok (.aload_n 0, 1) := by decide +kernel
theorem dX8_hostel_33 : decode cX8_hostel 33 = .ok (.getfield 43, 3) := by decide +kernel
theorem dX8_hostel_36 : decode cX8_hostel 36 = .ok (.invokevirtual 81, 3) := by decide +kernel
theorem dX8_hostel_39 : decode cX8_hostel 39 = .ok (.aload_n 0, 1) := by decide +kernel
theorem dX8_hostel_40 : decode cX8_hostel 40 = .ok (.getfield 50, 3) := by decide +kernel
theorem dX8_hostel_43 : decode cX8_hostel 43 = .ok (.invokevirtual 84, 3) := by decide +kernel
theorem dX8_hostel_46 : decode cX8_hostel 46 = .ok (.iconst 0, 1) := by decide +kernel
theorem dX8_hostel_47 : decode cX8_hostel 47 = .ok (.istore_n 2, 1) := by decide +kernel
theorem dX8_hostel_48 : decode cX8_hostel 48 = .ok (.iload_n 2, 1) := by decide +kernel
theorem dX8_hostel_49 : decode cX8_hostel 49 = .ok (.aload_n 0, 1) := by decide +kernel
theorem dX8_hostel_50 : decode cX8_hostel 50 = .ok (.getfield 63, 3) := by decide +kernel
theorem dX8_hostel_53 : decode cX8_hostel 53 = .ok (.arraylength, 1) := by decide +kernel
theorem dX8_hostel_54 : decode cX8_hostel 54 = .ok (.if_icmp .ge 24, 3) := by decide +kernel
theorem dX8_hostel_57 : decode cX8_hostel 57 = .ok (.aload_n 0, 1) := by decide +kernel
theorem dX8_hostel_58 : decode cX8_hostel 58 = .ok (.getfield 63, 3) := by decide +kernel
theorem dX8_hostel_61 : decode cX8_hostel 61 = .ok (.iload_n 2, 1) := by decide +kernel
theorem dX8_hostel_62 : decode cX8_hostel 62 = .ok (.aaload, 1) := by decide +kernel
theorem dX8_hostel_63 : decode cX8_hostel 63 = .ok (.astore_n 3, 1) := by decide +kernel
theorem dX8_hostel_64 : decode cX8_hostel 64 = .ok (.aload_n 3, 1) := by decide +kernel
theorem dX8_hostel_65 : decode cX8_hostel 65 = .ok (.ifnull 7, 3) := by decide +kernel
theorem dX8_hostel_68 : decode cX8_hostel 68 = .ok (.aload_n 3, 1) := by decide +kernel
theorem dX8_hostel_69 : decode cX8_hostel 69 = .ok (.invokevirtual 87, 3) := by decide +kernel
theorem dX8_hostel_72 : decode cX8_hostel 72 = .ok (.iinc 2 1, 3) := by decide +kernel
theorem dX8_hostel_75 : decode cX8_hostel 75 = .ok (.goto (-27), 3) := by decide +kernel
theorem dX8_hostel_78 : decode cX8_hostel 78 = .ok (.aload_n 0, 1) := by decide +kernel
theorem dX8_hostel_79 : decode cX8_hostel 79 = .ok (.getfield 19, 3) := by decide +kernel
theorem dX8_hostel_82 : decode cX8_hostel 82 = .ok (.getfield 90, 3) := by decide +kernel
theorem dX8_hostel_85 : decode cX8_hostel 85 = .ok (.ireturn, 1) := by decide +kernel
theorem dX8_fault_0 : decode cX8_fault 0 = .ok (.aload_n 0, 1) := by decide +kernel
theorem dX8_fault_1 : decode cX8_fault 1 = .ok (.getfield 10, 3) := by decide +kernel
theorem dX8_fault_4 : decode cX8_fault 4 = .ok (.getfield 94, 3) := by decide +kernel
theorem dX8_fault_7 : decode cX8_fault 7 = .ok (.ireturn, 1) := by decide +kernel
theorem dX8_told_0 : decode cX8_told 0 = .ok (.iload_n 1, 1) := by decide +kernel
theorem dX8_told_1 : decode cX8_told 1 = .ok (.tableswitch 163 0 11 #[63, 71, 79, 87, 95, 107, 115, 123, 131, 139, 147, 155], 63) := by decide +kernel
theorem dX8_told_64 : decode cX8_told 64 = .ok (.aload_n 0, 1) := by decide +kernel
theorem dX8_told_65 : decode cX8_told 65 = .ok (.getfield 19, 3) := by decide +kernel
theorem dX8_told_68 : decode cX8_told 68 = .ok (.getfield 97, 3) := by decide +kernel
theorem dX8_told_71 : decode cX8_told 71 = .ok (.ireturn, 1) := by decide +kernel
theorem dX8_told_72 : decode cX8_told 72 = .ok (.aload_n 0, 1) := by decide +kernel
theorem dX8_told_73 : decode cX8_told 73 = .ok (.getfield 19, 3) := by decide +kernel
theorem dX8_told_76 : decode cX8_told 76 = .ok (.getfield 90, 3) := by decide +kernel
theorem dX8_told_79 : decode cX8_told 79 = .ok (.ireturn, 1) := by decide +kernel
theorem dX8_told_80 : decode cX8_told 80 = .ok (.aload_n 0, 1) := by decide +kernel
theorem dX8_told_81 : decode cX8_told 81 = .ok (.getfield 10, 3) := by decide +kernel
theorem dX8_told_84 : decode cX8_told 84 = .ok (.getfield 100, 3) := by decide +kernel
theorem dX8_told_87 : decode cX8_told 87 = .ok (.ireturn, 1) := by decide +kernel
theorem dX8_told_88 : decode cX8_told 88 = .ok (.aload_n 0, 1) := by decide +kernel
theorem dX8_told_89 : decode cX8_told 89 = .ok (.invokevirtual 103, 3) := by decide +kernel
theorem dX8_told_92 : decode cX8_told 92 = .ok (.getfield 107, 3) := by decide +kernel
theorem dX8_told_95 : decode cX8_told 95 = .ok (.ireturn, 1) := by decide +kernel
theorem dX8_told_96 : decode cX8_told 96 = .ok (.aload_n 0, 1) := by decide +kernel
theorem dX8_told_97 : decode cX8_told 97 = .ok (.invokevirtual 103, 3) := by decide +kernel
theorem dX8_told_100 : decode cX8_told 100 = .ok (.aload_n 0, 1) := by decide +kernel
theorem dX8_told_101 : decode cX8_told 101 = .ok (.getfield 19, 3) := by decide +kernel
theorem dX8_told_104 : decode cX8_told 104 = .ok (.invokevirtual 110, 3) := by decide +kernel
theorem dX8_told_107 : decode cX8_told 107 = .ok (.ireturn, 1) := by decide +kernel
theorem dX8_told_108 : decode cX8_told 108 = .ok (.aload_n 0, 1) := by decide +kernel
theorem dX8_told_109 : decode cX8_told 109 = .ok (.invokevirtual 103, 3) := by decide +kernel
theorem dX8_told_112 : decode cX8_told 112 = .ok (.getfield 113, 3) := by decide +kernel
theorem dX8_told_115 : decode cX8_told 115 = .ok (.ireturn, 1) := by decide +kernel
theorem dX8_told_116 : decode cX8_told 116 = .ok (.aload_n 0, 1) := by decide +kernel
theorem dX8_told_117 : decode cX8_told 117 = .ok (.getfield 19, 3) := by decide +kernel
theorem dX8_told_120 : decode cX8_told 120 = .ok (.invokevirtual 116, 3) := by decide +kernel
theorem dX8_told_123 : decode cX8_told 123 = .ok (.ireturn, 1) := by decide +kernel
theorem dX8_told_124 : decode cX8_told 124 = .ok (.aload_n 0, 1) := by decide +kernel
theorem dX8_told_125 : decode cX8_told 125 = .ok (.invokevirtual 120, 3) := by decide +kernel
theorem dX8_told_128 : decode cX8_told 128 = .ok (.getfield 124, 3) := by decide +kernel
theorem dX8_told_131 : decode cX8_told 131 = .ok (.ireturn, 1) := by decide +kernel
theorem dX8_told_132 : decode cX8_told 132 = .ok (.aload_n 0, 1) := by decide +kernel
theorem dX8_told_133 : decode cX8_told 133 = .ok (.invokevirtual 120, 3) := by decide +kernel
theorem dX8_told_136 : decode cX8_told 136 = .ok (.getfield 127, 3) := by decide +kernel
theorem dX8_told_139 : decode cX8_told 139 = .ok (.ireturn, 1) := by decide +kernel
theorem dX8_told_140 : decode cX8_told 140 = .ok (.aload_n 0, 1) := by decide +kernel
theorem dX8_told_141 : decode cX8_told 141 = .ok (.getfield 50, 3) := by decide +kernel
theorem dX8_told_144 : decode cX8_told 144 = .ok (.getfield 130, 3) := by decide +kernel
theorem dX8_told_147 : decode cX8_told 147 = .ok (.ireturn, 1) := by decide +kernel
theorem dX8_told_148 : decode cX8_told 148 = .ok (.aload_n 0, 1) := by decide +kernel
theorem dX8_told_149 : decode cX8_told 149 = .ok (.getfield 50, 3) := by decide +kernel
theorem dX8_told_152 : decode cX8_told 152 = .ok (.getfield 133, 3) := by decide +kernel
theorem dX8_told_155 : decode cX8_told 155 = .ok (.ireturn, 1) := by decide +kernel
theorem dX8_told_156 : decode cX8_told 156 = .ok (.aload_n 0, 1) := by decide +kernel
theorem dX8_told_157 : decode cX8_told 157 = .ok (.getfield 43, 3) := by decide +kernel
theorem dX8_told_160 : decode cX8_told 160 = .ok (.getfield 136, 3) := by decide +kernel
theorem dX8_told_163 : decode cX8_told 163 = .ok (.ireturn, 1) := by decide +kernel
theorem dX8_told_164 : decode cX8_told 164 = .ok (.ldc 68, 2) := by decide +kernel
theorem dX8_told_166 : decode cX8_told 166 = .ok (.ireturn, 1) := by decide +kernel
theorem dX8_person_0 : decode cX8_person 0 = .ok (.aload_n 0, 1) := by decide +kernel
theorem dX8_person_1 : decode cX8_person 1 = .ok (.getfield 19, 3) := by decide +kernel
theorem dX8_person_4 : decode cX8_person 4 = .ok (.iload_n 1, 1) := by decide +kernel
theorem dX8_person_5 : decode cX8_person 5 = .ok (.invokevirtual 139, 3) := by decide +kernel
theorem dX8_person_8 : decode cX8_person 8 = .ok (.ifCond .ne 6, 3) := by decide +kernel
theorem dX8_person_11 : decode cX8_person 11 = .ok (.ldc 143, 2) := by decide +kernel
theorem dX8_person_13 : decode cX8_person 13 = .ok (.ireturn, 1) := by decide +kernel
theorem dX8_person_14 : decode cX8_person 14 = .ok (.iload_n 2, 1) := by decide +kernel
theorem dX8_person_15 : decode cX8_person 15 = .ok (.tableswitch 122 0 7 #[45, 54, 63, 72, 81, 90, 99, 105], 45) := by decide +kernel
theorem dX8_person_60 : decode cX8_person 60 = .ok (.aload_n 0, 1) := by decide +kernel
theorem dX8_person_61 : decode cX8_person 61 = .ok (.getfield 19, 3) := by decide +kernel
theorem dX8_person_64 : decode cX8_person 64 = .ok (.iload_n 1, 1) := by decide +kernel
theorem dX8_person_65 : decode cX8_person 65 = .ok (.invokevirtual 144, 3) := by decide +kernel
theorem dX8_person_68 : decode cX8_person 68 = .ok (.ireturn, 1) := by decide +kernel
theorem dX8_person_69 : decode cX8_person 69 = .ok (.aload_n 0, 1) := by decide +kernel
theorem dX8_person_70 : decode cX8_person 70 = .ok (.getfield 19, 3) := by decide +kernel
theorem dX8_person_73 : decode cX8_person 73 = .ok (.iload_n 1, 1) := by decide +kernel
theorem dX8_person_74 : decode cX8_person 74 = .ok (.invokevirtual 147, 3) := by decide +kernel
theorem dX8_person_77 : decode cX8_person 77 = .ok (.ireturn, 1) := by decide +kernel
theorem dX8_person_78 : decode cX8_person 78 = .ok (.aload_n 0, 1) := by decide +kernel
theorem dX8_person_79 : decode cX8_person 79 = .ok (.getfield 19, 3) := by decide +kernel
theorem dX8_person_82 : decode cX8_person 82 = .ok (.iload_n 1, 1) := by decide +kernel
theorem dX8_person_83 : decode cX8_person 83 = .ok (.invokevirtual 150, 3) := by decide +kernel
theorem dX8_person_86 : decode cX8_person 86 = .ok (.ireturn, 1) := by decide +kernel
theorem dX8_person_87 : decode cX8_person 87 = .ok (.aload_n 0, 1) := by decide +kernel
theorem dX8_person_88 : decode cX8_person 88 = .ok (.invokevirtual 103, 3) := by decide +kernel
theorem dX8_person_91 : decode cX8_person 91 = .ok (.iload_n 1, 1) := by decide +kernel
theorem dX8_person_92 : decode cX8_person 92 = .ok (.invokevirtual 153, 3) := by decide +kernel
theorem dX8_person_95 : decode cX8_person 95 = .ok (.ireturn, 1) := by decide +kernel
theorem dX8_person_96 : decode cX8_person 96 = .ok (.aload_n 0, 1) := by decide +kernel
theorem dX8_person_97 : decode cX8_person 97 = .ok (.invokevirtual 103, 3) := by decide +kernel
theorem dX8_person_100 : decode cX8_person 100 = .ok (.iload_n 1, 1) := by decide +kernel
theorem dX8_person_101 : decode cX8_person 101 = .ok (.invokevirtual 156, 3) := by decide +kernel
theorem dX8_person_104 : decode cX8_person 104 = .ok (.ireturn, 1) := by decide +kernel
theorem dX8_person_105 : decode cX8_person 105 = .ok (.aload_n 0, 1) := by decide +kernel
theorem dX8_person_106 : decode cX8_person 106 = .ok (.invokevirtual 103, 3) := by decide +kernel
theorem dX8_person_109 : decode cX8_person 109 = .ok (.iload_n 1, 1) := by decide +kernel
theorem dX8_person_110 : decode cX8_person 110 = .ok (.invokevirtual 159, 3) := by decide +kernel
theorem dX8_person_113 : decode cX8_person 113 = .ok (.ireturn, 1) := by decide +kernel
theorem dX8_person_114 : decode cX8_person 114 = .ok (.aload_n 0, 1) := by decide +kernel
theorem dX8_person_115 : decode cX8_person 115 = .ok (.iload_n 1, 1) := by decide +kernel
theorem dX8_person_116 : decode cX8_person 116 = .ok (.invokevirtual 162, 3) := by decide +kernel
theorem dX8_person_119 : decode cX8_person 119 = .ok (.ireturn, 1) := by decide +kernel
theorem dX8_person_120 : decode cX8_person 120 = .ok (.aload_n 0, 1) := by decide +kernel
theorem dX8_person_121 : decode cX8_person 121 = .ok (.getfield 19, 3) := by decide +kernel
theorem dX8_person_124 : decode cX8_person 124 = .ok (.iload_n 1, 1) := by decide +kernel
theorem dX8_person_125 : decode cX8_person 125 = .ok (.aload_n 0, 1) := by decide +kernel
theorem dX8_person_126 : decode cX8_person 126 = .ok (.invokevirtual 103, 3) := by decide +kernel
theorem dX8_person_129 : decode cX8_person 129 = .ok (.iload_n 1, 1) := by decide +kernel
theorem dX8_person_130 : decode cX8_person 130 = .ok (.invokevirtual 153, 3) := by decide +kernel
end
section
theorem dX8_person_133 : decode cX8_person 133 = .ok (.invokevirtual 165, 3) := by decide +kernel
theorem dX8_person_136 : decode cX8_person 136 = .ok (.ireturn, 1) := by decide +kernel
theorem dX8_person_137 : decode cX8_person 137 = .ok (.ldc 68, 2) := by decide +kernel
theorem dX8_person_139 : decode cX8_person 139 = .ok (.ireturn, 1) := by decide +kernel
theorem dX8_likes_0 : decode cX8_likes 0 = .ok (.aload_n 0, 1) := by decide +kernel
theorem dX8_likes_1 : decode cX8_likes 1 = .ok (.getfield 19, 3) := by decide +kernel
theorem dX8_likes_4 : decode cX8_likes 4 = .ok (.iload_n 1, 1) := by decide +kernel
theorem dX8_likes_5 : decode cX8_likes 5 = .ok (.invokevirtual 139, 3) := by decide +kernel
theorem dX8_likes_8 : decode cX8_likes 8 = .ok (.ifCond .ne 6, 3) := by decide +kernel
theorem dX8_likes_11 : decode cX8_likes 11 = .ok (.ldc 143, 2) := by decide +kernel
theorem dX8_likes_13 : decode cX8_likes 13 = .ok (.ireturn, 1) := by decide +kernel
theorem dX8_likes_14 : decode cX8_likes 14 = .ok (.aload_n 0, 1) := by decide +kernel
theorem dX8_likes_15 : decode cX8_likes 15 = .ok (.getfield 19, 3) := by decide +kernel
theorem dX8_likes_18 : decode cX8_likes 18 = .ok (.iload_n 1, 1) := by decide +kernel
theorem dX8_likes_19 : decode cX8_likes 19 = .ok (.iload_n 2, 1) := by decide +kernel
theorem dX8_likes_20 : decode cX8_likes 20 = .ok (.invokevirtual 169, 3) := by decide +kernel
theorem dX8_likes_23 : decode cX8_likes 23 = .ok (.ireturn, 1) := by decide +kernel
theorem dX8_room_0 : decode cX8_room 0 = .ok (.aload_n 0, 1) := by decide +kernel
theorem dX8_room_1 : decode cX8_room 1 = .ok (.getfield 19, 3) := by decide +kernel
theorem dX8_room_4 : decode cX8_room 4 = .ok (.iload_n 1, 1) := by decide +kernel
theorem dX8_room_5 : decode cX8_room 5 = .ok (.invokevirtual 172, 3) := by decide +kernel
theorem dX8_room_8 : decode cX8_room 8 = .ok (.ifCond .ne 6, 3) := by decide +kernel
theorem dX8_room_11 : decode cX8_room 11 = .ok (.ldc 143, 2) := by decide +kernel
theorem dX8_room_13 : decode cX8_room 13 = .ok (.ireturn, 1) := by decide +kernel
theorem dX8_room_14 : decode cX8_room 14 = .ok (.iload_n 2, 1) := by decide +kernel
theorem dX8_room_15 : decode cX8_room 15 = .ok (.lookupswitch 47 #[(0, 25), (1, 34)], 25) := by decide +kernel
theorem dX8_room_40 : decode cX8_room 40 = .ok (.aload_n 0, 1) := by decide +kernel
theorem dX8_room_41 : decode cX8_room 41 = .ok (.getfield 19, 3) := by decide +kernel
theorem dX8_room_44 : decode cX8_room 44 = .ok (.iload_n 1, 1) := by decide +kernel
theorem dX8_room_45 : decode cX8_room 45 = .ok (.invokevirtual 175, 3) := by decide +kernel
theorem dX8_room_48 : decode cX8_room 48 = .ok (.ireturn, 1) := by decide +kernel
theorem dX8_room_49 : decode cX8_room 49 = .ok (.aload_n 0, 1) := by decide +kernel
theorem dX8_room_50 : decode cX8_room 50 = .ok (.invokevirtual 103, 3) := by decide +kernel
theorem dX8_room_53 : decode cX8_room 53 = .ok (.aload_n 0, 1) := by decide +kernel
theorem dX8_room_54 : decode cX8_room 54 = .ok (.getfield 19, 3) := by decide +kernel
theorem dX8_room_57 : decode cX8_room 57 = .ok (.iload_n 1, 1) := by decide +kernel
theorem dX8_room_58 : decode cX8_room 58 = .ok (.invokevirtual 178, 3) := by decide +kernel
theorem dX8_room_61 : decode cX8_room 61 = .ok (.ireturn, 1) := by decide +kernel
theorem dX8_room_62 : decode cX8_room 62 = .ok (.ldc 68, 2) := by decide +kernel
theorem dX8_room_64 : decode cX8_room 64 = .ok (.ireturn, 1) := by decide +kernel
theorem dX8_like_0 : decode cX8_like 0 = .ok (.aload_n 0, 1) := by decide +kernel
theorem dX8_like_1 : decode cX8_like 1 = .ok (.getfield 19, 3) := by decide +kernel
theorem dX8_like_4 : decode cX8_like 4 = .ok (.iload_n 1, 1) := by decide +kernel
theorem dX8_like_5 : decode cX8_like 5 = .ok (.invokevirtual 139, 3) := by decide +kernel
theorem dX8_like_8 : decode cX8_like 8 = .ok (.ifCond .eq 14, 3) := by decide +kernel
theorem dX8_like_11 : decode cX8_like 11 = .ok (.aload_n 0, 1) := by decide +kernel
theorem dX8_like_12 : decode cX8_like 12 = .ok (.getfield 19, 3) := by decide +kernel
theorem dX8_like_15 : decode cX8_like 15 = .ok (.iload_n 2, 1) := by decide +kernel
theorem dX8_like_16 : decode cX8_like 16 = .ok (.invokevirtual 172, 3) := by decide +kernel
theorem dX8_like_19 : decode cX8_like 19 = .ok (.ifCond .ne 6, 3) := by decide +kernel
theorem dX8_like_22 : decode cX8_like 22 = .ok (.ldc 143, 2) := by decide +kernel
theorem dX8_like_24 : decode cX8_like 24 = .ok (.ireturn, 1) := by decide +kernel
theorem dX8_like_25 : decode cX8_like 25 = .ok (.iload_n 3, 1) := by decide +kernel
theorem dX8_like_26 : decode cX8_like 26 = .ok (.ifCond .lt 9, 3) := by decide +kernel
theorem dX8_like_29 : decode cX8_like 29 = .ok (.iload_n 3, 1) := by decide +kernel
theorem dX8_like_30 : decode cX8_like 30 = .ok (.bipush 8, 2) := by decide +kernel
theorem dX8_like_32 : decode cX8_like 32 = .ok (.if_icmp .lt 6, 3) := by decide +kernel
theorem dX8_like_35 : decode cX8_like 35 = .ok (.ldc 68, 2) := by decide +kernel
theorem dX8_like_37 : decode cX8_like 37 = .ok (.ireturn, 1) := by decide +kernel
theorem dX8_like_38 : decode cX8_like 38 = .ok (.aload_n 0, 1) := by decide +kernel
theorem dX8_like_39 : decode cX8_like 39 = .ok (.getfield 43, 3) := by decide +kernel
theorem dX8_like_42 : decode cX8_like 42 = .ok (.aload_n 0, 1) := by decide +kernel
theorem dX8_like_43 : decode cX8_like 43 = .ok (.getfield 19, 3) := by decide +kernel
theorem dX8_like_46 : decode cX8_like 46 = .ok (.invokevirtual 182, 3) := by decide +kernel
theorem dX8_like_49 : decode cX8_like 49 = .ok (.aload_n 0, 1) := by decide +kernel
theorem dX8_like_50 : decode cX8_like 50 = .ok (.getfield 19, 3) := by decide +kernel
theorem dX8_like_53 : decode cX8_like 53 = .ok (.iload_n 1, 1) := by decide +kernel
theorem dX8_like_54 : decode cX8_like 54 = .ok (.iload_n 2, 1) := by decide +kernel
theorem dX8_like_55 : decode cX8_like 55 = .ok (.iload_n 3, 1) := by decide +kernel
theorem dX8_like_56 : decode cX8_like 56 = .ok (.invokevirtual 185, 3) := by decide +kernel
theorem dX8_like_59 : decode cX8_like 59 = .ok (.aload_n 0, 1) := by decide +kernel
theorem dX8_like_60 : decode cX8_like 60 = .ok (.getfield 19, 3) := by decide +kernel
theorem dX8_like_63 : decode cX8_like 63 = .ok (.iload_n 1, 1) := by decide +kernel
theorem dX8_like_64 : decode cX8_like 64 = .ok (.invokevirtual 147, 3) := by decide +kernel
theorem dX8_like_67 : decode cX8_like 67 = .ok (.ireturn, 1) := by decide +kernel
theorem dX8_strike_0 : decode cX8_strike 0 = .ok (.aload_n 0, 1) := by decide +kernel
theorem dX8_strike_1 : decode cX8_strike 1 = .ok (.getfield 19, 3) := by decide +kernel
theorem dX8_strike_4 : decode cX8_strike 4 = .ok (.iload_n 1, 1) := by decide +kernel
theorem dX8_strike_5 : decode cX8_strike 5 = .ok (.invokevirtual 139, 3) := by decide +kernel
theorem dX8_strike_8 : decode cX8_strike 8 = .ok (.ifCond .eq 14, 3) := by decide +kernel
theorem dX8_strike_11 : decode cX8_strike 11 = .ok (.aload_n 0, 1) := by decide +kernel
theorem dX8_strike_12 : decode cX8_strike 12 = .ok (.getfield 19, 3) := by decide +kernel
theorem dX8_strike_15 : decode cX8_strike 15 = .ok (.iload_n 2, 1) := by decide +kernel
theorem dX8_strike_16 : decode cX8_strike 16 = .ok (.invokevirtual 172, 3) := by decide +kernel
theorem dX8_strike_19 : decode cX8_strike 19 = .ok (.ifCond .ne 6, 3) := by decide +kernel
theorem dX8_strike_22 : decode cX8_strike 22 = .ok (.ldc 143, 2) := by decide +kernel
theorem dX8_strike_24 : decode cX8_strike 24 = .ok (.ireturn, 1) := by decide +kernel
theorem dX8_strike_25 : decode cX8_strike 25 = .ok (.aload_n 0, 1) := by decide +kernel
theorem dX8_strike_26 : decode cX8_strike 26 = .ok (.getfield 19, 3) := by decide +kernel
theorem dX8_strike_29 : decode cX8_strike 29 = .ok (.iload_n 1, 1) := by decide +kernel
theorem dX8_strike_30 : decode cX8_strike 30 = .ok (.iload_n 2, 1) := by decide +kernel
theorem dX8_strike_31 : decode cX8_strike 31 = .ok (.invokevirtual 189, 3) := by decide +kernel
theorem dX8_strike_34 : decode cX8_strike 34 = .ok (.iconst (-1), 1) := by decide +kernel
theorem dX8_strike_35 : decode cX8_strike 35 = .ok (.if_icmp .ne 6, 3) := by decide +kernel
theorem dX8_strike_38 : decode cX8_strike 38 = .ok (.ldc 192, 2) := by decide +kernel
theorem dX8_strike_40 : decode cX8_strike 40 = .ok (.ireturn, 1) := by decide +kernel
theorem dX8_strike_41 : decode cX8_strike 41 = .ok (.aload_n 0, 1) := by decide +kernel
theorem dX8_strike_42 : decode cX8_strike 42 = .ok (.getfield 43, 3) := by decide +kernel
theorem dX8_strike_45 : decode cX8_strike 45 = .ok (.aload_n 0, 1) := by decide +kernel
theorem dX8_strike_46 : decode cX8_strike 46 = .ok (.getfield 19, 3) := by decide +kernel
theorem dX8_strike_49 : decode cX8_strike 49 = .ok (.invokevirtual 182, 3) := by decide +kernel
theorem dX8_strike_52 : decode cX8_strike 52 = .ok (.aload_n 0, 1) := by decide +kernel
theorem dX8_strike_53 : decode cX8_strike 53 = .ok (.getfield 19, 3) := by decide +kernel
theorem dX8_strike_56 : decode cX8_strike 56 = .ok (.iload_n 1, 1) := by decide +kernel
theorem dX8_strike_57 : decode cX8_strike 57 = .ok (.iload_n 2, 1) := by decide +kernel
theorem dX8_strike_58 : decode cX8_strike 58 = .ok (.invokevirtual 193, 3) := by decide +kernel
theorem dX8_strike_61 : decode cX8_strike 61 = .ok (.aload_n 0, 1) := by decide +kernel
theorem dX8_strike_62 : decode cX8_strike 62 = .ok (.getfield 19, 3) := by decide +kernel
theorem dX8_strike_65 : decode cX8_strike 65 = .ok (.iload_n 1, 1) := by decide +kernel
theorem dX8_strike_66 : decode cX8_strike 66 = .ok (.invokevirtual 147, 3) := by decide +kernel
theorem dX8_strike_69 : decode cX8_strike 69 = .ok (.ireturn, 1) := by decide +kernel
theorem dX8_lot_0 : decode cX8_lot 0 = .ok (.aload_n 0, 1) := by decide +kernel
theorem dX8_lot_1 : decode cX8_lot 1 = .ok (.getfield 19, 3) := by decide +kernel
theorem dX8_lot_4 : decode cX8_lot 4 = .ok (.iload_n 1, 1) := by decide +kernel
theorem dX8_lot_5 : decode cX8_lot 5 = .ok (.invokevirtual 139, 3) := by decide +kernel
theorem dX8_lot_8 : decode cX8_lot 8 = .ok (.ifCond .ne 6, 3) := by decide +kernel
theorem dX8_lot_11 : decode cX8_lot 11 = .ok (.ldc 143, 2) := by decide +kernel
theorem dX8_lot_13 : decode cX8_lot 13 = .ok (.ireturn, 1) := by decide +kernel
theorem dX8_lot_14 : decode cX8_lot 14 = .ok (.iload_n 2, 1) := by decide +kernel
theorem dX8_lot_15 : decode cX8_lot 15 = .ok (.ifCond .lt 14, 3) := by decide +kernel
theorem dX8_lot_18 : decode cX8_lot 18 = .ok (.iload_n 2, 1) := by decide +kernel
theorem dX8_lot_19 : decode cX8_lot 19 = .ok (.aload_n 0, 1) := by decide +kernel
theorem dX8_lot_20 : decode cX8_lot 20 = .ok (.getfield 19, 3) := by decide +kernel
theorem dX8_lot_23 : decode cX8_lot 23 = .ok (.getfield 90, 3) := by decide +kernel
theorem dX8_lot_26 : decode cX8_lot 26 = .ok (.if_icmp .lt 6, 3) := by decide +kernel
theorem dX8_lot_29 : decode cX8_lot 29 = .ok (.ldc 68, 2) := by decide +kernel
theorem dX8_lot_31 : decode cX8_lot 31 = .ok (.ireturn, 1) := by decide +kernel
theorem dX8_lot_32 : decode cX8_lot 32 = .ok (.aload_n 0, 1) := by decide +kernel
theorem dX8_lot_33 : decode cX8_lot 33 = .ok (.getfield 19, 3) := by decide +kernel
theorem dX8_lot_36 : decode cX8_lot 36 = .ok (.iload_n 1, 1) := by decide +kernel
theorem dX8_lot_37 : decode cX8_lot 37 = .ok (.invokevirtual 150, 3) := by decide +kernel
theorem dX8_lot_40 : decode cX8_lot 40 = .ok (.istore_n 3, 1) := by decide +kernel
theorem dX8_lot_41 : decode cX8_lot 41 = .ok (.aload_n 0, 1) := by decide +kernel
theorem dX8_lot_42 : decode cX8_lot 42 = .ok (.getfield 43, 3) := by decide +kernel
theorem dX8_lot_45 : decode cX8_lot 45 = .ok (.aload_n 0, 1) := by decide +kernel
theorem dX8_lot_46 : decode cX8_lot 46 = .ok (.getfield 19, 3) := by decide +kernel
theorem dX8_lot_49 : decode cX8_lot 49 = .ok (.invokevirtual 182, 3) := by decide +kernel
theorem dX8_lot_52 : decode cX8_lot 52 = .ok (.aload_n 0, 1) := by decide +kernel
theorem dX8_lot_53 : decode cX8_lot 53 = .ok (.getfield 19, 3) := by decide +kernel
theorem dX8_lot_56 : decode cX8_lot 56 = .ok (.iload_n 1, 1) := by decide +kernel
theorem dX8_lot_57 : decode cX8_lot 57 = .ok (.iload_n 2, 1) := by decide +kernel
theorem dX8_lot_58 : decode cX8_lot 58 = .ok (.invokevirtual 197, 3) := by decide +kernel
theorem dX8_lot_61 : decode cX8_lot 61 = .ok (.iload_n 3, 1) := by decide +kernel
theorem dX8_lot_62 : decode cX8_lot 62 = .ok (.ireturn, 1) := by decide +kernel
theorem dX8_refuse_0 : decode cX8_refuse 0 = .ok (.aload_n 0, 1) := by decide +kernel
theorem dX8_refuse_1 : decode cX8_refuse 1 = .ok (.getfield 19, 3) := by decide +kernel
theorem dX8_refuse_4 : decode cX8_refuse 4 = .ok (.iload_n 1, 1) := by decide +kernel
theorem dX8_refuse_5 : decode cX8_refuse 5 = .ok (.invokevirtual 139, 3) := by decide +kernel
theorem dX8_refuse_8 : decode cX8_refuse 8 = .ok (.ifCond .ne 6, 3) := by decide +kernel
theorem dX8_refuse_11 : decode cX8_refuse 11 = .ok (.ldc 143, 2) := by decide +kernel
theorem dX8_refuse_13 : decode cX8_refuse 13 = .ok (.ireturn, 1) := by decide +kernel
theorem dX8_refuse_14 : decode cX8_refuse 14 = .ok (.aload_n 0, 1) := by decide +kernel
theorem dX8_refuse_15 : decode cX8_refuse 15 = .ok (.invokevirtual 103, 3) := by decide +kernel
theorem dX8_refuse_18 : decode cX8_refuse 18 = .ok (.iload_n 1, 1) := by decide +kernel
theorem dX8_refuse_19 : decode cX8_refuse 19 = .ok (.invokevirtual 153, 3) := by decide +kernel
theorem dX8_refuse_22 : decode cX8_refuse 22 = .ok (.istore_n 2, 1) := by decide +kernel
theorem dX8_refuse_23 : decode cX8_refuse 23 = .ok (.iload_n 2, 1) := by decide +kernel
theorem dX8_refuse_24 : decode cX8_refuse 24 = .ok (.iconst (-1), 1) := by decide +kernel
theorem dX8_refuse_25 : decode cX8_refuse 25 = .ok (.if_icmp .eq 15, 3) := by decide +kernel
theorem dX8_refuse_28 : decode cX8_refuse 28 = .ok (.iload_n 2, 1) := by decide +kernel
theorem dX8_refuse_29 : decode cX8_refuse 29 = .ok (.aload_n 0, 1) := by decide +kernel
theorem dX8_refuse_30 : decode cX8_refuse 30 = .ok (.getfield 19, 3) := by decide +kernel
theorem dX8_refuse_33 : decode cX8_refuse 33 = .ok (.iload_n 1, 1) := by decide +kernel
theorem dX8_refuse_34 : decode cX8_refuse 34 = .ok (.invokevirtual 144, 3) := by decide +kernel
theorem dX8_refuse_37 : decode cX8_refuse 37 = .ok (.if_icmp .ne 6, 3) := by decide +kernel
theorem dX8_refuse_40 : decode cX8_refuse 40 = .ok (.ldc 192, 2) := by decide +kernel
theorem dX8_refuse_42 : decode cX8_refuse 42 = .ok (.ireturn, 1) := by decide +kernel
theorem dX8_refuse_43 : decode cX8_refuse 43 = .ok (.aload_n 0, 1) := by decide +kernel
theorem dX8_refuse_44 : decode cX8_refuse 44 = .ok (.getfield 43, 3) := by decide +kernel
theorem dX8_refuse_47 : decode cX8_refuse 47 = .ok (.aload_n 0, 1) := by decide +kernel
theorem dX8_refuse_48 : decode cX8_refuse 48 = .ok (.getfield 19, 3) := by decide +kernel
theorem dX8_refuse_51 : decode cX8_refuse 51 = .ok (.invokevirtual 182, 3) := by decide +kernel
theorem dX8_refuse_54 : decode cX8_refuse 54 = .ok (.aload_n 0, 1) := by decide +kernel
theorem dX8_refuse_55 : decode cX8_refuse 55 = .ok (.getfield 19, 3) := by decide +kernel
theorem dX8_refuse_58 : decode cX8_refuse 58 = .ok (.iload_n 1, 1) := by decide +kernel
theorem dX8_refuse_59 : decode cX8_refuse 59 = .ok (.iload_n 2, 1) := by decide +kernel
theorem dX8_refuse_60 : decode cX8_refuse 60 = .ok (.invokevirtual 193, 3) := by decide +kernel
theorem dX8_refuse_63 : decode cX8_refuse 63 = .ok (.aload_n 0, 1) := by decide +kernel
theorem dX8_refuse_64 : decode cX8_refuse 64 = .ok (.invokevirtual 103, 3) := by decide +kernel
theorem dX8_refuse_67 : decode cX8_refuse 67 = .ok (.iload_n 1, 1) := by decide +kernel
theorem dX8_refuse_68 : decode cX8_refuse 68 = .ok (.invokevirtual 153, 3) := by decide +kernel
theorem dX8_refuse_71 : decode cX8_refuse 71 = .ok (.ireturn, 1) := by decide +kernel
theorem dX8_moved_0 : decode cX8_moved 0 = .ok (.aload_n 0, 1) := by decide +kernel
theorem dX8_moved_1 : decode cX8_moved 1 = .ok (.getfield 19, 3) := by decide +kernel
theorem dX8_moved_4 : decode cX8_moved 4 = .ok (.getfield 90, 3) := by decide +kernel
theorem dX8_moved_7 : decode cX8_moved 7 = .ok (.ifCond .ne 6, 3) := by decide +kernel
theorem dX8_moved_10 : decode cX8_moved 10 = .ok (.ldc 192, 2) := by decide +kernel
theorem dX8_moved_12 : decode cX8_moved 12 = .ok (.ireturn, 1) := by decide +kernel
theorem dX8_moved_13 : decode cX8_moved 13 = .ok (.aload_n 0, 1) := by decide +kernel
theorem dX8_moved_14 : decode cX8_moved 14 = .ok (.getfield 43, 3) := by decide +kernel
theorem dX8_moved_17 : decode cX8_moved 17 = .ok (.aload_n 0, 1) := by decide +kernel
theorem dX8_moved_18 : decode cX8_moved 18 = .ok (.getfield 19, 3) := by decide +kernel
theorem dX8_moved_21 : decode cX8_moved 21 = .ok (.invokevirtual 182, 3) := by decide +kernel
theorem dX8_moved_24 : decode cX8_moved 24 = .ok (.aload_n 0, 1) := by decide +kernel
theorem dX8_moved_25 : decode cX8_moved 25 = .ok (.invokevirtual 200, 3) := by decide +kernel
theorem dX8_moved_28 : decode cX8_moved 28 = .ok (.ireturn, 1) := by decide +kernel
theorem dX8_leave_0 : decode cX8_leave 0 = .ok (.aload_n 0, 1) := by decide +kernel
theorem dX8_leave_1 : decode cX8_leave 1 = .ok (.getfield 19, 3) := by decide +kernel
theorem dX8_leave_4 : decode cX8_leave 4 = .ok (.iload_n 1, 1) := by decide +kernel
theorem dX8_leave_5 : decode cX8_leave 5 = .ok (.invokevirtual 139, 3) := by decide +kernel
theorem dX8_leave_8 : decode cX8_leave 8 = .ok (.ifCond .ne 6, 3) := by decide +kernel
theorem dX8_leave_11 : decode cX8_leave 11 = .ok (.ldc 143, 2) := by decide +kernel
theorem dX8_leave_13 : decode cX8_leave 13 = .ok (.ireturn, 1) := by decide +kernel
theorem dX8_leave_14 : decode cX8_leave 14 = .ok (.aload_n 0, 1) := by decide +kernel
theorem dX8_leave_15 : decode cX8_leave 15 = .ok (.getfield 19, 3) := by decide +kernel
theorem dX8_leave_18 : decode cX8_leave 18 = .ok (.iload_n 1, 1) := by decide +kernel
theorem dX8_leave_19 : decode cX8_leave 19 = .ok (.invokevirtual 144, 3) := by decide +kernel
theorem dX8_leave_22 : decode cX8_leave 22 = .ok (.istore_n 2, 1) := by decide +kernel
theorem dX8_leave_23 : decode cX8_leave 23 = .ok (.iload_n 2, 1) := by decide +kernel
theorem dX8_leave_24 : decode cX8_leave 24 = .ok (.iconst (-1), 1) := by decide +kernel
theorem dX8_leave_25 : decode cX8_leave 25 = .ok (.if_icmp .ne 6, 3) := by decide +kernel
theorem dX8_leave_28 : decode cX8_leave 28 = .ok (.ldc 192, 2) := by decide +kernel
theorem dX8_leave_30 : decode cX8_leave 30 = .ok (.ireturn, 1) := by decide +kernel
theorem dX8_leave_31 : decode cX8_leave 31 = .ok (.aload_n 0, 1) := by decide +kernel
theorem dX8_leave_32 : decode cX8_leave 32 = .ok (.getfield 43, 3) := by decide +kernel
theorem dX8_leave_35 : decode cX8_leave 35 = .ok (.aload_n 0, 1) := by decide +kernel
theorem dX8_leave_36 : decode cX8_leave 36 = .ok (.getfield 19, 3) := by decide +kernel
theorem dX8_leave_39 : decode cX8_leave 39 = .ok (.invokevirtual 182, 3) := by decide +kernel
theorem dX8_leave_42 : decode cX8_leave 42 = .ok (.aload_n 0, 1) := by decide +kernel
theorem dX8_leave_43 : decode cX8_leave 43 = .ok (.getfield 19, 3) := by decide +kernel
theorem dX8_leave_46 : decode cX8_leave 46 = .ok (.iload_n 1, 1) := by decide +kernel
theorem dX8_leave_47 : decode cX8_leave 47 = .ok (.iconst (-1), 1) := by decide +kernel
theorem dX8_leave_48 : decode cX8_leave 48 = .ok (.invokevirtual 203, 3) := by decide +kernel
theorem dX8_leave_51 : decode cX8_leave 51 = .ok (.iload_n 2, 1) := by decide +kernel
theorem dX8_leave_52 : decode cX8_leave 52 = .ok (.ireturn, 1) := by decide +kernel
theorem dX8_drift_0 : decode cX8_drift 0 = .ok (.iload_n 1, 1) := by decide +kernel
theorem dX8_drift_1 : decode cX8_drift 1 = .ok (.iconst 1, 1) := by decide +kernel
theorem dX8_drift_2 : decode cX8_drift 2 = .ok (.if_icmp .lt 9, 3) := by decide +kernel
theorem dX8_drift_5 : decode cX8_drift 5 = .ok (.iload_n 1, 1) := by decide +kernel
theorem dX8_drift_6 : decode cX8_drift 6 = .ok (.bipush 20, 2) := by decide +kernel
theorem dX8_drift_8 : decode cX8_drift 8 = .ok (.if_icmp .le 6, 3) := by decide +kernel
theorem dX8_drift_11 : decode cX8_drift 11 = .ok (.ldc 68, 2) := by decide +kernel
theorem dX8_drift_13 : decode cX8_drift 13 = .ok (.ireturn, 1) := by decide +kernel
theorem dX8_drift_14 : decode cX8_drift 14 = .ok (.aload_n 0, 1) := by decide +kernel
theorem dX8_drift_15 : decode cX8_drift 15 = .ok (.getfield 19, 3) := by decide +kernel
theorem dX8_drift_18 : decode cX8_drift 18 = .ok (.getfield 97, 3) := by decide +kernel
theorem dX8_drift_21 : decode cX8_drift 21 = .ok (.ifCond .ne 6, 3) := by decide +kernel
theorem dX8_drift_24 : decode cX8_drift 24 = .ok (.ldc 192, 2) := by decide +kernel
theorem dX8_drift_26 : decode cX8_drift 26 = .ok (.ireturn, 1) := by decide +kernel
theorem dX8_drift_27 : decode cX8_drift 27 = .ok (.iconst 0, 1) := by decide +kernel
theorem dX8_drift_28 : decode cX8_drift 28 = .ok (.istore_n 2, 1) := by decide +kernel
theorem dX8_drift_29 : decode cX8_drift 29 = .ok (.iload_n 2, 1) := by decide +kernel
theorem dX8_drift_30 : decode cX8_drift 30 = .ok (.iload_n 1, 1) := by decide +kernel
theorem dX8_drift_31 : decode cX8_drift 31 = .ok (.if_icmp .ge 34, 3) := by decide +kernel
theorem dX8_drift_34 : decode cX8_drift 34 = .ok (.aload_n 0, 1) := by decide +kernel
theorem dX8_drift_35 : decode cX8_drift 35 = .ok (.getfield 19, 3) := by decide +kernel
theorem dX8_drift_38 : decode cX8_drift 38 = .ok (.getfield 90, 3) := by decide +kernel
theorem dX8_drift_41 : decode cX8_drift 41 = .ok (.ifCond .le 24, 3) := by decide +kernel
theorem dX8_drift_44 : decode cX8_drift 44 = .ok (.aload_n 0, 1) := by decide +kernel
theorem dX8_drift_45 : decode cX8_drift 45 = .ok (.getfield 43, 3) := by decide +kernel
theorem dX8_drift_48 : decode cX8_drift 48 = .ok (.aload_n 0, 1) := by decide +kernel
theorem dX8_drift_49 : decode cX8_drift 49 = .ok (.getfield 19, 3) := by decide +kernel
theorem dX8_drift_52 : decode cX8_drift 52 = .ok (.invokevirtual 182, 3) := by decide +kernel
theorem dX8_drift_55 : decode cX8_drift 55 = .ok (.aload_n 0, 1) := by decide +kernel
theorem dX8_drift_56 : decode cX8_drift 56 = .ok (.invokevirtual 206, 3) := by decide +kernel
theorem dX8_drift_59 : decode cX8_drift 59 = .ok (.iinc 2 1, 3) := by decide +kernel
theorem dX8_drift_62 : decode cX8_drift 62 = .ok (.goto (-33), 3) := by decide +kernel
theorem dX8_drift_65 : decode cX8_drift 65 = .ok (.aload_n 0, 1) := by decide +kernel
theorem dX8_drift_66 : decode cX8_drift 66 = .ok (.getfield 19, 3) := by decide +kernel
theorem dX8_drift_69 : decode cX8_drift 69 = .ok (.invokevirtual 116, 3) := by decide +kernel
theorem dX8_drift_72 : decode cX8_drift 72 = .ok (.invokestatic 209, 3) := by decide +kernel
theorem dX8_drift_75 : decode cX8_drift 75 = .ok (.ireturn, 1) := by decide +kernel
theorem dX8_undo_0 : decode cX8_undo 0 = .ok (.iload_n 1, 1) := by decide +kernel
theorem dX8_undo_1 : decode cX8_undo 1 = .ok (.iconst 1, 1) := by decide +kernel
theorem dX8_undo_2 : decode cX8_undo 2 = .ok (.if_icmp .lt 9, 3) := by decide +kernel
theorem dX8_undo_5 : decode cX8_undo 5 = .ok (.iload_n 1, 1) := by decide +kernel
theorem dX8_undo_6 : decode cX8_undo 6 = .ok (.bipush 20, 2) := by decide +kernel
theorem dX8_undo_8 : decode cX8_undo 8 = .ok (.if_icmp .le 6, 3) := by decide +kernel
theorem dX8_undo_11 : decode cX8_undo 11 = .ok (.ldc 68, 2) := by decide +kernel
theorem dX8_undo_13 : decode cX8_undo 13 = .ok (.ireturn, 1) := by decide +kernel
theorem dX8_undo_14 : decode cX8_undo 14 = .ok (.iload_n 1, 1) := by decide +kernel
theorem dX8_undo_15 : decode cX8_undo 15 = .ok (.aload_n 0, 1) := by decide +kernel
theorem dX8_undo_16 : decode cX8_undo 16 = .ok (.getfield 43, 3) := by decide +kernel
theorem dX8_undo_19 : decode cX8_undo 19 = .ok (.getfield 136, 3) := by decide +kernel
theorem dX8_undo_22 : decode cX8_undo 22 = .ok (.if_icmp .le 6, 3) := by decide +kernel
theorem dX8_undo_25 : decode cX8_undo 25 = .ok (.ldc 192, 2) := by decide +kernel
theorem dX8_undo_27 : decode cX8_undo 27 = .ok (.ireturn, 1) := by decide +kernel
theorem dX8_undo_28 : decode cX8_undo 28 = .ok (.aload_n 0, 1) := by decide +kernel
theorem dX8_undo_29 : decode cX8_undo 29 = .ok (.getfield 43, 3) := by decide +kernel
theorem dX8_undo_32 : decode cX8_undo 32 = .ok (.iload_n 1, 1) := by decide +kernel
theorem dX8_undo_33 : decode cX8_undo 33 = .ok (.aload_n 0, 1) := by decide +kernel
theorem dX8_undo_34 : decode cX8_undo 34 = .ok (.getfield 19, 3) := by decide +kernel
theorem dX8_undo_37 : decode cX8_undo 37 = .ok (.invokevirtual 214, 3) := by decide +kernel
theorem dX8_undo_40 : decode cX8_undo 40 = .ok (.aload_n 0, 1) := by decide +kernel
theorem dX8_undo_41 : decode cX8_undo 41 = .ok (.getfield 43, 3) := by decide +kernel
theorem dX8_undo_44 : decode cX8_undo 44 = .ok (.getfield 136, 3) := by decide +kernel
theorem dX8_undo_47 : decode cX8_undo 47 = .ok (.ireturn, 1) := by decide +kernel
theorem dX8_otherwise_0 : decode cX8_otherwise 0 = .ok (.aload_n 0, 1) := by decide +kernel
theorem dX8_otherwise_1 : decode cX8_otherwise 1 = .ok (.getfield 19, 3) := by decide +kernel
theorem dX8_otherwise_4 : decode cX8_otherwise 4 = .ok (.iload_n 1, 1) := by decide +kernel
theorem dX8_otherwise_5 : decode cX8_otherwise 5 = .ok (.invokevirtual 139, 3) := by decide +kernel
theorem dX8_otherwise_8 : decode cX8_otherwise 8 = .ok (.ifCond .eq 14, 3) := by decide +kernel
theorem dX8_otherwise_11 : decode cX8_otherwise 11 = .ok (.aload_n 0, 1) := by decide +kernel
theorem dX8_otherwise_12 : decode cX8_otherwise 12 = .ok (.getfield 19, 3) := by decide +kernel
theorem dX8_otherwise_15 : decode cX8_otherwise 15 = .ok (.iload_n 2, 1) := by decide +kernel
theorem dX8_otherwise_16 : decode cX8_otherwise 16 = .ok (.invokevirtual 172, 3) := by decide +kernel
theorem dX8_otherwise_19 : decode cX8_otherwise 19 = .ok (.ifCond .ne 6, 3) := by decide +kernel
theorem dX8_otherwise_22 : decode cX8_otherwise 22 = .ok (.ldc 143, 2) := by decide +kernel
theorem dX8_otherwise_24 : decode cX8_otherwise 24 = .ok (.ireturn, 1) := by decide +kernel
theorem dX8_otherwise_25 : decode cX8_otherwise 25 = .ok (.aload_n 0, 1) := by decide +kernel
theorem dX8_otherwise_26 : decode cX8_otherwise 26 = .ok (.getfield 23, 3) := by decide +kernel
theorem dX8_otherwise_29 : decode cX8_otherwise 29 = .ok (.aload_n 0, 1) := by decide +kernel
theorem dX8_otherwise_30 : decode cX8_otherwise 30 = .ok (.getfield 19, 3) := by decide +kernel
theorem dX8_otherwise_33 : decode cX8_otherwise 33 = .ok (.invokevirtual 77, 3) := by decide +kernel
theorem dX8_otherwise_36 : decode cX8_otherwise 36 = .ok (.aload_n 0, 1) := by decide +kernel
theorem dX8_otherwise_37 : decode cX8_otherwise 37 = .ok (.getfield 23, 3) := by decide +kernel
theorem dX8_otherwise_40 : decode cX8_otherwise 40 = .ok (.iload_n 1, 1) := by decide +kernel
theorem dX8_otherwise_41 : decode cX8_otherwise 41 = .ok (.invokevirtual 218, 3) := by decide +kernel
theorem dX8_otherwise_44 : decode cX8_otherwise 44 = .ok (.aload_n 0, 1) := by decide +kernel
theorem dX8_otherwise_45 : decode cX8_otherwise 45 = .ok (.getfield 23, 3) := by decide +kernel
theorem dX8_otherwise_48 : decode cX8_otherwise 48 = .ok (.iload_n 1, 1) := by decide +kernel
theorem dX8_otherwise_49 : decode cX8_otherwise 49 = .ok (.iload_n 2, 1) := by decide +kernel
theorem dX8_otherwise_50 : decode cX8_otherwise 50 = .ok (.invokevirtual 222, 3) := by decide +kernel
theorem dX8_otherwise_53 : decode cX8_otherwise 53 = .ok (.aload_n 0, 1) := by decide +kernel
theorem dX8_otherwise_54 : decode cX8_otherwise 54 = .ok (.getfield 29, 3) := by decide +kernel
theorem dX8_otherwise_57 : decode cX8_otherwise 57 = .ok (.aload_n 0, 1) := by decide +kernel
theorem dX8_otherwise_58 : decode cX8_otherwise 58 = .ok (.getfield 23, 3) := by decide +kernel
theorem dX8_otherwise_61 : decode cX8_otherwise 61 = .ok (.invokevirtual 225, 3) := by decide +kernel
theorem dX8_otherwise_64 : decode cX8_otherwise 64 = .ok (.aload_n 0, 1) := by decide +kernel
theorem dX8_otherwise_65 : decode cX8_otherwise 65 = .ok (.getfield 29, 3) := by decide +kernel
theorem dX8_otherwise_68 : decode cX8_otherwise 68 = .ok (.iload_n 1, 1) := by decide +kernel
theorem dX8_otherwise_69 : decode cX8_otherwise 69 = .ok (.invokevirtual 153, 3) := by decide +kernel
theorem dX8_otherwise_72 : decode cX8_otherwise 72 = .ok (.ireturn, 1) := by decide +kernel
theorem dX8_odds_0 : decode cX8_odds 0 = .ok (.aload_n 0, 1) := by decide +kernel
theorem dX8_odds_1 : decode cX8_odds 1 = .ok (.getfield 19, 3) := by decide +kernel
theorem dX8_odds_4 : decode cX8_odds 4 = .ok (.iload_n 1, 1) := by decide +kernel
theorem dX8_odds_5 : decode cX8_odds 5 = .ok (.invokevirtual 139, 3) := by decide +kernel
theorem dX8_odds_8 : decode cX8_odds 8 = .ok (.ifCond .eq 14, 3) := by decide +kernel
theorem dX8_odds_11 : decode cX8_odds 11 = .ok (.aload_n 0, 1) := by decide +kernel
theorem dX8_odds_12 : decode cX8_odds 12 = .ok (.getfield 19, 3) := by decide +kernel
theorem dX8_odds_15 : decode cX8_odds 15 = .ok (.iload_n 2, 1) := by decide +kernel
theorem dX8_odds_16 : decode cX8_odds 16 = .ok (.invokevirtual 228, 3) := by decide +kernel
theorem dX8_odds_19 : decode cX8_odds 19 = .ok (.ifCond .ne 6, 3) := by decide +kernel
theorem dX8_odds_22 : decode cX8_odds 22 = .ok (.ldc 143, 2) := by decide +kernel
theorem dX8_odds_24 : decode cX8_odds 24 = .ok (.ireturn, 1) := by decide +kernel
theorem dX8_odds_25 : decode cX8_odds 25 = .ok (.aload_n 0, 1) := by decide +kernel
theorem dX8_odds_26 : decode cX8_odds 26 = .ok (.getfield 23, 3) := by decide +kernel
theorem dX8_odds_29 : decode cX8_odds 29 = .ok (.aload_n 0, 1) := by decide +kernel
theorem dX8_odds_30 : decode cX8_odds 30 = .ok (.getfield 19, 3) := by decide +kernel
theorem dX8_odds_33 : decode cX8_odds 33 = .ok (.invokevirtual 77, 3) := by decide +kernel
theorem dX8_odds_36 : decode cX8_odds 36 = .ok (.aload_n 0, 1) := by decide +kernel
theorem dX8_odds_37 : decode cX8_odds 37 = .ok (.getfield 23, 3) := by decide +kernel
theorem dX8_odds_40 : decode cX8_odds 40 = .ok (.invokevirtual 231, 3) := by decide +kernel
theorem dX8_odds_43 : decode cX8_odds 43 = .ok (.istore_n 3, 1) := by decide +kernel
theorem dX8_odds_44 : decode cX8_odds 44 = .ok (.iconst 0, 1) := by decide +kernel
theorem dX8_odds_45 : decode cX8_odds 45 = .ok (.istore 4, 2) := by decide +kernel
theorem dX8_odds_47 : decode cX8_odds 47 = .ok (.iconst 0, 1) := by decide +kernel
theorem dX8_odds_48 : decode cX8_odds 48 = .ok (.istore 5, 2) := by decide +kernel
theorem dX8_odds_50 : decode cX8_odds 50 = .ok (.iload 5, 2) := by decide +kernel
theorem dX8_odds_52 : decode cX8_odds 52 = .ok (.iload_n 3, 1) := by decide +kernel
theorem dX8_odds_53 : decode cX8_odds 53 = .ok (.if_icmp .ge 44, 3) := by decide +kernel
theorem dX8_odds_56 : decode cX8_odds 56 = .ok (.aload_n 0, 1) := by decide +kernel
theorem dX8_odds_57 : decode cX8_odds 57 = .ok (.getfield 23, 3) := by decide +kernel
theorem dX8_odds_60 : decode cX8_odds 60 = .ok (.iload 5, 2) := by decide +kernel
theorem dX8_odds_62 : decode cX8_odds 62 = .ok (.invokevirtual 234, 3) := by decide +kernel
theorem dX8_odds_65 : decode cX8_odds 65 = .ok (.aload_n 0, 1) := by decide +kernel
theorem dX8_odds_66 : decode cX8_odds 66 = .ok (.getfield 29, 3) := by decide +kernel
theorem dX8_odds_69 : decode cX8_odds 69 = .ok (.aload_n 0, 1) := by decide +kernel
theorem dX8_odds_70 : decode cX8_odds 70 = .ok (.getfield 23, 3) := by decide +kernel
theorem dX8_odds_73 : decode cX8_odds 73 = .ok (.invokevirtual 225, 3) := by decide +kernel
theorem dX8_odds_76 : decode cX8_odds 76 = .ok (.aload_n 0, 1) := by decide +kernel
theorem dX8_odds_77 : decode cX8_odds 77 = .ok (.getfield 29, 3) := by decide +kernel
theorem dX8_odds_80 : decode cX8_odds 80 = .ok (.iload_n 1, 1) := by decide +kernel
theorem dX8_odds_81 : decode cX8_odds 81 = .ok (.invokevirtual 153, 3) := by decide +kernel
theorem dX8_odds_84 : decode cX8_odds 84 = .ok (.iload_n 2, 1) := by decide +kernel
theorem dX8_odds_85 : decode cX8_odds 85 = .ok (.if_icmp .ne 6, 3) := by decide +kernel
theorem dX8_odds_88 : decode cX8_odds 88 = .ok (.iinc 4 1, 3) := by decide +kernel
theorem dX8_odds_91 : decode cX8_odds 91 = .ok (.iinc 5 1, 3) := by decide +kernel
theorem dX8_odds_94 : decode cX8_odds 94 = .ok (.goto (-44), 3) := by decide +kernel
theorem dX8_odds_97 : decode cX8_odds 97 = .ok (.iload 4, 2) := by decide +kernel
theorem dX8_odds_99 : decode cX8_odds 99 = .ok (.ireturn, 1) := by decide +kernel
theorem dX8_quiet_0 : decode cX8_quiet 0 = .ok (.iload_n 1, 1) := by decide +kernel
theorem dX8_quiet_1 : decode cX8_quiet 1 = .ok (.ifCond .lt 19, 3) := by decide +kernel
theorem dX8_quiet_4 : decode cX8_quiet 4 = .ok (.iload_n 1, 1) := by decide +kernel
theorem dX8_quiet_5 : decode cX8_quiet 5 = .ok (.bipush 60, 2) := by decide +kernel
theorem dX8_quiet_7 : decode cX8_quiet 7 = .ok (.if_icmp .gt 13, 3) := by decide +kernel
theorem dX8_quiet_10 : decode cX8_quiet 10 = .ok (.iload_n 2, 1) := by decide +kernel
theorem dX8_quiet_11 : decode cX8_quiet 11 = .ok (.ifCond .lt 9, 3) := by decide +kernel
theorem dX8_quiet_14 : decode cX8_quiet 14 = .ok (.iload_n 2, 1) := by decide +kernel
theorem dX8_quiet_15 : decode cX8_quiet 15 = .ok (.bipush 100, 2) := by decide +kernel
theorem dX8_quiet_17 : decode cX8_quiet 17 = .ok (.if_icmp .le 6, 3) := by decide +kernel
theorem dX8_quiet_20 : decode cX8_quiet 20 = .ok (.ldc 68, 2) := by decide +kernel
theorem dX8_quiet_22 : decode cX8_quiet 22 = .ok (.ireturn, 1) := by decide +kernel
theorem dX8_quiet_23 : decode cX8_quiet 23 = .ok (.ldc2_w 237, 3) := by decide +kernel
theorem dX8_quiet_26 : decode cX8_quiet 26 = .ok (.lstore_n 3, 1) := by decide +kernel
theorem dX8_quiet_27 : decode cX8_quiet 27 = .ok (.iconst 0, 1) := by decide +kernel
theorem dX8_quiet_28 : decode cX8_quiet 28 = .ok (.istore 5, 2) := by decide +kernel
theorem dX8_quiet_30 : decode cX8_quiet 30 = .ok (.iload 5, 2) := by decide +kernel
theorem dX8_quiet_32 : decode cX8_quiet 32 = .ok (.iload_n 1, 1) := by decide +kernel
theorem dX8_quiet_33 : decode cX8_quiet 33 = .ok (.if_icmp .ge 18, 3) := by decide +kernel
theorem dX8_quiet_36 : decode cX8_quiet 36 = .ok (.lload_n 3, 1) := by decide +kernel
theorem dX8_quiet_37 : decode cX8_quiet 37 = .ok (.iload_n 2, 1) := by decide +kernel
theorem dX8_quiet_38 : decode cX8_quiet 38 = .ok (.i2l, 1) := by decide +kernel
theorem dX8_quiet_39 : decode cX8_quiet 39 = .ok (.lmul, 1) := by decide +kernel
theorem dX8_quiet_40 : decode cX8_quiet 40 = .ok (.ldc2_w 239, 3) := by decide +kernel
theorem dX8_quiet_43 : decode cX8_quiet 43 = .ok (.ldiv, 1) := by decide +kernel
theorem dX8_quiet_44 : decode cX8_quiet 44 = .ok (.lstore_n 3, 1) := by decide +kernel
theorem dX8_quiet_45 : decode cX8_quiet 45 = .ok (.iinc 5 1, 3) := by decide +kernel
theorem dX8_quiet_48 : decode cX8_quiet 48 = .ok (.goto (-18), 3) := by decide +kernel
theorem dX8_quiet_51 : decode cX8_quiet 51 = .ok (.lload_n 3, 1) := by decide +kernel
theorem dX8_quiet_52 : decode cX8_quiet 52 = .ok (.l2i, 1) := by decide +kernel
theorem dX8_quiet_53 : decode cX8_quiet 53 = .ok (.ireturn, 1) := by decide +kernel
theorem dX8_see_0 : decode cX8_see 0 = .ok (.aload_n 0, 1) := by decide +kernel
theorem dX8_see_1 : decode cX8_see 1 = .ok (.getfield 19, 3) := by decide +kernel
theorem dX8_see_4 : decode cX8_see 4 = .ok (.iload_n 1, 1) := by decide +kernel
theorem dX8_see_5 : decode cX8_see 5 = .ok (.invokevirtual 228, 3) := by decide +kernel
theorem dX8_see_8 : decode cX8_see 8 = .ok (.ifCond .ne 6, 3) := by decide +kernel
theorem dX8_see_11 : decode cX8_see 11 = .ok (.ldc 143, 2) := by decide +kernel
theorem dX8_see_13 : decode cX8_see 13 = .ok (.ireturn, 1) := by decide +kernel
theorem dX8_see_14 : decode cX8_see 14 = .ok (.aload_n 0, 1) := by decide +kernel
theorem dX8_see_15 : decode cX8_see 15 = .ok (.getfield 50, 3) := by decide +kernel
theorem dX8_see_18 : decode cX8_see 18 = .ok (.iload_n 1, 1) := by decide +kernel
theorem dX8_see_19 : decode cX8_see 19 = .ok (.iload_n 2, 1) := by decide +kernel
theorem dX8_see_20 : decode cX8_see 20 = .ok (.invokevirtual 241, 3) := by decide +kernel
theorem dX8_see_23 : decode cX8_see 23 = .ok (.ireturn, 1) := by decide +kernel
theorem dX8_couldBe_0 : decode cX8_couldBe 0 = .ok (.aload_n 0, 1) := by decide +kernel
theorem dX8_couldBe_1 : decode cX8_couldBe 1 = .ok (.getfield 50, 3) := by decide +kernel
theorem dX8_couldBe_4 : decode cX8_couldBe 4 = .ok (.aload_n 0, 1) := by decide +kernel
theorem dX8_couldBe_5 : decode cX8_couldBe 5 = .ok (.invokevirtual 103, 3) := by decide +kernel
theorem dX8_couldBe_8 : decode cX8_couldBe 8 = .ok (.aload_n 0, 1) := by decide +kernel
theorem dX8_couldBe_9 : decode cX8_couldBe 9 = .ok (.getfield 19, 3) := by decide +kernel
theorem dX8_couldBe_12 : decode cX8_couldBe 12 = .ok (.getfield 90, 3) := by decide +kernel
theorem dX8_couldBe_15 : decode cX8_couldBe 15 = .ok (.invokevirtual 245, 3) := by decide +kernel
theorem dX8_couldBe_18 : decode cX8_couldBe 18 = .ok (.ireturn, 1) := by decide +kernel
theorem dX8_ask_0 : decode cX8_ask 0 = .ok (.aload_n 0, 1) := by decide +kernel
theorem dX8_ask_1 : decode cX8_ask 1 = .ok (.getfield 50, 3) := by decide +kernel
theorem dX8_ask_4 : decode cX8_ask 4 = .ok (.aload_n 0, 1) := by decide +kernel
theorem dX8_ask_5 : decode cX8_ask 5 = .ok (.invokevirtual 103, 3) := by decide +kernel
theorem dX8_ask_8 : decode cX8_ask 8 = .ok (.aload_n 0, 1) := by decide +kernel
theorem dX8_ask_9 : decode cX8_ask 9 = .ok (.getfield 19, 3) := by decide +kernel
theorem dX8_ask_12 : decode cX8_ask 12 = .ok (.getfield 90, 3) := by decide +kernel
theorem dX8_ask_15 : decode cX8_ask 15 = .ok (.invokevirtual 245, 3) := by decide +kernel
theorem dX8_ask_18 : decode cX8_ask 18 = .ok (.istore_n 1, 1) := by decide +kernel
theorem dX8_ask_19 : decode cX8_ask 19 = .ok (.iload_n 1, 1) := by decide +kernel
theorem dX8_ask_20 : decode cX8_ask 20 = .ok (.invokestatic 209, 3) := by decide +kernel
theorem dX8_ask_23 : decode cX8_ask 23 = .ok (.istore_n 2, 1) := by decide +kernel
theorem dX8_ask_24 : decode cX8_ask 24 = .ok (.iconst (-1), 1) := by decide +kernel
theorem dX8_ask_25 : decode cX8_ask 25 = .ok (.istore_n 3, 1) := by decide +kernel
theorem dX8_ask_26 : decode cX8_ask 26 = .ok (.iload_n 2, 1) := by decide +kernel
theorem dX8_ask_27 : decode cX8_ask 27 = .ok (.istore 4, 2) := by decide +kernel
theorem dX8_ask_29 : decode cX8_ask 29 = .ok (.iconst 0, 1) := by decide +kernel
theorem dX8_ask_30 : decode cX8_ask 30 = .ok (.istore 5, 2) := by decide +kernel
theorem dX8_ask_32 : decode cX8_ask 32 = .ok (.iload 5, 2) := by decide +kernel
theorem dX8_ask_34 : decode cX8_ask 34 = .ok (.aload_n 0, 1) := by decide +kernel
theorem dX8_ask_35 : decode cX8_ask 35 = .ok (.getfield 19, 3) := by decide +kernel
theorem dX8_ask_38 : decode cX8_ask 38 = .ok (.getfield 97, 3) := by decide +kernel
theorem dX8_ask_41 : decode cX8_ask 41 = .ok (.if_icmp .ge 61, 3) := by decide +kernel
theorem dX8_ask_44 : decode cX8_ask 44 = .ok (.iload_n 1, 1) := by decide +kernel
theorem dX8_ask_45 : decode cX8_ask 45 = .ok (.aload_n 0, 1) := by decide +kernel
theorem dX8_ask_46 : decode cX8_ask 46 = .ok (.getfield 29, 3) := by decide +kernel
theorem dX8_ask_49 : decode cX8_ask 49 = .ok (.aload_n 0, 1) := by decide +kernel
theorem dX8_ask_50 : decode cX8_ask 50 = .ok (.getfield 19, 3) := by decide +kernel
theorem dX8_ask_53 : decode cX8_ask 53 = .ok (.iload 5, 2) := by decide +kernel
theorem dX8_ask_55 : decode cX8_ask 55 = .ok (.invokevirtual 178, 3) := by decide +kernel
theorem dX8_ask_58 : decode cX8_ask 58 = .ok (.invokestatic 249, 3) := by decide +kernel
theorem dX8_ask_61 : decode cX8_ask 61 = .ok (.ifCond .eq 7, 3) := by decide +kernel
theorem dX8_ask_64 : decode cX8_ask 64 = .ok (.iconst 1, 1) := by decide +kernel
theorem dX8_ask_65 : decode cX8_ask 65 = .ok (.goto 4, 3) := by decide +kernel
theorem dX8_ask_68 : decode cX8_ask 68 = .ok (.iconst 0, 1) := by decide +kernel
theorem dX8_ask_69 : decode cX8_ask 69 = .ok (.istore 6, 2) := by decide +kernel
theorem dX8_ask_71 : decode cX8_ask 71 = .ok (.iload 6, 2) := by decide +kernel
theorem dX8_ask_73 : decode cX8_ask 73 = .ok (.iload_n 2, 1) := by decide +kernel
theorem dX8_ask_74 : decode cX8_ask 74 = .ok (.iload 6, 2) := by decide +kernel
theorem dX8_ask_76 : decode cX8_ask 76 = .ok (.isub, 1) := by decide +kernel
theorem dX8_ask_77 : decode cX8_ask 77 = .ok (.invokestatic 253, 3) := by decide +kernel
theorem dX8_ask_80 : decode cX8_ask 80 = .ok (.istore 7, 2) := by decide +kernel
theorem dX8_ask_82 : decode cX8_ask 82 = .ok (.iload 7, 2) := by decide +kernel
theorem dX8_ask_84 : decode cX8_ask 84 = .ok (.iload 4, 2) := by decide +kernel
theorem dX8_ask_86 : decode cX8_ask 86 = .ok (.if_icmp .ge 10, 3) := by decide +kernel
theorem dX8_ask_89 : decode cX8_ask 89 = .ok (.iload 7, 2) := by decide +kernel
theorem dX8_ask_91 : decode cX8_ask 91 = .ok (.istore 4, 2) := by decide +kernel
theorem dX8_ask_93 : decode cX8_ask 93 = .ok (.iload 5, 2) := by decide +kernel
theorem dX8_ask_95 : decode cX8_ask 95 = .ok (.istore_n 3, 1) := by decide +kernel
theorem dX8_ask_96 : decode cX8_ask 96 = .ok (.iinc 5 1, 3) := by decide +kernel
theorem dX8_ask_99 : decode cX8_ask 99 = .ok (.goto (-67), 3) := by decide +kernel
theorem dX8_ask_102 : decode cX8_ask 102 = .ok (.iload_n 3, 1) := by decide +kernel
theorem dX8_ask_103 : decode cX8_ask 103 = .ok (.ireturn, 1) := by decide +kernel
theorem dX8_write_0 : decode cX8_write 0 = .ok (.aload_n 0, 1) := by decide +kernel
theorem dX8_write_1 : decode cX8_write 1 = .ok (.getfield 19, 3) := by decide +kernel
theorem dX8_write_4 : decode cX8_write 4 = .ok (.iload_n 1, 1) := by decide +kernel
theorem dX8_write_5 : decode cX8_write 5 = .ok (.invokevirtual 139, 3) := by decide +kernel
theorem dX8_write_8 : decode cX8_write 8 = .ok (.ifCond .eq 14, 3) := by decide +kernel
theorem dX8_write_11 : decode cX8_write 11 = .ok (.aload_n 0, 1) := by decide +kernel
theorem dX8_write_12 : decode cX8_write 12 = .ok (.getfield 19, 3) := by decide +kernel
theorem dX8_write_15 : decode cX8_write 15 = .ok (.iload_n 2, 1) := by decide +kernel
theorem dX8_write_16 : decode cX8_write 16 = .ok (.invokevirtual 228, 3) := by decide +kernel
theorem dX8_write_19 : decode cX8_write 19 = .ok (.ifCond .ne 6, 3) := by decide +kernel
theorem dX8_write_22 : decode cX8_write 22 = .ok (.ldc 143, 2) := by decide +kernel
theorem dX8_write_24 : decode cX8_write 24 = .ok (.ireturn, 1) := by decide +kernel
theorem dX8_write_25 : decode cX8_write 25 = .ok (.aload_n 0, 1) := by decide +kernel
theorem dX8_write_26 : decode cX8_write 26 = .ok (.getfield 50, 3) := by decide +kernel
theorem dX8_write_29 : decode cX8_write 29 = .ok (.iload_n 1, 1) := by decide +kernel
theorem dX8_write_30 : decode cX8_write 30 = .ok (.iload_n 2, 1) := by decide +kernel
theorem dX8_write_31 : decode cX8_write 31 = .ok (.invokevirtual 258, 3) := by decide +kernel
theorem dX8_write_34 : decode cX8_write 34 = .ok (.ireturn, 1) := by decide +kernel
theorem dX8_judge_0 : decode cX8_judge 0 = .ok (.aload_n 0, 1) := by decide +kernel
theorem dX8_judge_1 : decode cX8_judge 1 = .ok (.getfield 50, 3) := by decide +kernel
theorem dX8_judge_4 : decode cX8_judge 4 = .ok (.aload_n 0, 1) := by decide +kernel
theorem dX8_judge_5 : decode cX8_judge 5 = .ok (.invokevirtual 103, 3) := by decide +kernel
theorem dX8_judge_8 : decode cX8_judge 8 = .ok (.invokevirtual 261, 3) := by decide +kernel
theorem dX8_judge_11 : decode cX8_judge 11 = .ok (.ireturn, 1) := by decide +kernel
theorem dX8_tear_0 : decode cX8_tear 0 = .ok (.aload_n 0, 1) := by decide +kernel
theorem dX8_tear_1 : decode cX8_tear 1 = .ok (.getfield 50, 3) := by decide +kernel
theorem dX8_tear_4 : decode cX8_tear 4 = .ok (.getfield 130, 3) := by decide +kernel
theorem dX8_tear_7 : decode cX8_tear 7 = .ok (.aload_n 0, 1) := by decide +kernel
theorem dX8_tear_8 : decode cX8_tear 8 = .ok (.getfield 50, 3) := by decide +kernel
theorem dX8_tear_11 : decode cX8_tear 11 = .ok (.getfield 133, 3) := by decide +kernel
theorem dX8_tear_14 : decode cX8_tear 14 = .ok (.iadd, 1) := by decide +kernel
theorem dX8_tear_15 : decode cX8_tear 15 = .ok (.istore_n 1, 1) := by decide +kernel
theorem dX8_tear_16 : decode cX8_tear 16 = .ok (.aload_n 0, 1) := by decide +kernel
theorem dX8_tear_17 : decode cX8_tear 17 = .ok (.getfield 50, 3) := by decide +kernel
theorem dX8_tear_20 : decode cX8_tear 20 = .ok (.invokevirtual 84, 3) := by decide +kernel
theorem dX8_tear_23 : decode cX8_tear 23 = .ok (.iload_n 1, 1) := by decide +kernel
theorem dX8_tear_24 : decode cX8_tear 24 = .ok (.ireturn, 1) := by decide +kernel
theorem dX8_seed_0 : decode cX8_seed 0 = .ok (.iload_n 1, 1) := by decide +kernel
theorem dX8_seed_1 : decode cX8_seed 1 = .ok (.ifCond .ge 6, 3) := by decide +kernel
theorem dX8_seed_4 : decode cX8_seed 4 = .ok (.ldc 68, 2) := by decide +kernel
theorem dX8_seed_6 : decode cX8_seed 6 = .ok (.ireturn, 1) := by decide +kernel
theorem dX8_seed_7 : decode cX8_seed 7 = .ok (.aload_n 0, 1) := by decide +kernel
theorem dX8_seed_8 : decode cX8_seed 8 = .ok (.getfield 57, 3) := by decide +kernel
theorem dX8_seed_11 : decode cX8_seed 11 = .ok (.getfield 265, 3) := by decide +kernel
theorem dX8_seed_14 : decode cX8_seed 14 = .ok (.istore_n 2, 1) := by decide +kernel
theorem dX8_seed_15 : decode cX8_seed 15 = .ok (.aload_n 0, 1) := by decide +kernel
theorem dX8_seed_16 : decode cX8_seed 16 = .ok (.getfield 57, 3) := by decide +kernel
theorem dX8_seed_19 : decode cX8_seed 19 = .ok (.iload_n 1, 1) := by decide +kernel
theorem dX8_seed_20 : decode cX8_seed 20 = .ok (.putfield 265, 3) := by decide +kernel
theorem dX8_seed_23 : decode cX8_seed 23 = .ok (.iload_n 2, 1) := by decide +kernel
theorem dX8_seed_24 : decode cX8_seed 24 = .ok (.ireturn, 1) := by decide +kernel
theorem dX8_keep_0 : decode cX8_keep 0 = .ok (.aload_n 0, 1) := by decide +kernel
theorem dX8_keep_1 : decode cX8_keep 1 = .ok (.iload_n 1, 1) := by decide +kernel
theorem dX8_keep_2 : decode cX8_keep 2 = .ok (.invokevirtual 268, 3) := by decide +kernel
theorem dX8_keep_5 : decode cX8_keep 5 = .ok (.astore_n 2, 1) := by decide +kernel
theorem dX8_keep_6 : decode cX8_keep 6 = .ok (.aload_n 2, 1) := by decide +kernel
theorem dX8_keep_7 : decode cX8_keep 7 = .ok (.ifnonnull 6, 3) := by decide +kernel
theorem dX8_keep_10 : decode cX8_keep 10 = .ok (.ldc 143, 2) := by decide +kernel
theorem dX8_keep_12 : decode cX8_keep 12 = .ok (.ireturn, 1) := by decide +kernel
theorem dX8_keep_13 : decode cX8_keep 13 = .ok (.aload_n 2, 1) := by decide +kernel
theorem dX8_keep_14 : decode cX8_keep 14 = .ok (.aload_n 0, 1) := by decide +kernel
theorem dX8_keep_15 : decode cX8_keep 15 = .ok (.getfield 19, 3) := by decide +kernel
theorem dX8_keep_18 : decode cX8_keep 18 = .ok (.aload_n 0, 1) := by decide +kernel
theorem dX8_keep_19 : decode cX8_keep 19 = .ok (.getfield 57, 3) := by decide +kernel
theorem dX8_keep_22 : decode cX8_keep 22 = .ok (.getfield 265, 3) := by decide +kernel
theorem dX8_keep_25 : decode cX8_keep 25 = .ok (.invokevirtual 272, 3) := by decide +kernel
theorem dX8_keep_28 : decode cX8_keep 28 = .ok (.aload_n 0, 1) := by decide +kernel
theorem dX8_keep_29 : decode cX8_keep 29 = .ok (.getfield 43, 3) := by decide +kernel
theorem dX8_keep_32 : decode cX8_keep 32 = .ok (.invokevirtual 81, 3) := by decide +kernel
theorem dX8_keep_35 : decode cX8_keep 35 = .ok (.iconst 1, 1) := by decide +kernel
theorem dX8_keep_36 : decode cX8_keep 36 = .ok (.ireturn, 1) := by decide +kernel
theorem dX8_goBack_0 : decode cX8_goBack 0 = .ok (.aload_n 0, 1) := by decide +kernel
theorem dX8_goBack_1 : decode cX8_goBack 1 = .ok (.iload_n 1, 1) := by decide +kernel
theorem dX8_goBack_2 : decode cX8_goBack 2 = .ok (.invokevirtual 268, 3) := by decide +kernel
theorem dX8_goBack_5 : decode cX8_goBack 5 = .ok (.astore_n 2, 1) := by decide +kernel
theorem dX8_goBack_6 : decode cX8_goBack 6 = .ok (.aload_n 2, 1) := by decide +kernel
theorem dX8_goBack_7 : decode cX8_goBack 7 = .ok (.ifnonnull 6, 3) := by decide +kernel
theorem dX8_goBack_10 : decode cX8_goBack 10 = .ok (.ldc 143, 2) := by decide +kernel
theorem dX8_goBack_12 : decode cX8_goBack 12 = .ok (.ireturn, 1) := by decide +kernel
theorem dX8_goBack_13 : decode cX8_goBack 13 = .ok (.aload_n 2, 1) := by decide +kernel
theorem dX8_goBack_14 : decode cX8_goBack 14 = .ok (.getfield 276, 3) := by decide +kernel
theorem dX8_goBack_17 : decode cX8_goBack 17 = .ok (.ifCond .ne 6, 3) := by decide +kernel
theorem dX8_goBack_20 : decode cX8_goBack 20 = .ok (.ldc 192, 2) := by decide +kernel
theorem dX8_goBack_22 : decode cX8_goBack 22 = .ok (.ireturn, 1) := by decide +kernel
theorem dX8_goBack_23 : decode cX8_goBack 23 = .ok (.aload_n 0, 1) := by decide +kernel
theorem dX8_goBack_24 : decode cX8_goBack 24 = .ok (.getfield 19, 3) := by decide +kernel
theorem dX8_goBack_27 : decode cX8_goBack 27 = .ok (.aload_n 2, 1) := by decide +kernel
theorem dX8_goBack_28 : decode cX8_goBack 28 = .ok (.getfield 280, 3) := by decide +kernel
theorem dX8_goBack_31 : decode cX8_goBack 31 = .ok (.invokevirtual 77, 3) := by decide +kernel
theorem dX8_goBack_34 : decode cX8_goBack 34 = .ok (.aload_n 0, 1) := by decide +kernel
theorem dX8_goBack_35 : decode cX8_goBack 35 = .ok (.getfield 57, 3) := by decide +kernel
theorem dX8_goBack_38 : decode cX8_goBack 38 = .ok (.aload_n 2, 1) := by decide +kernel
theorem dX8_goBack_39 : decode cX8_goBack 39 = .ok (.getfield 281, 3) := by decide +kernel
theorem dX8_goBack_42 : decode cX8_goBack 42 = .ok (.putfield 265, 3) := by decide +kernel
theorem dX8_goBack_45 : decode cX8_goBack 45 = .ok (.aload_n 0, 1) := by decide +kernel
theorem dX8_goBack_46 : decode cX8_goBack 46 = .ok (.getfield 43, 3) := by decide +kernel
theorem dX8_goBack_49 : decode cX8_goBack 49 = .ok (.invokevirtual 81, 3) := by decide +kernel
theorem dX8_goBack_52 : decode cX8_goBack 52 = .ok (.iconst 1, 1) := by decide +kernel
theorem dX8_goBack_53 : decode cX8_goBack 53 = .ok (.ireturn, 1) := by decide +kernel
theorem dX8_imageAt_0 : decode cX8_imageAt 0 = .ok (.iload_n 1, 1) := by decide +kernel
theorem dX8_imageAt_1 : decode cX8_imageAt 1 = .ok (.ifCond .lt 21, 3) := by decide +kernel
theorem dX8_imageAt_4 : decode cX8_imageAt 4 = .ok (.iload_n 1, 1) := by decide +kernel
theorem dX8_imageAt_5 : decode cX8_imageAt 5 = .ok (.aload_n 0, 1) := by decide +kernel
theorem dX8_imageAt_6 : decode cX8_imageAt 6 = .ok (.getfield 63, 3) := by decide +kernel
theorem dX8_imageAt_9 : decode cX8_imageAt 9 = .ok (.arraylength, 1) := by decide +kernel
theorem dX8_imageAt_10 : decode cX8_imageAt 10 = .ok (.if_icmp .ge 12, 3) := by decide +kernel
theorem dX8_imageAt_13 : decode cX8_imageAt 13 = .ok (.aload_n 0, 1) := by decide +kernel
theorem dX8_imageAt_14 : decode cX8_imageAt 14 = .ok (.getfield 63, 3) := by decide +kernel
theorem dX8_imageAt_17 : decode cX8_imageAt 17 = .ok (.iload_n 1, 1) := by decide +kernel
theorem dX8_imageAt_18 : decode cX8_imageAt 18 = .ok (.aaload, 1) := by decide +kernel
theorem dX8_imageAt_19 : decode cX8_imageAt 19 = .ok (.goto 4, 3) := by decide +kernel
theorem dX8_imageAt_22 : decode cX8_imageAt 22 = .ok (.aconst_null, 1) := by decide +kernel
theorem dX8_imageAt_23 : decode cX8_imageAt 23 = .ok (.areturn, 1) := by decide +kernel
theorem dX8_dealt_0 : decode cX8_dealt 0 = .ok (.aload_n 0, 1) := by decide +kernel
theorem dX8_dealt_1 : decode cX8_dealt 1 = .ok (.getfield 29, 3) := by decide +kernel
theorem dX8_dealt_4 : decode cX8_dealt 4 = .ok (.aload_n 0, 1) := by decide +kernel
theorem dX8_dealt_5 : decode cX8_dealt 5 = .ok (.getfield 19, 3) := by decide +kernel
theorem dX8_dealt_8 : decode cX8_dealt 8 = .ok (.invokevirtual 225, 3) := by decide +kernel
theorem dX8_dealt_11 : decode cX8_dealt 11 = .ok (.aload_n 0, 1) := by decide +kernel
theorem dX8_dealt_12 : decode cX8_dealt 12 = .ok (.getfield 29, 3) := by decide +kernel
theorem dX8_dealt_15 : decode cX8_dealt 15 = .ok (.areturn, 1) := by decide +kernel
theorem dX8_weighed_0 : decode cX8_weighed 0 = .ok (.aload_n 0, 1) := by decide +kernel
theorem dX8_weighed_1 : decode cX8_weighed 1 = .ok (.getfield 36, 3) := by decide +kernel
theorem dX8_weighed_4 : decode cX8_weighed 4 = .ok (.aload_n 0, 1) := by decide +kernel
theorem dX8_weighed_5 : decode cX8_weighed 5 = .ok (.getfield 19, 3) := by decide +kernel
theorem dX8_weighed_8 : decode cX8_weighed 8 = .ok (.invokevirtual 282, 3) := by decide +kernel
theorem dX8_weighed_11 : decode cX8_weighed 11 = .ok (.aload_n 0, 1) := by decide +kernel
theorem dX8_weighed_12 : decode cX8_weighed 12 = .ok (.getfield 36, 3) := by decide +kernel
theorem dX8_weighed_15 : decode cX8_weighed 15 = .ok (.areturn, 1) := by decide +kernel
theorem dX8_moveAll_0 : decode cX8_moveAll 0 = .ok (.aload_n 0, 1) := by decide +kernel
theorem dX8_moveAll_1 : decode cX8_moveAll 1 = .ok (.getfield 29, 3) := by decide +kernel
theorem dX8_moveAll_4 : decode cX8_moveAll 4 = .ok (.aload_n 0, 1) := by decide +kernel
theorem dX8_moveAll_5 : decode cX8_moveAll 5 = .ok (.getfield 19, 3) := by decide +kernel
theorem dX8_moveAll_8 : decode cX8_moveAll 8 = .ok (.invokevirtual 225, 3) := by decide +kernel
theorem dX8_moveAll_11 : decode cX8_moveAll 11 = .ok (.iconst 0, 1) := by decide +kernel
theorem dX8_moveAll_12 : decode cX8_moveAll 12 = .ok (.istore_n 1, 1) := by decide +kernel
theorem dX8_moveAll_13 : decode cX8_moveAll 13 = .ok (.iconst 0, 1) := by decide +kernel
theorem dX8_moveAll_14 : decode cX8_moveAll 14 = .ok (.istore_n 2, 1) := by decide +kernel
theorem dX8_moveAll_15 : decode cX8_moveAll 15 = .ok (.iload_n 2, 1) := by decide +kernel
theorem dX8_moveAll_16 : decode cX8_moveAll 16 = .ok (.aload_n 0, 1) := by decide +kernel
theorem dX8_moveAll_17 : decode cX8_moveAll 17 = .ok (.getfield 19, 3) := by decide +kernel
theorem dX8_moveAll_20 : decode cX8_moveAll 20 = .ok (.getfield 90, 3) := by decide +kernel
theorem dX8_moveAll_23 : decode cX8_moveAll 23 = .ok (.if_icmp .ge 42, 3) := by decide +kernel
theorem dX8_moveAll_26 : decode cX8_moveAll 26 = .ok (.aload_n 0, 1) := by decide +kernel
theorem dX8_moveAll_27 : decode cX8_moveAll 27 = .ok (.getfield 29, 3) := by decide +kernel
theorem dX8_moveAll_30 : decode cX8_moveAll 30 = .ok (.iload_n 2, 1) := by decide +kernel
theorem dX8_moveAll_31 : decode cX8_moveAll 31 = .ok (.invokevirtual 153, 3) := by decide +kernel
theorem dX8_moveAll_34 : decode cX8_moveAll 34 = .ok (.istore_n 3, 1) := by decide +kernel
theorem dX8_moveAll_35 : decode cX8_moveAll 35 = .ok (.iload_n 3, 1) := by decide +kernel
theorem dX8_moveAll_36 : decode cX8_moveAll 36 = .ok (.aload_n 0, 1) := by decide +kernel
theorem dX8_moveAll_37 : decode cX8_moveAll 37 = .ok (.getfield 19, 3) := by decide +kernel
theorem dX8_moveAll_40 : decode cX8_moveAll 40 = .ok (.iload_n 2, 1) := by decide +kernel
theorem dX8_moveAll_41 : decode cX8_moveAll 41 = .ok (.invokevirtual 144, 3) := by decide +kernel
theorem dX8_moveAll_44 : decode cX8_moveAll 44 = .ok (.if_icmp .eq 15, 3) := by decide +kernel
theorem dX8_moveAll_47 : decode cX8_moveAll 47 = .ok (.aload_n 0, 1) := by decide +kernel
theorem dX8_moveAll_48 : decode cX8_moveAll 48 = .ok (.getfield 19, 3) := by decide +kernel
theorem dX8_moveAll_51 : decode cX8_moveAll 51 = .ok (.iload_n 2, 1) := by decide +kernel
theorem dX8_moveAll_52 : decode cX8_moveAll 52 = .ok (.iload_n 3, 1) := by decide +kernel
theorem dX8_moveAll_53 : decode cX8_moveAll 53 = .ok (.invokevirtual 203, 3) := by decide +kernel
theorem dX8_moveAll_56 : decode cX8_moveAll 56 = .ok (.iinc 1 1, 3) := by decide +kernel
theorem dX8_moveAll_59 : decode cX8_moveAll 59 = .ok (.iinc 2 1, 3) := by decide +kernel
theorem dX8_moveAll_62 : decode cX8_moveAll 62 = .ok (.goto (-47), 3) := by decide +kernel
theorem dX8_moveAll_65 : decode cX8_moveAll 65 = .ok (.iload_n 1, 1) := by decide +kernel
theorem dX8_moveAll_66 : decode cX8_moveAll 66 = .ok (.ireturn, 1) := by decide +kernel
theorem dX8_drawDeed_0 : decode cX8_drawDeed 0 = .ok (.aload_n 0, 1) := by decide +kernel
theorem dX8_drawDeed_1 : decode cX8_drawDeed 1 = .ok (.getfield 57, 3) := by decide +kernel
theorem dX8_drawDeed_4 : decode cX8_drawDeed 4 = .ok (.iconst 4, 1) := by decide +kernel
theorem dX8_drawDeed_5 : decode cX8_drawDeed 5 = .ok (.invokevirtual 285, 3) := by decide +kernel
theorem dX8_drawDeed_8 : decode cX8_drawDeed 8 = .ok (.istore_n 1, 1) := by decide +kernel
theorem dX8_drawDeed_9 : decode cX8_drawDeed 9 = .ok (.aload_n 0, 1) := by decide +kernel
theorem dX8_drawDeed_10 : decode cX8_drawDeed 10 = .ok (.getfield 57, 3) := by decide +kernel
theorem dX8_drawDeed_13 : decode cX8_drawDeed 13 = .ok (.aload_n 0, 1) := by decide +kernel
theorem dX8_drawDeed_14 : decode cX8_drawDeed 14 = .ok (.getfield 19, 3) := by decide +kernel
theorem dX8_drawDeed_17 : decode cX8_drawDeed 17 = .ok (.getfield 90, 3) := by decide +kernel
theorem dX8_drawDeed_20 : decode cX8_drawDeed 20 = .ok (.invokevirtual 285, 3) := by decide +kernel
theorem dX8_drawDeed_23 : decode cX8_drawDeed 23 = .ok (.istore_n 2, 1) := by decide +kernel
theorem dX8_drawDeed_24 : decode cX8_drawDeed 24 = .ok (.iload_n 1, 1) := by decide +kernel
theorem dX8_drawDeed_25 : decode cX8_drawDeed 25 = .ok (.ifCond .ne 39, 3) := by decide +kernel
theorem dX8_drawDeed_28 : decode cX8_drawDeed 28 = .ok (.aload_n 0, 1) := by decide +kernel
theorem dX8_drawDeed_29 : decode cX8_drawDeed 29 = .ok (.getfield 57, 3) := by decide +kernel
theorem dX8_drawDeed_32 : decode cX8_drawDeed 32 = .ok (.aload_n 0, 1) := by decide +kernel
theorem dX8_drawDeed_33 : decode cX8_drawDeed 33 = .ok (.getfield 19, 3) := by decide +kernel
theorem dX8_drawDeed_36 : decode cX8_drawDeed 36 = .ok (.getfield 97, 3) := by decide +kernel
theorem dX8_drawDeed_39 : decode cX8_drawDeed 39 = .ok (.invokevirtual 285, 3) := by decide +kernel
theorem dX8_drawDeed_42 : decode cX8_drawDeed 42 = .ok (.istore_n 3, 1) := by decide +kernel
theorem dX8_drawDeed_43 : decode cX8_drawDeed 43 = .ok (.aload_n 0, 1) := by decide +kernel
theorem dX8_drawDeed_44 : decode cX8_drawDeed 44 = .ok (.getfield 19, 3) := by decide +kernel
theorem dX8_drawDeed_47 : decode cX8_drawDeed 47 = .ok (.iload_n 2, 1) := by decide +kernel
theorem dX8_drawDeed_48 : decode cX8_drawDeed 48 = .ok (.iload_n 3, 1) := by decide +kernel
theorem dX8_drawDeed_49 : decode cX8_drawDeed 49 = .ok (.aload_n 0, 1) := by decide +kernel
theorem dX8_drawDeed_50 : decode cX8_drawDeed 50 = .ok (.getfield 57, 3) := by decide +kernel
theorem dX8_drawDeed_53 : decode cX8_drawDeed 53 = .ok (.bipush 8, 2) := by decide +kernel
theorem dX8_drawDeed_55 : decode cX8_drawDeed 55 = .ok (.invokevirtual 285, 3) := by decide +kernel
theorem dX8_drawDeed_58 : decode cX8_drawDeed 58 = .ok (.invokevirtual 185, 3) := by decide +kernel
theorem dX8_drawDeed_61 : decode cX8_drawDeed 61 = .ok (.goto 68, 3) := by decide +kernel
theorem dX8_drawDeed_64 : decode cX8_drawDeed 64 = .ok (.iload_n 1, 1) := by decide +kernel
theorem dX8_drawDeed_65 : decode cX8_drawDeed 65 = .ok (.iconst 1, 1) := by decide +kernel
theorem dX8_drawDeed_66 : decode cX8_drawDeed 66 = .ok (.if_icmp .ne 28, 3) := by decide +kernel
theorem dX8_drawDeed_69 : decode cX8_drawDeed 69 = .ok (.aload_n 0, 1) := by decide +kernel
theorem dX8_drawDeed_70 : decode cX8_drawDeed 70 = .ok (.getfield 19, 3) := by decide +kernel
theorem dX8_drawDeed_73 : decode cX8_drawDeed 73 = .ok (.iload_n 2, 1) := by decide +kernel
theorem dX8_drawDeed_74 : decode cX8_drawDeed 74 = .ok (.aload_n 0, 1) := by decide +kernel
theorem dX8_drawDeed_75 : decode cX8_drawDeed 75 = .ok (.getfield 57, 3) := by decide +kernel
theorem dX8_drawDeed_78 : decode cX8_drawDeed 78 = .ok (.aload_n 0, 1) := by decide +kernel
theorem dX8_drawDeed_79 : decode cX8_drawDeed 79 = .ok (.getfield 19, 3) := by decide +kernel
theorem dX8_drawDeed_82 : decode cX8_drawDeed 82 = .ok (.getfield 97, 3) := by decide +kernel
theorem dX8_drawDeed_85 : decode cX8_drawDeed 85 = .ok (.invokevirtual 285, 3) := by decide +kernel
theorem dX8_drawDeed_88 : decode cX8_drawDeed 88 = .ok (.invokevirtual 193, 3) := by decide +kernel
theorem dX8_drawDeed_91 : decode cX8_drawDeed 91 = .ok (.goto 38, 3) := by decide +kernel
theorem dX8_drawDeed_94 : decode cX8_drawDeed 94 = .ok (.iload_n 1, 1) := by decide +kernel
theorem dX8_drawDeed_95 : decode cX8_drawDeed 95 = .ok (.iconst 2, 1) := by decide +kernel
theorem dX8_drawDeed_96 : decode cX8_drawDeed 96 = .ok (.if_icmp .ne 28, 3) := by decide +kernel
theorem dX8_drawDeed_99 : decode cX8_drawDeed 99 = .ok (.aload_n 0, 1) := by decide +kernel
theorem dX8_drawDeed_100 : decode cX8_drawDeed 100 = .ok (.getfield 19, 3) := by decide +kernel
theorem dX8_drawDeed_103 : decode cX8_drawDeed 103 = .ok (.iload_n 2, 1) := by decide +kernel
theorem dX8_drawDeed_104 : decode cX8_drawDeed 104 = .ok (.aload_n 0, 1) := by decide +kernel
theorem dX8_drawDeed_105 : decode cX8_drawDeed 105 = .ok (.getfield 57, 3) := by decide +kernel
theorem dX8_drawDeed_108 : decode cX8_drawDeed 108 = .ok (.aload_n 0, 1) := by decide +kernel
theorem dX8_drawDeed_109 : decode cX8_drawDeed 109 = .ok (.getfield 19, 3) := by decide +kernel
theorem dX8_drawDeed_112 : decode cX8_drawDeed 112 = .ok (.getfield 90, 3) := by decide +kernel
theorem dX8_drawDeed_115 : decode cX8_drawDeed 115 = .ok (.invokevirtual 285, 3) := by decide +kernel
theorem dX8_drawDeed_118 : decode cX8_drawDeed 118 = .ok (.invokevirtual 197, 3) := by decide +kernel
theorem dX8_drawDeed_121 : decode cX8_drawDeed 121 = .ok (.goto 8, 3) := by decide +kernel
end
section
theorem dX8_drawDeed_124 : decode cX8_drawDeed 124 = .ok (.aload_n 0, 1) := by decide +kernel
theorem dX8_drawDeed_125 : decode cX8_drawDeed 125 = .ok (.invokevirtual 200, 3) := by decide +kernel
theorem dX8_drawDeed_128 : decode cX8_drawDeed 128 = .ok (.pop, 1) := by decide +kernel
theorem dX8_drawDeed_129 : decode cX8_drawDeed 129 = .ok (.return_, 1) := by decide +kernel
theorem dX8_chosenByLot_0 : decode cX8_chosenByLot 0 = .ok (.aload_n 0, 1) := by decide +kernel
theorem dX8_chosenByLot_1 : decode cX8_chosenByLot 1 = .ok (.getfield 19, 3) := by decide +kernel
theorem dX8_chosenByLot_4 : decode cX8_chosenByLot 4 = .ok (.getfield 97, 3) := by decide +kernel
theorem dX8_chosenByLot_7 : decode cX8_chosenByLot 7 = .ok (.invokestatic 288, 3) := by decide +kernel
theorem dX8_chosenByLot_10 : decode cX8_chosenByLot 10 = .ok (.istore_n 2, 1) := by decide +kernel
theorem dX8_chosenByLot_11 : decode cX8_chosenByLot 11 = .ok (.aload_n 0, 1) := by decide +kernel
theorem dX8_chosenByLot_12 : decode cX8_chosenByLot 12 = .ok (.getfield 19, 3) := by decide +kernel
theorem dX8_chosenByLot_15 : decode cX8_chosenByLot 15 = .ok (.getfield 90, 3) := by decide +kernel
theorem dX8_chosenByLot_18 : decode cX8_chosenByLot 18 = .ok (.invokestatic 288, 3) := by decide +kernel
theorem dX8_chosenByLot_21 : decode cX8_chosenByLot 21 = .ok (.istore_n 3, 1) := by decide +kernel
theorem dX8_chosenByLot_22 : decode cX8_chosenByLot 22 = .ok (.iconst 0, 1) := by decide +kernel
theorem dX8_chosenByLot_23 : decode cX8_chosenByLot 23 = .ok (.istore 4, 2) := by decide +kernel
theorem dX8_chosenByLot_25 : decode cX8_chosenByLot 25 = .ok (.iload 4, 2) := by decide +kernel
theorem dX8_chosenByLot_27 : decode cX8_chosenByLot 27 = .ok (.aload_n 0, 1) := by decide +kernel
theorem dX8_chosenByLot_28 : decode cX8_chosenByLot 28 = .ok (.getfield 19, 3) := by decide +kernel
theorem dX8_chosenByLot_31 : decode cX8_chosenByLot 31 = .ok (.getfield 90, 3) := by decide +kernel
theorem dX8_chosenByLot_34 : decode cX8_chosenByLot 34 = .ok (.if_icmp .ge 69, 3) := by decide +kernel
theorem dX8_chosenByLot_37 : decode cX8_chosenByLot 37 = .ok (.aload_n 0, 1) := by decide +kernel
theorem dX8_chosenByLot_38 : decode cX8_chosenByLot 38 = .ok (.getfield 19, 3) := by decide +kernel
theorem dX8_chosenByLot_41 : decode cX8_chosenByLot 41 = .ok (.getfield 291, 3) := by decide +kernel
theorem dX8_chosenByLot_44 : decode cX8_chosenByLot 44 = .ok (.iload 4, 2) := by decide +kernel
theorem dX8_chosenByLot_46 : decode cX8_chosenByLot 46 = .ok (.invokestatic 295, 3) := by decide +kernel
theorem dX8_chosenByLot_49 : decode cX8_chosenByLot 49 = .ok (.istore 5, 2) := by decide +kernel
theorem dX8_chosenByLot_51 : decode cX8_chosenByLot 51 = .ok (.iload_n 3, 1) := by decide +kernel
theorem dX8_chosenByLot_52 : decode cX8_chosenByLot 52 = .ok (.iload 5, 2) := by decide +kernel
theorem dX8_chosenByLot_54 : decode cX8_chosenByLot 54 = .ok (.invokestatic 299, 3) := by decide +kernel
theorem dX8_chosenByLot_57 : decode cX8_chosenByLot 57 = .ok (.istore_n 3, 1) := by decide +kernel
theorem dX8_chosenByLot_58 : decode cX8_chosenByLot 58 = .ok (.aload_n 0, 1) := by decide +kernel
theorem dX8_chosenByLot_59 : decode cX8_chosenByLot 59 = .ok (.getfield 19, 3) := by decide +kernel
theorem dX8_chosenByLot_62 : decode cX8_chosenByLot 62 = .ok (.iload 5, 2) := by decide +kernel
theorem dX8_chosenByLot_64 : decode cX8_chosenByLot 64 = .ok (.iload_n 2, 1) := by decide +kernel
theorem dX8_chosenByLot_65 : decode cX8_chosenByLot 65 = .ok (.aload_n 0, 1) := by decide +kernel
theorem dX8_chosenByLot_66 : decode cX8_chosenByLot 66 = .ok (.getfield 19, 3) := by decide +kernel
theorem dX8_chosenByLot_69 : decode cX8_chosenByLot 69 = .ok (.iload_n 3, 1) := by decide +kernel
theorem dX8_chosenByLot_70 : decode cX8_chosenByLot 70 = .ok (.invokevirtual 302, 3) := by decide +kernel
theorem dX8_chosenByLot_73 : decode cX8_chosenByLot 73 = .ok (.iconst (-1), 1) := by decide +kernel
theorem dX8_chosenByLot_74 : decode cX8_chosenByLot 74 = .ok (.ixor, 1) := by decide +kernel
theorem dX8_chosenByLot_75 : decode cX8_chosenByLot 75 = .ok (.iand, 1) := by decide +kernel
theorem dX8_chosenByLot_76 : decode cX8_chosenByLot 76 = .ok (.invokevirtual 305, 3) := by decide +kernel
theorem dX8_chosenByLot_79 : decode cX8_chosenByLot 79 = .ok (.istore 6, 2) := by decide +kernel
theorem dX8_chosenByLot_81 : decode cX8_chosenByLot 81 = .ok (.iload 5, 2) := by decide +kernel
theorem dX8_chosenByLot_83 : decode cX8_chosenByLot 83 = .ok (.iload_n 1, 1) := by decide +kernel
theorem dX8_chosenByLot_84 : decode cX8_chosenByLot 84 = .ok (.if_icmp .ne 6, 3) := by decide +kernel
theorem dX8_chosenByLot_87 : decode cX8_chosenByLot 87 = .ok (.iload 6, 2) := by decide +kernel
theorem dX8_chosenByLot_89 : decode cX8_chosenByLot 89 = .ok (.ireturn, 1) := by decide +kernel
theorem dX8_chosenByLot_90 : decode cX8_chosenByLot 90 = .ok (.iload_n 2, 1) := by decide +kernel
theorem dX8_chosenByLot_91 : decode cX8_chosenByLot 91 = .ok (.iload 6, 2) := by decide +kernel
theorem dX8_chosenByLot_93 : decode cX8_chosenByLot 93 = .ok (.invokestatic 299, 3) := by decide +kernel
theorem dX8_chosenByLot_96 : decode cX8_chosenByLot 96 = .ok (.istore_n 2, 1) := by decide +kernel
theorem dX8_chosenByLot_97 : decode cX8_chosenByLot 97 = .ok (.iinc 4 1, 3) := by decide +kernel
theorem dX8_chosenByLot_100 : decode cX8_chosenByLot 100 = .ok (.goto (-75), 3) := by decide +kernel
theorem dX8_chosenByLot_103 : decode cX8_chosenByLot 103 = .ok (.iconst (-1), 1) := by decide +kernel
theorem dX8_chosenByLot_104 : decode cX8_chosenByLot 104 = .ok (.ireturn, 1) := by decide +kernel
theorem dX8_at_0 : decode cX8_at 0 = .ok (.iload_n 1, 1) := by decide +kernel
theorem dX8_at_1 : decode cX8_at 1 = .ok (.ifCond .lt 15, 3) := by decide +kernel
theorem dX8_at_4 : decode cX8_at 4 = .ok (.iload_n 1, 1) := by decide +kernel
theorem dX8_at_5 : decode cX8_at 5 = .ok (.aload_n 0, 1) := by decide +kernel
theorem dX8_at_6 : decode cX8_at 6 = .ok (.arraylength, 1) := by decide +kernel
theorem dX8_at_7 : decode cX8_at 7 = .ok (.if_icmp .ge 9, 3) := by decide +kernel
theorem dX8_at_10 : decode cX8_at 10 = .ok (.aload_n 0, 1) := by decide +kernel
theorem dX8_at_11 : decode cX8_at 11 = .ok (.iload_n 1, 1) := by decide +kernel
theorem dX8_at_12 : decode cX8_at 12 = .ok (.iaload, 1) := by decide +kernel
theorem dX8_at_13 : decode cX8_at 13 = .ok (.goto 4, 3) := by decide +kernel
theorem dX8_at_16 : decode cX8_at 16 = .ok (.iconst (-1), 1) := by decide +kernel
theorem dX8_at_17 : decode cX8_at 17 = .ok (.ireturn, 1) := by decide +kernel
theorem dX8_put_0 : decode cX8_put 0 = .ok (.iload_n 1, 1) := by decide +kernel
theorem dX8_put_1 : decode cX8_put 1 = .ok (.ifCond .lt 13, 3) := by decide +kernel
theorem dX8_put_4 : decode cX8_put 4 = .ok (.iload_n 1, 1) := by decide +kernel
theorem dX8_put_5 : decode cX8_put 5 = .ok (.aload_n 0, 1) := by decide +kernel
theorem dX8_put_6 : decode cX8_put 6 = .ok (.arraylength, 1) := by decide +kernel
theorem dX8_put_7 : decode cX8_put 7 = .ok (.if_icmp .ge 7, 3) := by decide +kernel
theorem dX8_put_10 : decode cX8_put 10 = .ok (.aload_n 0, 1) := by decide +kernel
theorem dX8_put_11 : decode cX8_put 11 = .ok (.iload_n 1, 1) := by decide +kernel
theorem dX8_put_12 : decode cX8_put 12 = .ok (.iload_n 2, 1) := by decide +kernel
theorem dX8_put_13 : decode cX8_put 13 = .ok (.iastore, 1) := by decide +kernel
theorem dX8_put_14 : decode cX8_put 14 = .ok (.return_, 1) := by decide +kernel
theorem dX8_firstOnes_0 : decode cX8_firstOnes 0 = .ok (.iload_n 0, 1) := by decide +kernel
theorem dX8_firstOnes_1 : decode cX8_firstOnes 1 = .ok (.ifCond .le 17, 3) := by decide +kernel
theorem dX8_firstOnes_4 : decode cX8_firstOnes 4 = .ok (.iload_n 0, 1) := by decide +kernel
theorem dX8_firstOnes_5 : decode cX8_firstOnes 5 = .ok (.bipush 31, 2) := by decide +kernel
theorem dX8_firstOnes_7 : decode cX8_firstOnes 7 = .ok (.if_icmp .ge 11, 3) := by decide +kernel
theorem dX8_firstOnes_10 : decode cX8_firstOnes 10 = .ok (.iconst 1, 1) := by decide +kernel
theorem dX8_firstOnes_11 : decode cX8_firstOnes 11 = .ok (.iload_n 0, 1) := by decide +kernel
theorem dX8_firstOnes_12 : decode cX8_firstOnes 12 = .ok (.ishl, 1) := by decide +kernel
theorem dX8_firstOnes_13 : decode cX8_firstOnes 13 = .ok (.iconst 1, 1) := by decide +kernel
theorem dX8_firstOnes_14 : decode cX8_firstOnes 14 = .ok (.isub, 1) := by decide +kernel
theorem dX8_firstOnes_15 : decode cX8_firstOnes 15 = .ok (.goto 4, 3) := by decide +kernel
theorem dX8_firstOnes_18 : decode cX8_firstOnes 18 = .ok (.iconst 0, 1) := by decide +kernel
theorem dX8_firstOnes_19 : decode cX8_firstOnes 19 = .ok (.ireturn, 1) := by decide +kernel
theorem dX8_holds_0 : decode cX8_holds 0 = .ok (.iload_n 1, 1) := by decide +kernel
theorem dX8_holds_1 : decode cX8_holds 1 = .ok (.ifCond .lt 22, 3) := by decide +kernel
theorem dX8_holds_4 : decode cX8_holds 4 = .ok (.iload_n 1, 1) := by decide +kernel
theorem dX8_holds_5 : decode cX8_holds 5 = .ok (.bipush 31, 2) := by decide +kernel
theorem dX8_holds_7 : decode cX8_holds 7 = .ok (.if_icmp .ge 16, 3) := by decide +kernel
theorem dX8_holds_10 : decode cX8_holds 10 = .ok (.iload_n 0, 1) := by decide +kernel
theorem dX8_holds_11 : decode cX8_holds 11 = .ok (.iload_n 1, 1) := by decide +kernel
theorem dX8_holds_12 : decode cX8_holds 12 = .ok (.ishr, 1) := by decide +kernel
theorem dX8_holds_13 : decode cX8_holds 13 = .ok (.iconst 1, 1) := by decide +kernel
theorem dX8_holds_14 : decode cX8_holds 14 = .ok (.iand, 1) := by decide +kernel
theorem dX8_holds_15 : decode cX8_holds 15 = .ok (.iconst 1, 1) := by decide +kernel
theorem dX8_holds_16 : decode cX8_holds 16 = .ok (.if_icmp .ne 7, 3) := by decide +kernel
theorem dX8_holds_19 : decode cX8_holds 19 = .ok (.iconst 1, 1) := by decide +kernel
theorem dX8_holds_20 : decode cX8_holds 20 = .ok (.goto 4, 3) := by decide +kernel
theorem dX8_holds_23 : decode cX8_holds 23 = .ok (.iconst 0, 1) := by decide +kernel
theorem dX8_holds_24 : decode cX8_holds 24 = .ok (.ireturn, 1) := by decide +kernel
theorem dX8_with_0 : decode cX8_with 0 = .ok (.iload_n 1, 1) := by decide +kernel
theorem dX8_with_1 : decode cX8_with 1 = .ok (.ifCond .lt 17, 3) := by decide +kernel
theorem dX8_with_4 : decode cX8_with 4 = .ok (.iload_n 1, 1) := by decide +kernel
theorem dX8_with_5 : decode cX8_with 5 = .ok (.bipush 31, 2) := by decide +kernel
theorem dX8_with_7 : decode cX8_with 7 = .ok (.if_icmp .ge 11, 3) := by decide +kernel
theorem dX8_with_10 : decode cX8_with 10 = .ok (.iload_n 0, 1) := by decide +kernel
theorem dX8_with_11 : decode cX8_with 11 = .ok (.iconst 1, 1) := by decide +kernel
theorem dX8_with_12 : decode cX8_with 12 = .ok (.iload_n 1, 1) := by decide +kernel
theorem dX8_with_13 : decode cX8_with 13 = .ok (.ishl, 1) := by decide +kernel
theorem dX8_with_14 : decode cX8_with 14 = .ok (.ior, 1) := by decide +kernel
theorem dX8_with_15 : decode cX8_with 15 = .ok (.goto 4, 3) := by decide +kernel
theorem dX8_with_18 : decode cX8_with 18 = .ok (.iload_n 0, 1) := by decide +kernel
theorem dX8_with_19 : decode cX8_with 19 = .ok (.ireturn, 1) := by decide +kernel
theorem dX8_without_0 : decode cX8_without 0 = .ok (.iload_n 1, 1) := by decide +kernel
theorem dX8_without_1 : decode cX8_without 1 = .ok (.ifCond .lt 19, 3) := by decide +kernel
theorem dX8_without_4 : decode cX8_without 4 = .ok (.iload_n 1, 1) := by decide +kernel
theorem dX8_without_5 : decode cX8_without 5 = .ok (.bipush 31, 2) := by decide +kernel
theorem dX8_without_7 : decode cX8_without 7 = .ok (.if_icmp .ge 13, 3) := by decide +kernel
theorem dX8_without_10 : decode cX8_without 10 = .ok (.iload_n 0, 1) := by decide +kernel
theorem dX8_without_11 : decode cX8_without 11 = .ok (.iconst 1, 1) := by decide +kernel
theorem dX8_without_12 : decode cX8_without 12 = .ok (.iload_n 1, 1) := by decide +kernel
theorem dX8_without_13 : decode cX8_without 13 = .ok (.ishl, 1) := by decide +kernel
theorem dX8_without_14 : decode cX8_without 14 = .ok (.iconst (-1), 1) := by decide +kernel
theorem dX8_without_15 : decode cX8_without 15 = .ok (.ixor, 1) := by decide +kernel
theorem dX8_without_16 : decode cX8_without 16 = .ok (.iand, 1) := by decide +kernel
theorem dX8_without_17 : decode cX8_without 17 = .ok (.goto 4, 3) := by decide +kernel
theorem dX8_without_20 : decode cX8_without 20 = .ok (.iload_n 0, 1) := by decide +kernel
theorem dX8_without_21 : decode cX8_without 21 = .ok (.ireturn, 1) := by decide +kernel
theorem dX9_init_0 : decode cX9_init 0 = .ok (.aload_n 0, 1) := by decide +kernel
theorem dX9_init_1 : decode cX9_init 1 = .ok (.invokespecial 1, 3) := by decide +kernel
theorem dX9_init_4 : decode cX9_init 4 = .ok (.aload_n 0, 1) := by decide +kernel
theorem dX9_init_5 : decode cX9_init 5 = .ok (.sipush 1608, 3) := by decide +kernel
theorem dX9_init_8 : decode cX9_init 8 = .ok (.newarray .int, 2) := by decide +kernel
theorem dX9_init_10 : decode cX9_init 10 = .ok (.putfield 7, 3) := by decide +kernel
theorem dX9_init_13 : decode cX9_init 13 = .ok (.aload_n 0, 1) := by decide +kernel
theorem dX9_init_14 : decode cX9_init 14 = .ok (.sipush 240, 3) := by decide +kernel
theorem dX9_init_17 : decode cX9_init 17 = .ok (.newarray .int, 2) := by decide +kernel
theorem dX9_init_19 : decode cX9_init 19 = .ok (.putfield 13, 3) := by decide +kernel
theorem dX9_init_22 : decode cX9_init 22 = .ok (.aload_n 0, 1) := by decide +kernel
theorem dX9_init_23 : decode cX9_init 23 = .ok (.iconst (-1), 1) := by decide +kernel
theorem dX9_init_24 : decode cX9_init 24 = .ok (.putfield 16, 3) := by decide +kernel
theorem dX9_init_27 : decode cX9_init 27 = .ok (.aload_n 0, 1) := by decide +kernel
theorem dX9_init_28 : decode cX9_init 28 = .ok (.bipush 6, 2) := by decide +kernel
theorem dX9_init_30 : decode cX9_init 30 = .ok (.newarray .int, 2) := by decide +kernel
theorem dX9_init_32 : decode cX9_init 32 = .ok (.putfield 20, 3) := by decide +kernel
theorem dX9_init_35 : decode cX9_init 35 = .ok (.aload_n 0, 1) := by decide +kernel
theorem dX9_init_36 : decode cX9_init 36 = .ok (.bipush 6, 2) := by decide +kernel
theorem dX9_init_38 : decode cX9_init 38 = .ok (.newarray .int, 2) := by decide +kernel
theorem dX9_init_40 : decode cX9_init 40 = .ok (.putfield 23, 3) := by decide +kernel
theorem dX9_init_43 : decode cX9_init 43 = .ok (.aload_n 0, 1) := by decide +kernel
theorem dX9_init_44 : decode cX9_init 44 = .ok (.bipush 6, 2) := by decide +kernel
theorem dX9_init_46 : decode cX9_init 46 = .ok (.newarray .int, 2) := by decide +kernel
theorem dX9_init_48 : decode cX9_init 48 = .ok (.putfield 26, 3) := by decide +kernel
theorem dX9_init_51 : decode cX9_init 51 = .ok (.aload_n 0, 1) := by decide +kernel
theorem dX9_init_52 : decode cX9_init 52 = .ok (.bipush 9, 2) := by decide +kernel
theorem dX9_init_54 : decode cX9_init 54 = .ok (.newarray .int, 2) := by decide +kernel
theorem dX9_init_56 : decode cX9_init 56 = .ok (.putfield 29, 3) := by decide +kernel
theorem dX9_init_59 : decode cX9_init 59 = .ok (.aload_n 0, 1) := by decide +kernel
theorem dX9_init_60 : decode cX9_init 60 = .ok (.bipush 6, 2) := by decide +kernel
theorem dX9_init_62 : decode cX9_init 62 = .ok (.newarray .int, 2) := by decide +kernel
theorem dX9_init_64 : decode cX9_init 64 = .ok (.putfield 32, 3) := by decide +kernel
theorem dX9_init_67 : decode cX9_init 67 = .ok (.aload_n 0, 1) := by decide +kernel
theorem dX9_init_68 : decode cX9_init 68 = .ok (.bipush 6, 2) := by decide +kernel
theorem dX9_init_70 : decode cX9_init 70 = .ok (.newarray .int, 2) := by decide +kernel
theorem dX9_init_72 : decode cX9_init 72 = .ok (.putfield 35, 3) := by decide +kernel
theorem dX9_init_75 : decode cX9_init 75 = .ok (.aload_n 0, 1) := by decide +kernel
theorem dX9_init_76 : decode cX9_init 76 = .ok (.bipush 20, 2) := by decide +kernel
theorem dX9_init_78 : decode cX9_init 78 = .ok (.newarray .int, 2) := by decide +kernel
theorem dX9_init_80 : decode cX9_init 80 = .ok (.putfield 38, 3) := by decide +kernel
theorem dX9_init_83 : decode cX9_init 83 = .ok (.aload_n 0, 1) := by decide +kernel
theorem dX9_init_84 : decode cX9_init 84 = .ok (.bipush 20, 2) := by decide +kernel
theorem dX9_init_86 : decode cX9_init 86 = .ok (.newarray .int, 2) := by decide +kernel
theorem dX9_init_88 : decode cX9_init 88 = .ok (.putfield 41, 3) := by decide +kernel
theorem dX9_init_91 : decode cX9_init 91 = .ok (.aload_n 0, 1) := by decide +kernel
theorem dX9_init_92 : decode cX9_init 92 = .ok (.bipush 64, 2) := by decide +kernel
theorem dX9_init_94 : decode cX9_init 94 = .ok (.newarray .int, 2) := by decide +kernel
theorem dX9_init_96 : decode cX9_init 96 = .ok (.putfield 44, 3) := by decide +kernel
theorem dX9_init_99 : decode cX9_init 99 = .ok (.aload_n 0, 1) := by decide +kernel
theorem dX9_init_100 : decode cX9_init 100 = .ok (.iconst 0, 1) := by decide +kernel
theorem dX9_init_101 : decode cX9_init 101 = .ok (.invokevirtual 47, 3) := by decide +kernel
theorem dX9_init_104 : decode cX9_init 104 = .ok (.return_, 1) := by decide +kernel
theorem dX9_in_0 : decode cX9_in 0 = .ok (.iload_n 0, 1) := by decide +kernel
theorem dX9_in_1 : decode cX9_in 1 = .ok (.iload_n 1, 1) := by decide +kernel
theorem dX9_in_2 : decode cX9_in 2 = .ok (.if_icmp .lt 12, 3) := by decide +kernel
theorem dX9_in_5 : decode cX9_in 5 = .ok (.iload_n 0, 1) := by decide +kernel
theorem dX9_in_6 : decode cX9_in 6 = .ok (.iload_n 2, 1) := by decide +kernel
theorem dX9_in_7 : decode cX9_in 7 = .ok (.if_icmp .gt 7, 3) := by decide +kernel
theorem dX9_in_10 : decode cX9_in 10 = .ok (.iconst 1, 1) := by decide +kernel
theorem dX9_in_11 : decode cX9_in 11 = .ok (.goto 4, 3) := by decide +kernel
theorem dX9_in_14 : decode cX9_in 14 = .ok (.iconst 0, 1) := by decide +kernel
theorem dX9_in_15 : decode cX9_in 15 = .ok (.ireturn, 1) := by decide +kernel
theorem dX9_has_0 : decode cX9_has 0 = .ok (.iload_n 0, 1) := by decide +kernel
theorem dX9_has_1 : decode cX9_has 1 = .ok (.iload_n 1, 1) := by decide +kernel
theorem dX9_has_2 : decode cX9_has 2 = .ok (.ishr, 1) := by decide +kernel
theorem dX9_has_3 : decode cX9_has 3 = .ok (.iconst 1, 1) := by decide +kernel
theorem dX9_has_4 : decode cX9_has 4 = .ok (.iand, 1) := by decide +kernel
theorem dX9_has_5 : decode cX9_has 5 = .ok (.iconst 1, 1) := by decide +kernel
theorem dX9_has_6 : decode cX9_has 6 = .ok (.if_icmp .ne 7, 3) := by decide +kernel
theorem dX9_has_9 : decode cX9_has 9 = .ok (.iconst 1, 1) := by decide +kernel
theorem dX9_has_10 : decode cX9_has 10 = .ok (.goto 4, 3) := by decide +kernel
theorem dX9_has_13 : decode cX9_has 13 = .ok (.iconst 0, 1) := by decide +kernel
theorem dX9_has_14 : decode cX9_has 14 = .ok (.ireturn, 1) := by decide +kernel
theorem dX9_bits_0 : decode cX9_bits 0 = .ok (.iconst 0, 1) := by decide +kernel
theorem dX9_bits_1 : decode cX9_bits 1 = .ok (.istore_n 1, 1) := by decide +kernel
theorem dX9_bits_2 : decode cX9_bits 2 = .ok (.iconst 0, 1) := by decide +kernel
theorem dX9_bits_3 : decode cX9_bits 3 = .ok (.istore_n 2, 1) := by decide +kernel
theorem dX9_bits_4 : decode cX9_bits 4 = .ok (.iload_n 2, 1) := by decide +kernel
theorem dX9_bits_5 : decode cX9_bits 5 = .ok (.bipush 8, 2) := by decide +kernel
theorem dX9_bits_7 : decode cX9_bits 7 = .ok (.if_icmp .ge 17, 3) := by decide +kernel
theorem dX9_bits_10 : decode cX9_bits 10 = .ok (.iload_n 1, 1) := by decide +kernel
theorem dX9_bits_11 : decode cX9_bits 11 = .ok (.iload_n 0, 1) := by decide +kernel
theorem dX9_bits_12 : decode cX9_bits 12 = .ok (.iload_n 2, 1) := by decide +kernel
theorem dX9_bits_13 : decode cX9_bits 13 = .ok (.ishr, 1) := by decide +kernel
theorem dX9_bits_14 : decode cX9_bits 14 = .ok (.iconst 1, 1) := by decide +kernel
theorem dX9_bits_15 : decode cX9_bits 15 = .ok (.iand, 1) := by decide +kernel
theorem dX9_bits_16 : decode cX9_bits 16 = .ok (.iadd, 1) := by decide +kernel
theorem dX9_bits_17 : decode cX9_bits 17 = .ok (.istore_n 1, 1) := by decide +kernel
theorem dX9_bits_18 : decode cX9_bits 18 = .ok (.iinc 2 1, 3) := by decide +kernel
theorem dX9_bits_21 : decode cX9_bits 21 = .ok (.goto (-17), 3) := by decide +kernel
theorem dX9_bits_24 : decode cX9_bits 24 = .ok (.iload_n 1, 1) := by decide +kernel
theorem dX9_bits_25 : decode cX9_bits 25 = .ok (.ireturn, 1) := by decide +kernel
theorem dX9_copyRow_0 : decode cX9_copyRow 0 = .ok (.iconst 0, 1) := by decide +kernel
theorem dX9_copyRow_1 : decode cX9_copyRow 1 = .ok (.istore_n 3, 1) := by decide +kernel
theorem dX9_copyRow_2 : decode cX9_copyRow 2 = .ok (.iload_n 3, 1) := by decide +kernel
theorem dX9_copyRow_3 : decode cX9_copyRow 3 = .ok (.bipush 67, 2) := by decide +kernel
theorem dX9_copyRow_5 : decode cX9_copyRow 5 = .ok (.if_icmp .ge 25, 3) := by decide +kernel
theorem dX9_copyRow_8 : decode cX9_copyRow 8 = .ok (.aload_n 0, 1) := by decide +kernel
theorem dX9_copyRow_9 : decode cX9_copyRow 9 = .ok (.getfield 7, 3) := by decide +kernel
theorem dX9_copyRow_12 : decode cX9_copyRow 12 = .ok (.iload_n 2, 1) := by decide +kernel
theorem dX9_copyRow_13 : decode cX9_copyRow 13 = .ok (.iload_n 3, 1) := by decide +kernel
theorem dX9_copyRow_14 : decode cX9_copyRow 14 = .ok (.iadd, 1) := by decide +kernel
theorem dX9_copyRow_15 : decode cX9_copyRow 15 = .ok (.aload_n 0, 1) := by decide +kernel
theorem dX9_copyRow_16 : decode cX9_copyRow 16 = .ok (.getfield 7, 3) := by decide +kernel
theorem dX9_copyRow_19 : decode cX9_copyRow 19 = .ok (.iload_n 1, 1) := by decide +kernel
theorem dX9_copyRow_20 : decode cX9_copyRow 20 = .ok (.iload_n 3, 1) := by decide +kernel
theorem dX9_copyRow_21 : decode cX9_copyRow 21 = .ok (.iadd, 1) := by decide +kernel
theorem dX9_copyRow_22 : decode cX9_copyRow 22 = .ok (.iaload, 1) := by decide +kernel
theorem dX9_copyRow_23 : decode cX9_copyRow 23 = .ok (.iastore, 1) := by decide +kernel
theorem dX9_copyRow_24 : decode cX9_copyRow 24 = .ok (.iinc 3 1, 3) := by decide +kernel
theorem dX9_copyRow_27 : decode cX9_copyRow 27 = .ok (.goto (-25), 3) := by decide +kernel
theorem dX9_copyRow_30 : decode cX9_copyRow 30 = .ok (.return_, 1) := by decide +kernel
theorem dX9_beginLots_0 : decode cX9_beginLots 0 = .ok (.iconst 0, 1) := by decide +kernel
theorem dX9_beginLots_1 : decode cX9_beginLots 1 = .ok (.istore_n 2, 1) := by decide +kernel
theorem dX9_beginLots_2 : decode cX9_beginLots 2 = .ok (.iload_n 2, 1) := by decide +kernel
theorem dX9_beginLots_3 : decode cX9_beginLots 3 = .ok (.bipush 6, 2) := by decide +kernel
theorem dX9_beginLots_5 : decode cX9_beginLots 5 = .ok (.if_icmp .ge 21, 3) := by decide +kernel
theorem dX9_beginLots_8 : decode cX9_beginLots 8 = .ok (.aload_n 0, 1) := by decide +kernel
theorem dX9_beginLots_9 : decode cX9_beginLots 9 = .ok (.getfield 7, 3) := by decide +kernel
theorem dX9_beginLots_12 : decode cX9_beginLots 12 = .ok (.iload_n 1, 1) := by decide +kernel
theorem dX9_beginLots_13 : decode cX9_beginLots 13 = .ok (.bipush 60, 2) := by decide +kernel
theorem dX9_beginLots_15 : decode cX9_beginLots 15 = .ok (.iadd, 1) := by decide +kernel
theorem dX9_beginLots_16 : decode cX9_beginLots 16 = .ok (.iload_n 2, 1) := by decide +kernel
theorem dX9_beginLots_17 : decode cX9_beginLots 17 = .ok (.iadd, 1) := by decide +kernel
theorem dX9_beginLots_18 : decode cX9_beginLots 18 = .ok (.iload_n 2, 1) := by decide +kernel
theorem dX9_beginLots_19 : decode cX9_beginLots 19 = .ok (.iastore, 1) := by decide +kernel
theorem dX9_beginLots_20 : decode cX9_beginLots 20 = .ok (.iinc 2 1, 3) := by decide +kernel
theorem dX9_beginLots_23 : decode cX9_beginLots 23 = .ok (.goto (-21), 3) := by decide +kernel
theorem dX9_beginLots_26 : decode cX9_beginLots 26 = .ok (.return_, 1) := by decide +kernel
theorem dX9_isPerson_0 : decode cX9_isPerson 0 = .ok (.iload_n 1, 1) := by decide +kernel
theorem dX9_isPerson_1 : decode cX9_isPerson 1 = .ok (.iconst 0, 1) := by decide +kernel
theorem dX9_isPerson_2 : decode cX9_isPerson 2 = .ok (.aload_n 0, 1) := by decide +kernel
theorem dX9_isPerson_3 : decode cX9_isPerson 3 = .ok (.getfield 51, 3) := by decide +kernel
theorem dX9_isPerson_6 : decode cX9_isPerson 6 = .ok (.iconst 1, 1) := by decide +kernel
theorem dX9_isPerson_7 : decode cX9_isPerson 7 = .ok (.isub, 1) := by decide +kernel
theorem dX9_isPerson_8 : decode cX9_isPerson 8 = .ok (.invokestatic 54, 3) := by decide +kernel
theorem dX9_isPerson_11 : decode cX9_isPerson 11 = .ok (.ireturn, 1) := by decide +kernel
theorem dX9_isRoom_0 : decode cX9_isRoom 0 = .ok (.iload_n 1, 1) := by decide +kernel
theorem dX9_isRoom_1 : decode cX9_isRoom 1 = .ok (.iconst 0, 1) := by decide +kernel
theorem dX9_isRoom_2 : decode cX9_isRoom 2 = .ok (.aload_n 0, 1) := by decide +kernel
theorem dX9_isRoom_3 : decode cX9_isRoom 3 = .ok (.getfield 58, 3) := by decide +kernel
theorem dX9_isRoom_6 : decode cX9_isRoom 6 = .ok (.iconst 1, 1) := by decide +kernel
theorem dX9_isRoom_7 : decode cX9_isRoom 7 = .ok (.isub, 1) := by decide +kernel
theorem dX9_isRoom_8 : decode cX9_isRoom 8 = .ok (.invokestatic 54, 3) := by decide +kernel
theorem dX9_isRoom_11 : decode cX9_isRoom 11 = .ok (.ireturn, 1) := by decide +kernel
theorem dX9_feed_0 : decode cX9_feed 0 = .ok (.iload_n 1, 1) := by decide +kernel
theorem dX9_feed_1 : decode cX9_feed 1 = .ok (.iconst 0, 1) := by decide +kernel
theorem dX9_feed_2 : decode cX9_feed 2 = .ok (.sipush 255, 3) := by decide +kernel
theorem dX9_feed_5 : decode cX9_feed 5 = .ok (.invokestatic 54, 3) := by decide +kernel
theorem dX9_feed_8 : decode cX9_feed 8 = .ok (.ifCond .ne 6, 3) := by decide +kernel
theorem dX9_feed_11 : decode cX9_feed 11 = .ok (.ldc 61, 2) := by decide +kernel
theorem dX9_feed_13 : decode cX9_feed 13 = .ok (.ireturn, 1) := by decide +kernel
theorem dX9_feed_14 : decode cX9_feed 14 = .ok (.aload_n 0, 1) := by decide +kernel
theorem dX9_feed_15 : decode cX9_feed 15 = .ok (.getfield 62, 3) := by decide +kernel
theorem dX9_feed_18 : decode cX9_feed 18 = .ok (.sipush 240, 3) := by decide +kernel
theorem dX9_feed_21 : decode cX9_feed 21 = .ok (.if_icmp .ne 6, 3) := by decide +kernel
theorem dX9_feed_24 : decode cX9_feed 24 = .ok (.ldc 65, 2) := by decide +kernel
theorem dX9_feed_26 : decode cX9_feed 26 = .ok (.ireturn, 1) := by decide +kernel
theorem dX9_feed_27 : decode cX9_feed 27 = .ok (.aload_n 0, 1) := by decide +kernel
theorem dX9_feed_28 : decode cX9_feed 28 = .ok (.getfield 13, 3) := by decide +kernel
theorem dX9_feed_31 : decode cX9_feed 31 = .ok (.aload_n 0, 1) := by decide +kernel
theorem dX9_feed_32 : decode cX9_feed 32 = .ok (.getfield 62, 3) := by decide +kernel
theorem dX9_feed_35 : decode cX9_feed 35 = .ok (.iload_n 1, 1) := by decide +kernel
theorem dX9_feed_36 : decode cX9_feed 36 = .ok (.iastore, 1) := by decide +kernel
theorem dX9_feed_37 : decode cX9_feed 37 = .ok (.aload_n 0, 1) := by decide +kernel
theorem dX9_feed_38 : decode cX9_feed 38 = .ok (.dup, 1) := by decide +kernel
theorem dX9_feed_39 : decode cX9_feed 39 = .ok (.getfield 62, 3) := by decide +kernel
theorem dX9_feed_42 : decode cX9_feed 42 = .ok (.iconst 1, 1) := by decide +kernel
theorem dX9_feed_43 : decode cX9_feed 43 = .ok (.iadd, 1) := by decide +kernel
theorem dX9_feed_44 : decode cX9_feed 44 = .ok (.putfield 62, 3) := by decide +kernel
theorem dX9_feed_47 : decode cX9_feed 47 = .ok (.aload_n 0, 1) := by decide +kernel
theorem dX9_feed_48 : decode cX9_feed 48 = .ok (.getfield 62, 3) := by decide +kernel
theorem dX9_feed_51 : decode cX9_feed 51 = .ok (.ireturn, 1) := by decide +kernel
theorem dX9_fine_0 : decode cX9_fine 0 = .ok (.aload_n 0, 1) := by decide +kernel
theorem dX9_fine_1 : decode cX9_fine 1 = .ok (.getfield 66, 3) := by decide +kernel
theorem dX9_fine_4 : decode cX9_fine 4 = .ok (.ifCond .ne 7, 3) := by decide +kernel
theorem dX9_fine_7 : decode cX9_fine 7 = .ok (.iconst 1, 1) := by decide +kernel
theorem dX9_fine_8 : decode cX9_fine 8 = .ok (.goto 4, 3) := by decide +kernel
theorem dX9_fine_11 : decode cX9_fine 11 = .ok (.iconst 0, 1) := by decide +kernel
theorem dX9_fine_12 : decode cX9_fine 12 = .ok (.ireturn, 1) := by decide +kernel
theorem dX9_fail_0 : decode cX9_fail 0 = .ok (.aload_n 0, 1) := by decide +kernel
theorem dX9_fail_1 : decode cX9_fail 1 = .ok (.invokevirtual 69, 3) := by decide +kernel
theorem dX9_fail_4 : decode cX9_fail 4 = .ok (.ifCond .eq 13, 3) := by decide +kernel
theorem dX9_fail_7 : decode cX9_fail 7 = .ok (.aload_n 0, 1) := by decide +kernel
theorem dX9_fail_8 : decode cX9_fail 8 = .ok (.iload_n 1, 1) := by decide +kernel
theorem dX9_fail_9 : decode cX9_fail 9 = .ok (.putfield 66, 3) := by decide +kernel
theorem dX9_fail_12 : decode cX9_fail 12 = .ok (.aload_n 0, 1) := by decide +kernel
theorem dX9_fail_13 : decode cX9_fail 13 = .ok (.iload_n 2, 1) := by decide +kernel
theorem dX9_fail_14 : decode cX9_fail 14 = .ok (.putfield 73, 3) := by decide +kernel
theorem dX9_fail_17 : decode cX9_fail 17 = .ok (.return_, 1) := by decide +kernel
theorem dX9_here_0 : decode cX9_here 0 = .ok (.aload_n 0, 1) := by decide +kernel
theorem dX9_here_1 : decode cX9_here 1 = .ok (.getfield 76, 3) := by decide +kernel
theorem dX9_here_4 : decode cX9_here 4 = .ok (.aload_n 0, 1) := by decide +kernel
theorem dX9_here_5 : decode cX9_here 5 = .ok (.getfield 62, 3) := by decide +kernel
theorem dX9_here_8 : decode cX9_here 8 = .ok (.if_icmp .ge 30, 3) := by decide +kernel
theorem dX9_here_11 : decode cX9_here 11 = .ok (.aload_n 0, 1) := by decide +kernel
theorem dX9_here_12 : decode cX9_here 12 = .ok (.getfield 13, 3) := by decide +kernel
theorem dX9_here_15 : decode cX9_here 15 = .ok (.aload_n 0, 1) := by decide +kernel
theorem dX9_here_16 : decode cX9_here 16 = .ok (.getfield 76, 3) := by decide +kernel
theorem dX9_here_19 : decode cX9_here 19 = .ok (.iaload, 1) := by decide +kernel
theorem dX9_here_20 : decode cX9_here 20 = .ok (.bipush 32, 2) := by decide +kernel
theorem dX9_here_22 : decode cX9_here 22 = .ok (.if_icmp .ne 16, 3) := by decide +kernel
theorem dX9_here_25 : decode cX9_here 25 = .ok (.aload_n 0, 1) := by decide +kernel
theorem dX9_here_26 : decode cX9_here 26 = .ok (.dup, 1) := by decide +kernel
theorem dX9_here_27 : decode cX9_here 27 = .ok (.getfield 76, 3) := by decide +kernel
theorem dX9_here_30 : decode cX9_here 30 = .ok (.iconst 1, 1) := by decide +kernel
theorem dX9_here_31 : decode cX9_here 31 = .ok (.iadd, 1) := by decide +kernel
theorem dX9_here_32 : decode cX9_here 32 = .ok (.putfield 76, 3) := by decide +kernel
theorem dX9_here_35 : decode cX9_here 35 = .ok (.goto (-35), 3) := by decide +kernel
theorem dX9_here_38 : decode cX9_here 38 = .ok (.aload_n 0, 1) := by decide +kernel
theorem dX9_here_39 : decode cX9_here 39 = .ok (.getfield 76, 3) := by decide +kernel
theorem dX9_here_42 : decode cX9_here 42 = .ok (.aload_n 0, 1) := by decide +kernel
theorem dX9_here_43 : decode cX9_here 43 = .ok (.getfield 62, 3) := by decide +kernel
theorem dX9_here_46 : decode cX9_here 46 = .ok (.if_icmp .ge 15, 3) := by decide +kernel
theorem dX9_here_49 : decode cX9_here 49 = .ok (.aload_n 0, 1) := by decide +kernel
theorem dX9_here_50 : decode cX9_here 50 = .ok (.getfield 13, 3) := by decide +kernel
theorem dX9_here_53 : decode cX9_here 53 = .ok (.aload_n 0, 1) := by decide +kernel
theorem dX9_here_54 : decode cX9_here 54 = .ok (.getfield 76, 3) := by decide +kernel
theorem dX9_here_57 : decode cX9_here 57 = .ok (.iaload, 1) := by decide +kernel
theorem dX9_here_58 : decode cX9_here 58 = .ok (.goto 4, 3) := by decide +kernel
theorem dX9_here_61 : decode cX9_here 61 = .ok (.iconst 0, 1) := by decide +kernel
theorem dX9_here_62 : decode cX9_here 62 = .ok (.ireturn, 1) := by decide +kernel
theorem dX9_number_0 : decode cX9_number 0 = .ok (.aload_n 0, 1) := by decide +kernel
theorem dX9_number_1 : decode cX9_number 1 = .ok (.invokevirtual 69, 3) := by decide +kernel
theorem dX9_number_4 : decode cX9_number 4 = .ok (.ifCond .ne 5, 3) := by decide +kernel
theorem dX9_number_7 : decode cX9_number 7 = .ok (.iload_n 1, 1) := by decide +kernel
theorem dX9_number_8 : decode cX9_number 8 = .ok (.ireturn, 1) := by decide +kernel
theorem dX9_number_9 : decode cX9_number 9 = .ok (.aload_n 0, 1) := by decide +kernel
theorem dX9_number_10 : decode cX9_number 10 = .ok (.invokevirtual 79, 3) := by decide +kernel
theorem dX9_number_13 : decode cX9_number 13 = .ok (.istore_n 3, 1) := by decide +kernel
theorem dX9_number_14 : decode cX9_number 14 = .ok (.aload_n 0, 1) := by decide +kernel
theorem dX9_number_15 : decode cX9_number 15 = .ok (.aload_n 0, 1) := by decide +kernel
theorem dX9_number_16 : decode cX9_number 16 = .ok (.getfield 76, 3) := by decide +kernel
theorem dX9_number_19 : decode cX9_number 19 = .ok (.putfield 83, 3) := by decide +kernel
theorem dX9_number_22 : decode cX9_number 22 = .ok (.iconst 0, 1) := by decide +kernel
theorem dX9_number_23 : decode cX9_number 23 = .ok (.istore 4, 2) := by decide +kernel
theorem dX9_number_25 : decode cX9_number 25 = .ok (.aload_n 0, 1) := by decide +kernel
theorem dX9_number_26 : decode cX9_number 26 = .ok (.getfield 76, 3) := by decide +kernel
theorem dX9_number_29 : decode cX9_number 29 = .ok (.aload_n 0, 1) := by decide +kernel
theorem dX9_number_30 : decode cX9_number 30 = .ok (.getfield 62, 3) := by decide +kernel
theorem dX9_number_33 : decode cX9_number 33 = .ok (.if_icmp .ge 73, 3) := by decide +kernel
theorem dX9_number_36 : decode cX9_number 36 = .ok (.aload_n 0, 1) := by decide +kernel
theorem dX9_number_37 : decode cX9_number 37 = .ok (.getfield 13, 3) := by decide +kernel
theorem dX9_number_40 : decode cX9_number 40 = .ok (.aload_n 0, 1) := by decide +kernel
theorem dX9_number_41 : decode cX9_number 41 = .ok (.getfield 76, 3) := by decide +kernel
theorem dX9_number_44 : decode cX9_number 44 = .ok (.iaload, 1) := by decide +kernel
theorem dX9_number_45 : decode cX9_number 45 = .ok (.bipush 48, 2) := by decide +kernel
theorem dX9_number_47 : decode cX9_number 47 = .ok (.bipush 57, 2) := by decide +kernel
theorem dX9_number_49 : decode cX9_number 49 = .ok (.invokestatic 54, 3) := by decide +kernel
theorem dX9_number_52 : decode cX9_number 52 = .ok (.ifCond .eq 54, 3) := by decide +kernel
theorem dX9_number_55 : decode cX9_number 55 = .ok (.aload_n 0, 1) := by decide +kernel
theorem dX9_number_56 : decode cX9_number 56 = .ok (.getfield 76, 3) := by decide +kernel
theorem dX9_number_59 : decode cX9_number 59 = .ok (.aload_n 0, 1) := by decide +kernel
theorem dX9_number_60 : decode cX9_number 60 = .ok (.getfield 83, 3) := by decide +kernel
theorem dX9_number_63 : decode cX9_number 63 = .ok (.isub, 1) := by decide +kernel
theorem dX9_number_64 : decode cX9_number 64 = .ok (.iconst 3, 1) := by decide +kernel
theorem dX9_number_65 : decode cX9_number 65 = .ok (.if_icmp .ge 24, 3) := by decide +kernel
theorem dX9_number_68 : decode cX9_number 68 = .ok (.bipush 10, 2) := by decide +kernel
theorem dX9_number_70 : decode cX9_number 70 = .ok (.iload 4, 2) := by decide +kernel
theorem dX9_number_72 : decode cX9_number 72 = .ok (.imul, 1) := by decide +kernel
theorem dX9_number_73 : decode cX9_number 73 = .ok (.aload_n 0, 1) := by decide +kernel
theorem dX9_number_74 : decode cX9_number 74 = .ok (.getfield 13, 3) := by decide +kernel
theorem dX9_number_77 : decode cX9_number 77 = .ok (.aload_n 0, 1) := by decide +kernel
theorem dX9_number_78 : decode cX9_number 78 = .ok (.getfield 76, 3) := by decide +kernel
theorem dX9_number_81 : decode cX9_number 81 = .ok (.iaload, 1) := by decide +kernel
theorem dX9_number_82 : decode cX9_number 82 = .ok (.iadd, 1) := by decide +kernel
theorem dX9_number_83 : decode cX9_number 83 = .ok (.bipush 48, 2) := by decide +kernel
theorem dX9_number_85 : decode cX9_number 85 = .ok (.isub, 1) := by decide +kernel
theorem dX9_number_86 : decode cX9_number 86 = .ok (.goto 5, 3) := by decide +kernel
theorem dX9_number_89 : decode cX9_number 89 = .ok (.iload 4, 2) := by decide +kernel
theorem dX9_number_91 : decode cX9_number 91 = .ok (.istore 4, 2) := by decide +kernel
theorem dX9_number_93 : decode cX9_number 93 = .ok (.aload_n 0, 1) := by decide +kernel
theorem dX9_number_94 : decode cX9_number 94 = .ok (.dup, 1) := by decide +kernel
theorem dX9_number_95 : decode cX9_number 95 = .ok (.getfield 76, 3) := by decide +kernel
theorem dX9_number_98 : decode cX9_number 98 = .ok (.iconst 1, 1) := by decide +kernel
theorem dX9_number_99 : decode cX9_number 99 = .ok (.iadd, 1) := by decide +kernel
theorem dX9_number_100 : decode cX9_number 100 = .ok (.putfield 76, 3) := by decide +kernel
theorem dX9_number_103 : decode cX9_number 103 = .ok (.goto (-78), 3) := by decide +kernel
theorem dX9_number_106 : decode cX9_number 106 = .ok (.iload_n 3, 1) := by decide +kernel
theorem dX9_number_107 : decode cX9_number 107 = .ok (.bipush 48, 2) := by decide +kernel
theorem dX9_number_109 : decode cX9_number 109 = .ok (.bipush 57, 2) := by decide +kernel
theorem dX9_number_111 : decode cX9_number 111 = .ok (.invokestatic 54, 3) := by decide +kernel
theorem dX9_number_114 : decode cX9_number 114 = .ok (.ifCond .ne 15, 3) := by decide +kernel
theorem dX9_number_117 : decode cX9_number 117 = .ok (.aload_n 0, 1) := by decide +kernel
theorem dX9_number_118 : decode cX9_number 118 = .ok (.iconst 1, 1) := by decide +kernel
theorem dX9_number_119 : decode cX9_number 119 = .ok (.aload_n 0, 1) := by decide +kernel
theorem dX9_number_120 : decode cX9_number 120 = .ok (.getfield 83, 3) := by decide +kernel
theorem dX9_number_123 : decode cX9_number 123 = .ok (.invokevirtual 86, 3) := by decide +kernel
theorem dX9_number_126 : decode cX9_number 126 = .ok (.goto 35, 3) := by decide +kernel
theorem dX9_number_129 : decode cX9_number 129 = .ok (.aload_n 0, 1) := by decide +kernel
theorem dX9_number_130 : decode cX9_number 130 = .ok (.getfield 76, 3) := by decide +kernel
theorem dX9_number_133 : decode cX9_number 133 = .ok (.aload_n 0, 1) := by decide +kernel
theorem dX9_number_134 : decode cX9_number 134 = .ok (.getfield 83, 3) := by decide +kernel
theorem dX9_number_137 : decode cX9_number 137 = .ok (.isub, 1) := by decide +kernel
theorem dX9_number_138 : decode cX9_number 138 = .ok (.iconst 3, 1) := by decide +kernel
theorem dX9_number_139 : decode cX9_number 139 = .ok (.if_icmp .gt 13, 3) := by decide +kernel
theorem dX9_number_142 : decode cX9_number 142 = .ok (.iload 4, 2) := by decide +kernel
theorem dX9_number_144 : decode cX9_number 144 = .ok (.iload_n 1, 1) := by decide +kernel
theorem dX9_number_145 : decode cX9_number 145 = .ok (.iload_n 2, 1) := by decide +kernel
theorem dX9_number_146 : decode cX9_number 146 = .ok (.invokestatic 54, 3) := by decide +kernel
theorem dX9_number_149 : decode cX9_number 149 = .ok (.ifCond .ne 12, 3) := by decide +kernel
theorem dX9_number_152 : decode cX9_number 152 = .ok (.aload_n 0, 1) := by decide +kernel
theorem dX9_number_153 : decode cX9_number 153 = .ok (.iconst 2, 1) := by decide +kernel
theorem dX9_number_154 : decode cX9_number 154 = .ok (.aload_n 0, 1) := by decide +kernel
theorem dX9_number_155 : decode cX9_number 155 = .ok (.getfield 83, 3) := by decide +kernel
theorem dX9_number_158 : decode cX9_number 158 = .ok (.invokevirtual 86, 3) := by decide +kernel
theorem dX9_number_161 : decode cX9_number 161 = .ok (.iload 4, 2) := by decide +kernel
theorem dX9_number_163 : decode cX9_number 163 = .ok (.ireturn, 1) := by decide +kernel
theorem dX9_sitterIn_0 : decode cX9_sitterIn 0 = .ok (.iconst 0, 1) := by decide +kernel
theorem dX9_sitterIn_1 : decode cX9_sitterIn 1 = .ok (.istore 4, 2) := by decide +kernel
theorem dX9_sitterIn_3 : decode cX9_sitterIn 3 = .ok (.iload 4, 2) := by decide +kernel
theorem dX9_sitterIn_5 : decode cX9_sitterIn 5 = .ok (.iload_n 2, 1) := by decide +kernel
theorem dX9_sitterIn_6 : decode cX9_sitterIn 6 = .ok (.if_icmp .ge 28, 3) := by decide +kernel
theorem dX9_sitterIn_9 : decode cX9_sitterIn 9 = .ok (.aload_n 0, 1) := by decide +kernel
theorem dX9_sitterIn_10 : decode cX9_sitterIn 10 = .ok (.getfield 7, 3) := by decide +kernel
theorem dX9_sitterIn_13 : decode cX9_sitterIn 13 = .ok (.iload_n 1, 1) := by decide +kernel
theorem dX9_sitterIn_14 : decode cX9_sitterIn 14 = .ok (.bipush 54, 2) := by decide +kernel
theorem dX9_sitterIn_16 : decode cX9_sitterIn 16 = .ok (.iadd, 1) := by decide +kernel
theorem dX9_sitterIn_17 : decode cX9_sitterIn 17 = .ok (.iload 4, 2) := by decide +kernel
theorem dX9_sitterIn_19 : decode cX9_sitterIn 19 = .ok (.iadd, 1) := by decide +kernel
theorem dX9_sitterIn_20 : decode cX9_sitterIn 20 = .ok (.iaload, 1) := by decide +kernel
theorem dX9_sitterIn_21 : decode cX9_sitterIn 21 = .ok (.iload_n 3, 1) := by decide +kernel
theorem dX9_sitterIn_22 : decode cX9_sitterIn 22 = .ok (.if_icmp .ne 6, 3) := by decide +kernel
theorem dX9_sitterIn_25 : decode cX9_sitterIn 25 = .ok (.iload 4, 2) := by decide +kernel
theorem dX9_sitterIn_27 : decode cX9_sitterIn 27 = .ok (.ireturn, 1) := by decide +kernel
theorem dX9_sitterIn_28 : decode cX9_sitterIn 28 = .ok (.iinc 4 1, 3) := by decide +kernel
theorem dX9_sitterIn_31 : decode cX9_sitterIn 31 = .ok (.goto (-28), 3) := by decide +kernel
theorem dX9_sitterIn_34 : decode cX9_sitterIn 34 = .ok (.iconst (-1), 1) := by decide +kernel
theorem dX9_sitterIn_35 : decode cX9_sitterIn 35 = .ok (.ireturn, 1) := by decide +kernel
theorem dX9_placeOfLike_0 : decode cX9_placeOfLike 0 = .ok (.iconst 0, 1) := by decide +kernel
theorem dX9_placeOfLike_1 : decode cX9_placeOfLike 1 = .ok (.istore 4, 2) := by decide +kernel
theorem dX9_placeOfLike_3 : decode cX9_placeOfLike 3 = .ok (.iload 4, 2) := by decide +kernel
theorem dX9_placeOfLike_5 : decode cX9_placeOfLike 5 = .ok (.aload_n 0, 1) := by decide +kernel
theorem dX9_placeOfLike_6 : decode cX9_placeOfLike 6 = .ok (.getfield 7, 3) := by decide +kernel
theorem dX9_placeOfLike_9 : decode cX9_placeOfLike 9 = .ok (.iload_n 1, 1) := by decide +kernel
theorem dX9_placeOfLike_10 : decode cX9_placeOfLike 10 = .ok (.bipush 48, 2) := by decide +kernel
theorem dX9_placeOfLike_12 : decode cX9_placeOfLike 12 = .ok (.iadd, 1) := by decide +kernel
theorem dX9_placeOfLike_13 : decode cX9_placeOfLike 13 = .ok (.iload_n 2, 1) := by decide +kernel
theorem dX9_placeOfLike_14 : decode cX9_placeOfLike 14 = .ok (.iadd, 1) := by decide +kernel
theorem dX9_placeOfLike_15 : decode cX9_placeOfLike 15 = .ok (.iaload, 1) := by decide +kernel
theorem dX9_placeOfLike_16 : decode cX9_placeOfLike 16 = .ok (.if_icmp .ge 30, 3) := by decide +kernel
theorem dX9_placeOfLike_19 : decode cX9_placeOfLike 19 = .ok (.aload_n 0, 1) := by decide +kernel
theorem dX9_placeOfLike_20 : decode cX9_placeOfLike 20 = .ok (.getfield 7, 3) := by decide +kernel
theorem dX9_placeOfLike_23 : decode cX9_placeOfLike 23 = .ok (.iload_n 1, 1) := by decide +kernel
theorem dX9_placeOfLike_24 : decode cX9_placeOfLike 24 = .ok (.bipush 8, 2) := by decide +kernel
theorem dX9_placeOfLike_26 : decode cX9_placeOfLike 26 = .ok (.iload_n 2, 1) := by decide +kernel
theorem dX9_placeOfLike_27 : decode cX9_placeOfLike 27 = .ok (.imul, 1) := by decide +kernel
theorem dX9_placeOfLike_28 : decode cX9_placeOfLike 28 = .ok (.iadd, 1) := by decide +kernel
theorem dX9_placeOfLike_29 : decode cX9_placeOfLike 29 = .ok (.iload 4, 2) := by decide +kernel
theorem dX9_placeOfLike_31 : decode cX9_placeOfLike 31 = .ok (.iadd, 1) := by decide +kernel
theorem dX9_placeOfLike_32 : decode cX9_placeOfLike 32 = .ok (.iaload, 1) := by decide +kernel
theorem dX9_placeOfLike_33 : decode cX9_placeOfLike 33 = .ok (.iload_n 3, 1) := by decide +kernel
theorem dX9_placeOfLike_34 : decode cX9_placeOfLike 34 = .ok (.if_icmp .ne 6, 3) := by decide +kernel
theorem dX9_placeOfLike_37 : decode cX9_placeOfLike 37 = .ok (.iload 4, 2) := by decide +kernel
theorem dX9_placeOfLike_39 : decode cX9_placeOfLike 39 = .ok (.ireturn, 1) := by decide +kernel
theorem dX9_placeOfLike_40 : decode cX9_placeOfLike 40 = .ok (.iinc 4 1, 3) := by decide +kernel
theorem dX9_placeOfLike_43 : decode cX9_placeOfLike 43 = .ok (.goto (-40), 3) := by decide +kernel
theorem dX9_placeOfLike_46 : decode cX9_placeOfLike 46 = .ok (.iconst (-1), 1) := by decide +kernel
theorem dX9_placeOfLike_47 : decode cX9_placeOfLike 47 = .ok (.ireturn, 1) := by decide +kernel
theorem dX9_readLike_0 : decode cX9_readLike 0 = .ok (.aload_n 0, 1) := by decide +kernel
theorem dX9_readLike_1 : decode cX9_readLike 1 = .ok (.iconst 0, 1) := by decide +kernel
theorem dX9_readLike_2 : decode cX9_readLike 2 = .ok (.aload_n 0, 1) := by decide +kernel
theorem dX9_readLike_3 : decode cX9_readLike 3 = .ok (.getfield 90, 3) := by decide +kernel
theorem dX9_readLike_6 : decode cX9_readLike 6 = .ok (.iconst 1, 1) := by decide +kernel
theorem dX9_readLike_7 : decode cX9_readLike 7 = .ok (.isub, 1) := by decide +kernel
theorem dX9_readLike_8 : decode cX9_readLike 8 = .ok (.invokevirtual 93, 3) := by decide +kernel
theorem dX9_readLike_11 : decode cX9_readLike 11 = .ok (.istore_n 2, 1) := by decide +kernel
theorem dX9_readLike_12 : decode cX9_readLike 12 = .ok (.aload_n 0, 1) := by decide +kernel
theorem dX9_readLike_13 : decode cX9_readLike 13 = .ok (.invokevirtual 69, 3) := by decide +kernel
theorem dX9_readLike_16 : decode cX9_readLike 16 = .ok (.ifCond .eq 25, 3) := by decide +kernel
theorem dX9_readLike_19 : decode cX9_readLike 19 = .ok (.aload_n 0, 1) := by decide +kernel
theorem dX9_readLike_20 : decode cX9_readLike 20 = .ok (.sipush 1541, 3) := by decide +kernel
theorem dX9_readLike_23 : decode cX9_readLike 23 = .ok (.iload_n 1, 1) := by decide +kernel
theorem dX9_readLike_24 : decode cX9_readLike 24 = .ok (.iload_n 2, 1) := by decide +kernel
theorem dX9_readLike_25 : decode cX9_readLike 25 = .ok (.invokevirtual 97, 3) := by decide +kernel
theorem dX9_readLike_28 : decode cX9_readLike 28 = .ok (.iconst (-1), 1) := by decide +kernel
theorem dX9_readLike_29 : decode cX9_readLike 29 = .ok (.if_icmp .eq 12, 3) := by decide +kernel
theorem dX9_readLike_32 : decode cX9_readLike 32 = .ok (.aload_n 0, 1) := by decide +kernel
theorem dX9_readLike_33 : decode cX9_readLike 33 = .ok (.iconst 4, 1) := by decide +kernel
theorem dX9_readLike_34 : decode cX9_readLike 34 = .ok (.aload_n 0, 1) := by decide +kernel
theorem dX9_readLike_35 : decode cX9_readLike 35 = .ok (.getfield 83, 3) := by decide +kernel
theorem dX9_readLike_38 : decode cX9_readLike 38 = .ok (.invokevirtual 86, 3) := by decide +kernel
theorem dX9_readLike_41 : decode cX9_readLike 41 = .ok (.aload_n 0, 1) := by decide +kernel
theorem dX9_readLike_42 : decode cX9_readLike 42 = .ok (.invokevirtual 69, 3) := by decide +kernel
theorem dX9_readLike_45 : decode cX9_readLike 45 = .ok (.ifCond .eq 42, 3) := by decide +kernel
theorem dX9_readLike_48 : decode cX9_readLike 48 = .ok (.aload_n 0, 1) := by decide +kernel
theorem dX9_readLike_49 : decode cX9_readLike 49 = .ok (.getfield 7, 3) := by decide +kernel
theorem dX9_readLike_52 : decode cX9_readLike 52 = .ok (.sipush 1541, 3) := by decide +kernel
theorem dX9_readLike_55 : decode cX9_readLike 55 = .ok (.bipush 8, 2) := by decide +kernel
theorem dX9_readLike_57 : decode cX9_readLike 57 = .ok (.iload_n 1, 1) := by decide +kernel
theorem dX9_readLike_58 : decode cX9_readLike 58 = .ok (.imul, 1) := by decide +kernel
theorem dX9_readLike_59 : decode cX9_readLike 59 = .ok (.iadd, 1) := by decide +kernel
theorem dX9_readLike_60 : decode cX9_readLike 60 = .ok (.aload_n 0, 1) := by decide +kernel
theorem dX9_readLike_61 : decode cX9_readLike 61 = .ok (.getfield 7, 3) := by decide +kernel
theorem dX9_readLike_64 : decode cX9_readLike 64 = .ok (.sipush 1589, 3) := by decide +kernel
theorem dX9_readLike_67 : decode cX9_readLike 67 = .ok (.iload_n 1, 1) := by decide +kernel
theorem dX9_readLike_68 : decode cX9_readLike 68 = .ok (.iadd, 1) := by decide +kernel
theorem dX9_readLike_69 : decode cX9_readLike 69 = .ok (.iaload, 1) := by decide +kernel
theorem dX9_readLike_70 : decode cX9_readLike 70 = .ok (.iadd, 1) := by decide +kernel
theorem dX9_readLike_71 : decode cX9_readLike 71 = .ok (.iload_n 2, 1) := by decide +kernel
theorem dX9_readLike_72 : decode cX9_readLike 72 = .ok (.iastore, 1) := by decide +kernel
theorem dX9_readLike_73 : decode cX9_readLike 73 = .ok (.aload_n 0, 1) := by decide +kernel
theorem dX9_readLike_74 : decode cX9_readLike 74 = .ok (.getfield 7, 3) := by decide +kernel
theorem dX9_readLike_77 : decode cX9_readLike 77 = .ok (.sipush 1589, 3) := by decide +kernel
theorem dX9_readLike_80 : decode cX9_readLike 80 = .ok (.iload_n 1, 1) := by decide +kernel
theorem dX9_readLike_81 : decode cX9_readLike 81 = .ok (.iadd, 1) := by decide +kernel
theorem dX9_readLike_82 : decode cX9_readLike 82 = .ok (.dup2, 1) := by decide +kernel
theorem dX9_readLike_83 : decode cX9_readLike 83 = .ok (.iaload, 1) := by decide +kernel
theorem dX9_readLike_84 : decode cX9_readLike 84 = .ok (.iconst 1, 1) := by decide +kernel
theorem dX9_readLike_85 : decode cX9_readLike 85 = .ok (.iadd, 1) := by decide +kernel
theorem dX9_readLike_86 : decode cX9_readLike 86 = .ok (.iastore, 1) := by decide +kernel
theorem dX9_readLike_87 : decode cX9_readLike 87 = .ok (.return_, 1) := by decide +kernel
theorem dX9_readPerson_0 : decode cX9_readPerson 0 = .ok (.aload_n 0, 1) := by decide +kernel
theorem dX9_readPerson_1 : decode cX9_readPerson 1 = .ok (.getfield 101, 3) := by decide +kernel
theorem dX9_readPerson_4 : decode cX9_readPerson 4 = .ok (.istore_n 2, 1) := by decide +kernel
theorem dX9_readPerson_5 : decode cX9_readPerson 5 = .ok (.aload_n 0, 1) := by decide +kernel
theorem dX9_readPerson_6 : decode cX9_readPerson 6 = .ok (.getfield 7, 3) := by decide +kernel
theorem dX9_readPerson_9 : decode cX9_readPerson 9 = .ok (.sipush 1589, 3) := by decide +kernel
theorem dX9_readPerson_12 : decode cX9_readPerson 12 = .ok (.iload_n 2, 1) := by decide +kernel
theorem dX9_readPerson_13 : decode cX9_readPerson 13 = .ok (.iadd, 1) := by decide +kernel
theorem dX9_readPerson_14 : decode cX9_readPerson 14 = .ok (.iconst 0, 1) := by decide +kernel
theorem dX9_readPerson_15 : decode cX9_readPerson 15 = .ok (.iastore, 1) := by decide +kernel
theorem dX9_readPerson_16 : decode cX9_readPerson 16 = .ok (.aload_n 0, 1) := by decide +kernel
theorem dX9_readPerson_17 : decode cX9_readPerson 17 = .ok (.getfield 7, 3) := by decide +kernel
theorem dX9_readPerson_20 : decode cX9_readPerson 20 = .ok (.sipush 1595, 3) := by decide +kernel
theorem dX9_readPerson_23 : decode cX9_readPerson 23 = .ok (.iload_n 2, 1) := by decide +kernel
theorem dX9_readPerson_24 : decode cX9_readPerson 24 = .ok (.iadd, 1) := by decide +kernel
theorem dX9_readPerson_25 : decode cX9_readPerson 25 = .ok (.iconst (-1), 1) := by decide +kernel
theorem dX9_readPerson_26 : decode cX9_readPerson 26 = .ok (.iastore, 1) := by decide +kernel
theorem dX9_readPerson_27 : decode cX9_readPerson 27 = .ok (.iload_n 1, 1) := by decide +kernel
theorem dX9_readPerson_28 : decode cX9_readPerson 28 = .ok (.bipush 116, 2) := by decide +kernel
theorem dX9_readPerson_30 : decode cX9_readPerson 30 = .ok (.if_icmp .ne 58, 3) := by decide +kernel
theorem dX9_readPerson_33 : decode cX9_readPerson 33 = .ok (.aload_n 0, 1) := by decide +kernel
theorem dX9_readPerson_34 : decode cX9_readPerson 34 = .ok (.iconst 0, 1) := by decide +kernel
theorem dX9_readPerson_35 : decode cX9_readPerson 35 = .ok (.aload_n 0, 1) := by decide +kernel
theorem dX9_readPerson_36 : decode cX9_readPerson 36 = .ok (.getfield 90, 3) := by decide +kernel
theorem dX9_readPerson_39 : decode cX9_readPerson 39 = .ok (.iconst 1, 1) := by decide +kernel
theorem dX9_readPerson_40 : decode cX9_readPerson 40 = .ok (.isub, 1) := by decide +kernel
theorem dX9_readPerson_41 : decode cX9_readPerson 41 = .ok (.invokevirtual 93, 3) := by decide +kernel
theorem dX9_readPerson_44 : decode cX9_readPerson 44 = .ok (.istore_n 3, 1) := by decide +kernel
theorem dX9_readPerson_45 : decode cX9_readPerson 45 = .ok (.aload_n 0, 1) := by decide +kernel
theorem dX9_readPerson_46 : decode cX9_readPerson 46 = .ok (.invokevirtual 69, 3) := by decide +kernel
theorem dX9_readPerson_49 : decode cX9_readPerson 49 = .ok (.ifCond .eq 25, 3) := by decide +kernel
theorem dX9_readPerson_52 : decode cX9_readPerson 52 = .ok (.aload_n 0, 1) := by decide +kernel
theorem dX9_readPerson_53 : decode cX9_readPerson 53 = .ok (.sipush 1541, 3) := by decide +kernel
theorem dX9_readPerson_56 : decode cX9_readPerson 56 = .ok (.iload_n 2, 1) := by decide +kernel
theorem dX9_readPerson_57 : decode cX9_readPerson 57 = .ok (.iload_n 3, 1) := by decide +kernel
theorem dX9_readPerson_58 : decode cX9_readPerson 58 = .ok (.invokevirtual 104, 3) := by decide +kernel
theorem dX9_readPerson_61 : decode cX9_readPerson 61 = .ok (.iconst (-1), 1) := by decide +kernel
theorem dX9_readPerson_62 : decode cX9_readPerson 62 = .ok (.if_icmp .eq 12, 3) := by decide +kernel
theorem dX9_readPerson_65 : decode cX9_readPerson 65 = .ok (.aload_n 0, 1) := by decide +kernel
theorem dX9_readPerson_66 : decode cX9_readPerson 66 = .ok (.iconst 4, 1) := by decide +kernel
theorem dX9_readPerson_67 : decode cX9_readPerson 67 = .ok (.aload_n 0, 1) := by decide +kernel
theorem dX9_readPerson_68 : decode cX9_readPerson 68 = .ok (.getfield 83, 3) := by decide +kernel
theorem dX9_readPerson_71 : decode cX9_readPerson 71 = .ok (.invokevirtual 86, 3) := by decide +kernel
theorem dX9_readPerson_74 : decode cX9_readPerson 74 = .ok (.aload_n 0, 1) := by decide +kernel
theorem dX9_readPerson_75 : decode cX9_readPerson 75 = .ok (.getfield 7, 3) := by decide +kernel
theorem dX9_readPerson_78 : decode cX9_readPerson 78 = .ok (.sipush 1595, 3) := by decide +kernel
theorem dX9_readPerson_81 : decode cX9_readPerson 81 = .ok (.iload_n 2, 1) := by decide +kernel
theorem dX9_readPerson_82 : decode cX9_readPerson 82 = .ok (.iadd, 1) := by decide +kernel
theorem dX9_readPerson_83 : decode cX9_readPerson 83 = .ok (.iload_n 3, 1) := by decide +kernel
theorem dX9_readPerson_84 : decode cX9_readPerson 84 = .ok (.iastore, 1) := by decide +kernel
theorem dX9_readPerson_85 : decode cX9_readPerson 85 = .ok (.goto 8, 3) := by decide +kernel
theorem dX9_readPerson_88 : decode cX9_readPerson 88 = .ok (.aload_n 0, 1) := by decide +kernel
theorem dX9_readPerson_89 : decode cX9_readPerson 89 = .ok (.iload_n 2, 1) := by decide +kernel
theorem dX9_readPerson_90 : decode cX9_readPerson 90 = .ok (.invokevirtual 107, 3) := by decide +kernel
theorem dX9_readPerson_93 : decode cX9_readPerson 93 = .ok (.aload_n 0, 1) := by decide +kernel
theorem dX9_readPerson_94 : decode cX9_readPerson 94 = .ok (.invokevirtual 69, 3) := by decide +kernel
theorem dX9_readPerson_97 : decode cX9_readPerson 97 = .ok (.ifCond .eq 30, 3) := by decide +kernel
theorem dX9_readPerson_100 : decode cX9_readPerson 100 = .ok (.aload_n 0, 1) := by decide +kernel
theorem dX9_readPerson_101 : decode cX9_readPerson 101 = .ok (.invokevirtual 79, 3) := by decide +kernel
theorem dX9_readPerson_104 : decode cX9_readPerson 104 = .ok (.bipush 44, 2) := by decide +kernel
theorem dX9_readPerson_106 : decode cX9_readPerson 106 = .ok (.if_icmp .ne 21, 3) := by decide +kernel
theorem dX9_readPerson_109 : decode cX9_readPerson 109 = .ok (.aload_n 0, 1) := by decide +kernel
theorem dX9_readPerson_110 : decode cX9_readPerson 110 = .ok (.dup, 1) := by decide +kernel
theorem dX9_readPerson_111 : decode cX9_readPerson 111 = .ok (.getfield 76, 3) := by decide +kernel
theorem dX9_readPerson_114 : decode cX9_readPerson 114 = .ok (.iconst 1, 1) := by decide +kernel
theorem dX9_readPerson_115 : decode cX9_readPerson 115 = .ok (.iadd, 1) := by decide +kernel
theorem dX9_readPerson_116 : decode cX9_readPerson 116 = .ok (.putfield 76, 3) := by decide +kernel
theorem dX9_readPerson_119 : decode cX9_readPerson 119 = .ok (.aload_n 0, 1) := by decide +kernel
theorem dX9_readPerson_120 : decode cX9_readPerson 120 = .ok (.iload_n 2, 1) := by decide +kernel
theorem dX9_readPerson_121 : decode cX9_readPerson 121 = .ok (.invokevirtual 107, 3) := by decide +kernel
theorem dX9_readPerson_124 : decode cX9_readPerson 124 = .ok (.goto (-31), 3) := by decide +kernel
theorem dX9_readPerson_127 : decode cX9_readPerson 127 = .ok (.aload_n 0, 1) := by decide +kernel
theorem dX9_readPerson_128 : decode cX9_readPerson 128 = .ok (.dup, 1) := by decide +kernel
theorem dX9_readPerson_129 : decode cX9_readPerson 129 = .ok (.getfield 101, 3) := by decide +kernel
theorem dX9_readPerson_132 : decode cX9_readPerson 132 = .ok (.iconst 1, 1) := by decide +kernel
theorem dX9_readPerson_133 : decode cX9_readPerson 133 = .ok (.iadd, 1) := by decide +kernel
theorem dX9_readPerson_134 : decode cX9_readPerson 134 = .ok (.putfield 101, 3) := by decide +kernel
theorem dX9_readPerson_137 : decode cX9_readPerson 137 = .ok (.return_, 1) := by decide +kernel
theorem dX9_readClause_0 : decode cX9_readClause 0 = .ok (.aload_n 0, 1) := by decide +kernel
theorem dX9_readClause_1 : decode cX9_readClause 1 = .ok (.invokevirtual 79, 3) := by decide +kernel
theorem dX9_readClause_4 : decode cX9_readClause 4 = .ok (.istore_n 1, 1) := by decide +kernel
theorem dX9_readClause_5 : decode cX9_readClause 5 = .ok (.aload_n 0, 1) := by decide +kernel
theorem dX9_readClause_6 : decode cX9_readClause 6 = .ok (.getfield 76, 3) := by decide +kernel
theorem dX9_readClause_9 : decode cX9_readClause 9 = .ok (.istore_n 2, 1) := by decide +kernel
theorem dX9_readClause_10 : decode cX9_readClause 10 = .ok (.aload_n 0, 1) := by decide +kernel
theorem dX9_readClause_11 : decode cX9_readClause 11 = .ok (.dup, 1) := by decide +kernel
theorem dX9_readClause_12 : decode cX9_readClause 12 = .ok (.getfield 76, 3) := by decide +kernel
theorem dX9_readClause_15 : decode cX9_readClause 15 = .ok (.iconst 1, 1) := by decide +kernel
theorem dX9_readClause_16 : decode cX9_readClause 16 = .ok (.iadd, 1) := by decide +kernel
theorem dX9_readClause_17 : decode cX9_readClause 17 = .ok (.putfield 76, 3) := by decide +kernel
theorem dX9_readClause_20 : decode cX9_readClause 20 = .ok (.iload_n 1, 1) := by decide +kernel
theorem dX9_readClause_21 : decode cX9_readClause 21 = .ok (.bipush 114, 2) := by decide +kernel
theorem dX9_readClause_23 : decode cX9_readClause 23 = .ok (.if_icmp .eq 15, 3) := by decide +kernel
theorem dX9_readClause_26 : decode cX9_readClause 26 = .ok (.iload_n 1, 1) := by decide +kernel
theorem dX9_readClause_27 : decode cX9_readClause 27 = .ok (.bipush 116, 2) := by decide +kernel
theorem dX9_readClause_29 : decode cX9_readClause 29 = .ok (.if_icmp .eq 9, 3) := by decide +kernel
theorem dX9_readClause_32 : decode cX9_readClause 32 = .ok (.iload_n 1, 1) := by decide +kernel
theorem dX9_readClause_33 : decode cX9_readClause 33 = .ok (.bipush 110, 2) := by decide +kernel
theorem dX9_readClause_35 : decode cX9_readClause 35 = .ok (.if_icmp .ne 7, 3) := by decide +kernel
theorem dX9_readClause_38 : decode cX9_readClause 38 = .ok (.iconst 1, 1) := by decide +kernel
theorem dX9_readClause_39 : decode cX9_readClause 39 = .ok (.goto 4, 3) := by decide +kernel
theorem dX9_readClause_42 : decode cX9_readClause 42 = .ok (.iconst 0, 1) := by decide +kernel
theorem dX9_readClause_43 : decode cX9_readClause 43 = .ok (.istore_n 3, 1) := by decide +kernel
theorem dX9_readClause_44 : decode cX9_readClause 44 = .ok (.iload_n 3, 1) := by decide +kernel
theorem dX9_readClause_45 : decode cX9_readClause 45 = .ok (.ifCond .eq 16, 3) := by decide +kernel
theorem dX9_readClause_48 : decode cX9_readClause 48 = .ok (.iload_n 1, 1) := by decide +kernel
theorem dX9_readClause_49 : decode cX9_readClause 49 = .ok (.bipush 114, 2) := by decide +kernel
theorem dX9_readClause_51 : decode cX9_readClause 51 = .ok (.if_icmp .eq 19, 3) := by decide +kernel
theorem dX9_readClause_54 : decode cX9_readClause 54 = .ok (.aload_n 0, 1) := by decide +kernel
theorem dX9_readClause_55 : decode cX9_readClause 55 = .ok (.getfield 90, 3) := by decide +kernel
theorem dX9_readClause_58 : decode cX9_readClause 58 = .ok (.ifCond .ne 12, 3) := by decide +kernel
theorem dX9_readClause_61 : decode cX9_readClause 61 = .ok (.aload_n 0, 1) := by decide +kernel
theorem dX9_readClause_62 : decode cX9_readClause 62 = .ok (.iconst 1, 1) := by decide +kernel
theorem dX9_readClause_63 : decode cX9_readClause 63 = .ok (.iload_n 2, 1) := by decide +kernel
theorem dX9_readClause_64 : decode cX9_readClause 64 = .ok (.invokevirtual 86, 3) := by decide +kernel
theorem dX9_readClause_67 : decode cX9_readClause 67 = .ok (.goto 65, 3) := by decide +kernel
theorem dX9_readClause_70 : decode cX9_readClause 70 = .ok (.iload_n 1, 1) := by decide +kernel
theorem dX9_readClause_71 : decode cX9_readClause 71 = .ok (.bipush 114, 2) := by decide +kernel
theorem dX9_readClause_73 : decode cX9_readClause 73 = .ok (.if_icmp .ne 10, 3) := by decide +kernel
theorem dX9_readClause_76 : decode cX9_readClause 76 = .ok (.aload_n 0, 1) := by decide +kernel
theorem dX9_readClause_77 : decode cX9_readClause 77 = .ok (.getfield 90, 3) := by decide +kernel
theorem dX9_readClause_80 : decode cX9_readClause 80 = .ok (.ifCond .gt 18, 3) := by decide +kernel
theorem dX9_readClause_83 : decode cX9_readClause 83 = .ok (.iload_n 1, 1) := by decide +kernel
theorem dX9_readClause_84 : decode cX9_readClause 84 = .ok (.bipush 114, 2) := by decide +kernel
theorem dX9_readClause_86 : decode cX9_readClause 86 = .ok (.if_icmp .eq 21, 3) := by decide +kernel
theorem dX9_readClause_89 : decode cX9_readClause 89 = .ok (.aload_n 0, 1) := by decide +kernel
theorem dX9_readClause_90 : decode cX9_readClause 90 = .ok (.getfield 101, 3) := by decide +kernel
theorem dX9_readClause_93 : decode cX9_readClause 93 = .ok (.bipush 6, 2) := by decide +kernel
theorem dX9_readClause_95 : decode cX9_readClause 95 = .ok (.if_icmp .ne 12, 3) := by decide +kernel
theorem dX9_readClause_98 : decode cX9_readClause 98 = .ok (.aload_n 0, 1) := by decide +kernel
theorem dX9_readClause_99 : decode cX9_readClause 99 = .ok (.iconst 3, 1) := by decide +kernel
theorem dX9_readClause_100 : decode cX9_readClause 100 = .ok (.iload_n 2, 1) := by decide +kernel
theorem dX9_readClause_101 : decode cX9_readClause 101 = .ok (.invokevirtual 86, 3) := by decide +kernel
theorem dX9_readClause_104 : decode cX9_readClause 104 = .ok (.goto 28, 3) := by decide +kernel
theorem dX9_readClause_107 : decode cX9_readClause 107 = .ok (.iload_n 1, 1) := by decide +kernel
theorem dX9_readClause_108 : decode cX9_readClause 108 = .ok (.bipush 114, 2) := by decide +kernel
theorem dX9_readClause_110 : decode cX9_readClause 110 = .ok (.if_icmp .ne 17, 3) := by decide +kernel
theorem dX9_readClause_113 : decode cX9_readClause 113 = .ok (.aload_n 0, 1) := by decide +kernel
theorem dX9_readClause_114 : decode cX9_readClause 114 = .ok (.aload_n 0, 1) := by decide +kernel
theorem dX9_readClause_115 : decode cX9_readClause 115 = .ok (.iconst 1, 1) := by decide +kernel
theorem dX9_readClause_116 : decode cX9_readClause 116 = .ok (.bipush 8, 2) := by decide +kernel
theorem dX9_readClause_118 : decode cX9_readClause 118 = .ok (.invokevirtual 93, 3) := by decide +kernel
theorem dX9_readClause_121 : decode cX9_readClause 121 = .ok (.putfield 90, 3) := by decide +kernel
theorem dX9_readClause_124 : decode cX9_readClause 124 = .ok (.goto 8, 3) := by decide +kernel
theorem dX9_readClause_127 : decode cX9_readClause 127 = .ok (.aload_n 0, 1) := by decide +kernel
theorem dX9_readClause_128 : decode cX9_readClause 128 = .ok (.iload_n 1, 1) := by decide +kernel
theorem dX9_readClause_129 : decode cX9_readClause 129 = .ok (.invokevirtual 110, 3) := by decide +kernel
theorem dX9_readClause_132 : decode cX9_readClause 132 = .ok (.aload_n 0, 1) := by decide +kernel
theorem dX9_readClause_133 : decode cX9_readClause 133 = .ok (.invokevirtual 69, 3) := by decide +kernel
theorem dX9_readClause_136 : decode cX9_readClause 136 = .ok (.ifCond .eq 31, 3) := by decide +kernel
end
section
theorem dX9_readClause_139 : decode cX9_readClause 139 = .ok (.aload_n 0, 1) := by decide +kernel
theorem dX9_readClause_140 : decode cX9_readClause 140 = .ok (.invokevirtual 79, 3) := by decide +kernel
theorem dX9_readClause_143 : decode cX9_readClause 143 = .ok (.bipush 59, 2) := by decide +kernel
theorem dX9_readClause_145 : decode cX9_readClause 145 = .ok (.if_icmp .eq 12, 3) := by decide +kernel
theorem dX9_readClause_148 : decode cX9_readClause 148 = .ok (.aload_n 0, 1) := by decide +kernel
theorem dX9_readClause_149 : decode cX9_readClause 149 = .ok (.iconst 1, 1) := by decide +kernel
theorem dX9_readClause_150 : decode cX9_readClause 150 = .ok (.aload_n 0, 1) := by decide +kernel
theorem dX9_readClause_151 : decode cX9_readClause 151 = .ok (.getfield 76, 3) := by decide +kernel
theorem dX9_readClause_154 : decode cX9_readClause 154 = .ok (.invokevirtual 86, 3) := by decide +kernel
theorem dX9_readClause_157 : decode cX9_readClause 157 = .ok (.aload_n 0, 1) := by decide +kernel
theorem dX9_readClause_158 : decode cX9_readClause 158 = .ok (.dup, 1) := by decide +kernel
theorem dX9_readClause_159 : decode cX9_readClause 159 = .ok (.getfield 76, 3) := by decide +kernel
theorem dX9_readClause_162 : decode cX9_readClause 162 = .ok (.iconst 1, 1) := by decide +kernel
theorem dX9_readClause_163 : decode cX9_readClause 163 = .ok (.iadd, 1) := by decide +kernel
theorem dX9_readClause_164 : decode cX9_readClause 164 = .ok (.putfield 76, 3) := by decide +kernel
theorem dX9_readClause_167 : decode cX9_readClause 167 = .ok (.return_, 1) := by decide +kernel
theorem dX9_hostel_0 : decode cX9_hostel 0 = .ok (.aload_n 0, 1) := by decide +kernel
theorem dX9_hostel_1 : decode cX9_hostel 1 = .ok (.iconst 0, 1) := by decide +kernel
theorem dX9_hostel_2 : decode cX9_hostel 2 = .ok (.putfield 76, 3) := by decide +kernel
theorem dX9_hostel_5 : decode cX9_hostel 5 = .ok (.aload_n 0, 1) := by decide +kernel
theorem dX9_hostel_6 : decode cX9_hostel 6 = .ok (.iconst 0, 1) := by decide +kernel
theorem dX9_hostel_7 : decode cX9_hostel 7 = .ok (.putfield 66, 3) := by decide +kernel
theorem dX9_hostel_10 : decode cX9_hostel 10 = .ok (.aload_n 0, 1) := by decide +kernel
theorem dX9_hostel_11 : decode cX9_hostel 11 = .ok (.iconst (-1), 1) := by decide +kernel
theorem dX9_hostel_12 : decode cX9_hostel 12 = .ok (.putfield 16, 3) := by decide +kernel
theorem dX9_hostel_15 : decode cX9_hostel 15 = .ok (.aload_n 0, 1) := by decide +kernel
theorem dX9_hostel_16 : decode cX9_hostel 16 = .ok (.iconst 0, 1) := by decide +kernel
theorem dX9_hostel_17 : decode cX9_hostel 17 = .ok (.putfield 90, 3) := by decide +kernel
theorem dX9_hostel_20 : decode cX9_hostel 20 = .ok (.aload_n 0, 1) := by decide +kernel
theorem dX9_hostel_21 : decode cX9_hostel 21 = .ok (.iconst 0, 1) := by decide +kernel
theorem dX9_hostel_22 : decode cX9_hostel 22 = .ok (.putfield 101, 3) := by decide +kernel
theorem dX9_hostel_25 : decode cX9_hostel 25 = .ok (.aload_n 0, 1) := by decide +kernel
theorem dX9_hostel_26 : decode cX9_hostel 26 = .ok (.invokevirtual 79, 3) := by decide +kernel
theorem dX9_hostel_29 : decode cX9_hostel 29 = .ok (.istore_n 1, 1) := by decide +kernel
theorem dX9_hostel_30 : decode cX9_hostel 30 = .ok (.aload_n 0, 1) := by decide +kernel
theorem dX9_hostel_31 : decode cX9_hostel 31 = .ok (.invokevirtual 69, 3) := by decide +kernel
theorem dX9_hostel_34 : decode cX9_hostel 34 = .ok (.ifCond .eq 26, 3) := by decide +kernel
theorem dX9_hostel_37 : decode cX9_hostel 37 = .ok (.aload_n 0, 1) := by decide +kernel
theorem dX9_hostel_38 : decode cX9_hostel 38 = .ok (.getfield 76, 3) := by decide +kernel
theorem dX9_hostel_41 : decode cX9_hostel 41 = .ok (.aload_n 0, 1) := by decide +kernel
theorem dX9_hostel_42 : decode cX9_hostel 42 = .ok (.getfield 62, 3) := by decide +kernel
theorem dX9_hostel_45 : decode cX9_hostel 45 = .ok (.if_icmp .ge 15, 3) := by decide +kernel
theorem dX9_hostel_48 : decode cX9_hostel 48 = .ok (.aload_n 0, 1) := by decide +kernel
theorem dX9_hostel_49 : decode cX9_hostel 49 = .ok (.invokevirtual 113, 3) := by decide +kernel
theorem dX9_hostel_52 : decode cX9_hostel 52 = .ok (.aload_n 0, 1) := by decide +kernel
theorem dX9_hostel_53 : decode cX9_hostel 53 = .ok (.invokevirtual 79, 3) := by decide +kernel
theorem dX9_hostel_56 : decode cX9_hostel 56 = .ok (.istore_n 1, 1) := by decide +kernel
theorem dX9_hostel_57 : decode cX9_hostel 57 = .ok (.goto (-27), 3) := by decide +kernel
theorem dX9_hostel_60 : decode cX9_hostel 60 = .ok (.aload_n 0, 1) := by decide +kernel
theorem dX9_hostel_61 : decode cX9_hostel 61 = .ok (.iconst 0, 1) := by decide +kernel
theorem dX9_hostel_62 : decode cX9_hostel 62 = .ok (.putfield 62, 3) := by decide +kernel
theorem dX9_hostel_65 : decode cX9_hostel 65 = .ok (.aload_n 0, 1) := by decide +kernel
theorem dX9_hostel_66 : decode cX9_hostel 66 = .ok (.invokevirtual 69, 3) := by decide +kernel
theorem dX9_hostel_69 : decode cX9_hostel 69 = .ok (.ifCond .ne 19, 3) := by decide +kernel
theorem dX9_hostel_72 : decode cX9_hostel 72 = .ok (.aload_n 0, 1) := by decide +kernel
theorem dX9_hostel_73 : decode cX9_hostel 73 = .ok (.aload_n 0, 1) := by decide +kernel
theorem dX9_hostel_74 : decode cX9_hostel 74 = .ok (.getfield 73, 3) := by decide +kernel
theorem dX9_hostel_77 : decode cX9_hostel 77 = .ok (.putfield 16, 3) := by decide +kernel
theorem dX9_hostel_80 : decode cX9_hostel 80 = .ok (.bipush (-10), 2) := by decide +kernel
theorem dX9_hostel_82 : decode cX9_hostel 82 = .ok (.aload_n 0, 1) := by decide +kernel
theorem dX9_hostel_83 : decode cX9_hostel 83 = .ok (.getfield 66, 3) := by decide +kernel
theorem dX9_hostel_86 : decode cX9_hostel 86 = .ok (.isub, 1) := by decide +kernel
theorem dX9_hostel_87 : decode cX9_hostel 87 = .ok (.ireturn, 1) := by decide +kernel
theorem dX9_hostel_88 : decode cX9_hostel 88 = .ok (.aload_n 0, 1) := by decide +kernel
theorem dX9_hostel_89 : decode cX9_hostel 89 = .ok (.sipush 1541, 3) := by decide +kernel
theorem dX9_hostel_92 : decode cX9_hostel 92 = .ok (.invokevirtual 47, 3) := by decide +kernel
theorem dX9_hostel_95 : decode cX9_hostel 95 = .ok (.aload_n 0, 1) := by decide +kernel
theorem dX9_hostel_96 : decode cX9_hostel 96 = .ok (.getfield 7, 3) := by decide +kernel
theorem dX9_hostel_99 : decode cX9_hostel 99 = .ok (.sipush 1607, 3) := by decide +kernel
theorem dX9_hostel_102 : decode cX9_hostel 102 = .ok (.aload_n 0, 1) := by decide +kernel
theorem dX9_hostel_103 : decode cX9_hostel 103 = .ok (.getfield 7, 3) := by decide +kernel
theorem dX9_hostel_106 : decode cX9_hostel 106 = .ok (.bipush 66, 2) := by decide +kernel
theorem dX9_hostel_108 : decode cX9_hostel 108 = .ok (.iaload, 1) := by decide +kernel
theorem dX9_hostel_109 : decode cX9_hostel 109 = .ok (.iastore, 1) := by decide +kernel
theorem dX9_hostel_110 : decode cX9_hostel 110 = .ok (.aload_n 0, 1) := by decide +kernel
theorem dX9_hostel_111 : decode cX9_hostel 111 = .ok (.sipush 1541, 3) := by decide +kernel
theorem dX9_hostel_114 : decode cX9_hostel 114 = .ok (.iconst 0, 1) := by decide +kernel
theorem dX9_hostel_115 : decode cX9_hostel 115 = .ok (.invokevirtual 116, 3) := by decide +kernel
theorem dX9_hostel_118 : decode cX9_hostel 118 = .ok (.aload_n 0, 1) := by decide +kernel
theorem dX9_hostel_119 : decode cX9_hostel 119 = .ok (.aload_n 0, 1) := by decide +kernel
theorem dX9_hostel_120 : decode cX9_hostel 120 = .ok (.getfield 90, 3) := by decide +kernel
theorem dX9_hostel_123 : decode cX9_hostel 123 = .ok (.putfield 58, 3) := by decide +kernel
theorem dX9_hostel_126 : decode cX9_hostel 126 = .ok (.aload_n 0, 1) := by decide +kernel
theorem dX9_hostel_127 : decode cX9_hostel 127 = .ok (.aload_n 0, 1) := by decide +kernel
theorem dX9_hostel_128 : decode cX9_hostel 128 = .ok (.getfield 101, 3) := by decide +kernel
theorem dX9_hostel_131 : decode cX9_hostel 131 = .ok (.putfield 51, 3) := by decide +kernel
theorem dX9_hostel_134 : decode cX9_hostel 134 = .ok (.aload_n 0, 1) := by decide +kernel
theorem dX9_hostel_135 : decode cX9_hostel 135 = .ok (.iconst 0, 1) := by decide +kernel
theorem dX9_hostel_136 : decode cX9_hostel 136 = .ok (.putfield 119, 3) := by decide +kernel
theorem dX9_hostel_139 : decode cX9_hostel 139 = .ok (.aload_n 0, 1) := by decide +kernel
theorem dX9_hostel_140 : decode cX9_hostel 140 = .ok (.iconst 0, 1) := by decide +kernel
theorem dX9_hostel_141 : decode cX9_hostel 141 = .ok (.putfield 122, 3) := by decide +kernel
theorem dX9_hostel_144 : decode cX9_hostel 144 = .ok (.aload_n 0, 1) := by decide +kernel
theorem dX9_hostel_145 : decode cX9_hostel 145 = .ok (.iconst 0, 1) := by decide +kernel
theorem dX9_hostel_146 : decode cX9_hostel 146 = .ok (.putfield 125, 3) := by decide +kernel
theorem dX9_hostel_149 : decode cX9_hostel 149 = .ok (.aload_n 0, 1) := by decide +kernel
theorem dX9_hostel_150 : decode cX9_hostel 150 = .ok (.iconst 0, 1) := by decide +kernel
theorem dX9_hostel_151 : decode cX9_hostel 151 = .ok (.putfield 128, 3) := by decide +kernel
theorem dX9_hostel_154 : decode cX9_hostel 154 = .ok (.aload_n 0, 1) := by decide +kernel
theorem dX9_hostel_155 : decode cX9_hostel 155 = .ok (.getfield 51, 3) := by decide +kernel
theorem dX9_hostel_158 : decode cX9_hostel 158 = .ok (.ireturn, 1) := by decide +kernel
theorem dX9_fault_0 : decode cX9_fault 0 = .ok (.aload_n 0, 1) := by decide +kernel
theorem dX9_fault_1 : decode cX9_fault 1 = .ok (.getfield 16, 3) := by decide +kernel
theorem dX9_fault_4 : decode cX9_fault 4 = .ok (.ireturn, 1) := by decide +kernel
theorem dX9_layWants_0 : decode cX9_layWants 0 = .ok (.iconst 0, 1) := by decide +kernel
theorem dX9_layWants_1 : decode cX9_layWants 1 = .ok (.istore_n 3, 1) := by decide +kernel
theorem dX9_layWants_2 : decode cX9_layWants 2 = .ok (.aload_n 0, 1) := by decide +kernel
theorem dX9_layWants_3 : decode cX9_layWants 3 = .ok (.getfield 7, 3) := by decide +kernel
theorem dX9_layWants_6 : decode cX9_layWants 6 = .ok (.iload_n 1, 1) := by decide +kernel
theorem dX9_layWants_7 : decode cX9_layWants 7 = .ok (.bipush 54, 2) := by decide +kernel
theorem dX9_layWants_9 : decode cX9_layWants 9 = .ok (.iadd, 1) := by decide +kernel
theorem dX9_layWants_10 : decode cX9_layWants 10 = .ok (.iload_n 2, 1) := by decide +kernel
theorem dX9_layWants_11 : decode cX9_layWants 11 = .ok (.iadd, 1) := by decide +kernel
theorem dX9_layWants_12 : decode cX9_layWants 12 = .ok (.iaload, 1) := by decide +kernel
theorem dX9_layWants_13 : decode cX9_layWants 13 = .ok (.istore 4, 2) := by decide +kernel
theorem dX9_layWants_15 : decode cX9_layWants 15 = .ok (.iconst 1, 1) := by decide +kernel
theorem dX9_layWants_16 : decode cX9_layWants 16 = .ok (.istore 5, 2) := by decide +kernel
theorem dX9_layWants_18 : decode cX9_layWants 18 = .ok (.iconst 0, 1) := by decide +kernel
theorem dX9_layWants_19 : decode cX9_layWants 19 = .ok (.istore 6, 2) := by decide +kernel
theorem dX9_layWants_21 : decode cX9_layWants 21 = .ok (.iload 6, 2) := by decide +kernel
theorem dX9_layWants_23 : decode cX9_layWants 23 = .ok (.aload_n 0, 1) := by decide +kernel
theorem dX9_layWants_24 : decode cX9_layWants 24 = .ok (.getfield 7, 3) := by decide +kernel
theorem dX9_layWants_27 : decode cX9_layWants 27 = .ok (.iload_n 1, 1) := by decide +kernel
theorem dX9_layWants_28 : decode cX9_layWants 28 = .ok (.bipush 48, 2) := by decide +kernel
theorem dX9_layWants_30 : decode cX9_layWants 30 = .ok (.iadd, 1) := by decide +kernel
theorem dX9_layWants_31 : decode cX9_layWants 31 = .ok (.iload_n 2, 1) := by decide +kernel
theorem dX9_layWants_32 : decode cX9_layWants 32 = .ok (.iadd, 1) := by decide +kernel
theorem dX9_layWants_33 : decode cX9_layWants 33 = .ok (.iaload, 1) := by decide +kernel
theorem dX9_layWants_34 : decode cX9_layWants 34 = .ok (.if_icmp .ge 55, 3) := by decide +kernel
theorem dX9_layWants_37 : decode cX9_layWants 37 = .ok (.iload 5, 2) := by decide +kernel
theorem dX9_layWants_39 : decode cX9_layWants 39 = .ok (.ifCond .eq 50, 3) := by decide +kernel
theorem dX9_layWants_42 : decode cX9_layWants 42 = .ok (.aload_n 0, 1) := by decide +kernel
theorem dX9_layWants_43 : decode cX9_layWants 43 = .ok (.getfield 29, 3) := by decide +kernel
theorem dX9_layWants_46 : decode cX9_layWants 46 = .ok (.iload_n 3, 1) := by decide +kernel
theorem dX9_layWants_47 : decode cX9_layWants 47 = .ok (.aload_n 0, 1) := by decide +kernel
theorem dX9_layWants_48 : decode cX9_layWants 48 = .ok (.getfield 7, 3) := by decide +kernel
theorem dX9_layWants_51 : decode cX9_layWants 51 = .ok (.iload_n 1, 1) := by decide +kernel
theorem dX9_layWants_52 : decode cX9_layWants 52 = .ok (.bipush 8, 2) := by decide +kernel
theorem dX9_layWants_54 : decode cX9_layWants 54 = .ok (.iload_n 2, 1) := by decide +kernel
theorem dX9_layWants_55 : decode cX9_layWants 55 = .ok (.imul, 1) := by decide +kernel
theorem dX9_layWants_56 : decode cX9_layWants 56 = .ok (.iadd, 1) := by decide +kernel
theorem dX9_layWants_57 : decode cX9_layWants 57 = .ok (.iload 6, 2) := by decide +kernel
theorem dX9_layWants_59 : decode cX9_layWants 59 = .ok (.iadd, 1) := by decide +kernel
theorem dX9_layWants_60 : decode cX9_layWants 60 = .ok (.iaload, 1) := by decide +kernel
theorem dX9_layWants_61 : decode cX9_layWants 61 = .ok (.iastore, 1) := by decide +kernel
theorem dX9_layWants_62 : decode cX9_layWants 62 = .ok (.aload_n 0, 1) := by decide +kernel
theorem dX9_layWants_63 : decode cX9_layWants 63 = .ok (.getfield 29, 3) := by decide +kernel
theorem dX9_layWants_66 : decode cX9_layWants 66 = .ok (.iload_n 3, 1) := by decide +kernel
theorem dX9_layWants_67 : decode cX9_layWants 67 = .ok (.iaload, 1) := by decide +kernel
theorem dX9_layWants_68 : decode cX9_layWants 68 = .ok (.iload 4, 2) := by decide +kernel
theorem dX9_layWants_70 : decode cX9_layWants 70 = .ok (.if_icmp .eq 7, 3) := by decide +kernel
theorem dX9_layWants_73 : decode cX9_layWants 73 = .ok (.iconst 1, 1) := by decide +kernel
theorem dX9_layWants_74 : decode cX9_layWants 74 = .ok (.goto 4, 3) := by decide +kernel
theorem dX9_layWants_77 : decode cX9_layWants 77 = .ok (.iconst 0, 1) := by decide +kernel
theorem dX9_layWants_78 : decode cX9_layWants 78 = .ok (.istore 5, 2) := by decide +kernel
theorem dX9_layWants_80 : decode cX9_layWants 80 = .ok (.iinc 3 1, 3) := by decide +kernel
theorem dX9_layWants_83 : decode cX9_layWants 83 = .ok (.iinc 6 1, 3) := by decide +kernel
theorem dX9_layWants_86 : decode cX9_layWants 86 = .ok (.goto (-65), 3) := by decide +kernel
theorem dX9_layWants_89 : decode cX9_layWants 89 = .ok (.iload 5, 2) := by decide +kernel
theorem dX9_layWants_91 : decode cX9_layWants 91 = .ok (.ifCond .eq 20, 3) := by decide +kernel
theorem dX9_layWants_94 : decode cX9_layWants 94 = .ok (.iload 4, 2) := by decide +kernel
theorem dX9_layWants_96 : decode cX9_layWants 96 = .ok (.iconst (-1), 1) := by decide +kernel
theorem dX9_layWants_97 : decode cX9_layWants 97 = .ok (.if_icmp .eq 14, 3) := by decide +kernel
theorem dX9_layWants_100 : decode cX9_layWants 100 = .ok (.aload_n 0, 1) := by decide +kernel
theorem dX9_layWants_101 : decode cX9_layWants 101 = .ok (.getfield 29, 3) := by decide +kernel
theorem dX9_layWants_104 : decode cX9_layWants 104 = .ok (.iload_n 3, 1) := by decide +kernel
theorem dX9_layWants_105 : decode cX9_layWants 105 = .ok (.iload 4, 2) := by decide +kernel
theorem dX9_layWants_107 : decode cX9_layWants 107 = .ok (.iastore, 1) := by decide +kernel
theorem dX9_layWants_108 : decode cX9_layWants 108 = .ok (.iinc 3 1, 3) := by decide +kernel
theorem dX9_layWants_111 : decode cX9_layWants 111 = .ok (.iload_n 3, 1) := by decide +kernel
theorem dX9_layWants_112 : decode cX9_layWants 112 = .ok (.ireturn, 1) := by decide +kernel
theorem dX9_rankOf_0 : decode cX9_rankOf 0 = .ok (.aload_n 0, 1) := by decide +kernel
theorem dX9_rankOf_1 : decode cX9_rankOf 1 = .ok (.iload_n 1, 1) := by decide +kernel
theorem dX9_rankOf_2 : decode cX9_rankOf 2 = .ok (.iload_n 2, 1) := by decide +kernel
theorem dX9_rankOf_3 : decode cX9_rankOf 3 = .ok (.invokevirtual 131, 3) := by decide +kernel
theorem dX9_rankOf_6 : decode cX9_rankOf 6 = .ok (.istore 4, 2) := by decide +kernel
theorem dX9_rankOf_8 : decode cX9_rankOf 8 = .ok (.iconst 0, 1) := by decide +kernel
theorem dX9_rankOf_9 : decode cX9_rankOf 9 = .ok (.istore 5, 2) := by decide +kernel
theorem dX9_rankOf_11 : decode cX9_rankOf 11 = .ok (.iload 5, 2) := by decide +kernel
theorem dX9_rankOf_13 : decode cX9_rankOf 13 = .ok (.iload 4, 2) := by decide +kernel
theorem dX9_rankOf_15 : decode cX9_rankOf 15 = .ok (.if_icmp .ge 23, 3) := by decide +kernel
theorem dX9_rankOf_18 : decode cX9_rankOf 18 = .ok (.aload_n 0, 1) := by decide +kernel
theorem dX9_rankOf_19 : decode cX9_rankOf 19 = .ok (.getfield 29, 3) := by decide +kernel
theorem dX9_rankOf_22 : decode cX9_rankOf 22 = .ok (.iload 5, 2) := by decide +kernel
theorem dX9_rankOf_24 : decode cX9_rankOf 24 = .ok (.iaload, 1) := by decide +kernel
theorem dX9_rankOf_25 : decode cX9_rankOf 25 = .ok (.iload_n 3, 1) := by decide +kernel
theorem dX9_rankOf_26 : decode cX9_rankOf 26 = .ok (.if_icmp .ne 6, 3) := by decide +kernel
theorem dX9_rankOf_29 : decode cX9_rankOf 29 = .ok (.iload 5, 2) := by decide +kernel
theorem dX9_rankOf_31 : decode cX9_rankOf 31 = .ok (.ireturn, 1) := by decide +kernel
theorem dX9_rankOf_32 : decode cX9_rankOf 32 = .ok (.iinc 5 1, 3) := by decide +kernel
theorem dX9_rankOf_35 : decode cX9_rankOf 35 = .ok (.goto (-24), 3) := by decide +kernel
theorem dX9_rankOf_38 : decode cX9_rankOf 38 = .ok (.bipush 99, 2) := by decide +kernel
theorem dX9_rankOf_40 : decode cX9_rankOf 40 = .ok (.ireturn, 1) := by decide +kernel
theorem dX9_mostOf_0 : decode cX9_mostOf 0 = .ok (.aload_n 0, 1) := by decide +kernel
theorem dX9_mostOf_1 : decode cX9_mostOf 1 = .ok (.iload_n 1, 1) := by decide +kernel
theorem dX9_mostOf_2 : decode cX9_mostOf 2 = .ok (.iload_n 2, 1) := by decide +kernel
theorem dX9_mostOf_3 : decode cX9_mostOf 3 = .ok (.invokevirtual 131, 3) := by decide +kernel
theorem dX9_mostOf_6 : decode cX9_mostOf 6 = .ok (.istore 4, 2) := by decide +kernel
theorem dX9_mostOf_8 : decode cX9_mostOf 8 = .ok (.iconst 0, 1) := by decide +kernel
theorem dX9_mostOf_9 : decode cX9_mostOf 9 = .ok (.istore 5, 2) := by decide +kernel
theorem dX9_mostOf_11 : decode cX9_mostOf 11 = .ok (.iload 5, 2) := by decide +kernel
theorem dX9_mostOf_13 : decode cX9_mostOf 13 = .ok (.iload 4, 2) := by decide +kernel
theorem dX9_mostOf_15 : decode cX9_mostOf 15 = .ok (.if_icmp .ge 31, 3) := by decide +kernel
theorem dX9_mostOf_18 : decode cX9_mostOf 18 = .ok (.iload_n 3, 1) := by decide +kernel
theorem dX9_mostOf_19 : decode cX9_mostOf 19 = .ok (.aload_n 0, 1) := by decide +kernel
theorem dX9_mostOf_20 : decode cX9_mostOf 20 = .ok (.getfield 29, 3) := by decide +kernel
theorem dX9_mostOf_23 : decode cX9_mostOf 23 = .ok (.iload 5, 2) := by decide +kernel
theorem dX9_mostOf_25 : decode cX9_mostOf 25 = .ok (.iaload, 1) := by decide +kernel
theorem dX9_mostOf_26 : decode cX9_mostOf 26 = .ok (.invokestatic 134, 3) := by decide +kernel
theorem dX9_mostOf_29 : decode cX9_mostOf 29 = .ok (.ifCond .eq 11, 3) := by decide +kernel
theorem dX9_mostOf_32 : decode cX9_mostOf 32 = .ok (.aload_n 0, 1) := by decide +kernel
theorem dX9_mostOf_33 : decode cX9_mostOf 33 = .ok (.getfield 29, 3) := by decide +kernel
theorem dX9_mostOf_36 : decode cX9_mostOf 36 = .ok (.iload 5, 2) := by decide +kernel
theorem dX9_mostOf_38 : decode cX9_mostOf 38 = .ok (.iaload, 1) := by decide +kernel
theorem dX9_mostOf_39 : decode cX9_mostOf 39 = .ok (.ireturn, 1) := by decide +kernel
theorem dX9_mostOf_40 : decode cX9_mostOf 40 = .ok (.iinc 5 1, 3) := by decide +kernel
theorem dX9_mostOf_43 : decode cX9_mostOf 43 = .ok (.goto (-32), 3) := by decide +kernel
theorem dX9_mostOf_46 : decode cX9_mostOf 46 = .ok (.iconst (-1), 1) := by decide +kernel
theorem dX9_mostOf_47 : decode cX9_mostOf 47 = .ok (.ireturn, 1) := by decide +kernel
theorem dX9_firstByLots_0 : decode cX9_firstByLots 0 = .ok (.iconst 0, 1) := by decide +kernel
theorem dX9_firstByLots_1 : decode cX9_firstByLots 1 = .ok (.istore_n 2, 1) := by decide +kernel
theorem dX9_firstByLots_2 : decode cX9_firstByLots 2 = .ok (.iload_n 2, 1) := by decide +kernel
theorem dX9_firstByLots_3 : decode cX9_firstByLots 3 = .ok (.aload_n 0, 1) := by decide +kernel
theorem dX9_firstByLots_4 : decode cX9_firstByLots 4 = .ok (.getfield 51, 3) := by decide +kernel
theorem dX9_firstByLots_7 : decode cX9_firstByLots 7 = .ok (.if_icmp .ge 42, 3) := by decide +kernel
theorem dX9_firstByLots_10 : decode cX9_firstByLots 10 = .ok (.aload_n 0, 1) := by decide +kernel
theorem dX9_firstByLots_11 : decode cX9_firstByLots 11 = .ok (.getfield 138, 3) := by decide +kernel
theorem dX9_firstByLots_14 : decode cX9_firstByLots 14 = .ok (.aload_n 0, 1) := by decide +kernel
theorem dX9_firstByLots_15 : decode cX9_firstByLots 15 = .ok (.getfield 7, 3) := by decide +kernel
theorem dX9_firstByLots_18 : decode cX9_firstByLots 18 = .ok (.iload_n 1, 1) := by decide +kernel
theorem dX9_firstByLots_19 : decode cX9_firstByLots 19 = .ok (.bipush 60, 2) := by decide +kernel
theorem dX9_firstByLots_21 : decode cX9_firstByLots 21 = .ok (.iadd, 1) := by decide +kernel
theorem dX9_firstByLots_22 : decode cX9_firstByLots 22 = .ok (.iload_n 2, 1) := by decide +kernel
theorem dX9_firstByLots_23 : decode cX9_firstByLots 23 = .ok (.iadd, 1) := by decide +kernel
theorem dX9_firstByLots_24 : decode cX9_firstByLots 24 = .ok (.iaload, 1) := by decide +kernel
theorem dX9_firstByLots_25 : decode cX9_firstByLots 25 = .ok (.invokestatic 134, 3) := by decide +kernel
theorem dX9_firstByLots_28 : decode cX9_firstByLots 28 = .ok (.ifCond .eq 15, 3) := by decide +kernel
theorem dX9_firstByLots_31 : decode cX9_firstByLots 31 = .ok (.aload_n 0, 1) := by decide +kernel
theorem dX9_firstByLots_32 : decode cX9_firstByLots 32 = .ok (.getfield 7, 3) := by decide +kernel
theorem dX9_firstByLots_35 : decode cX9_firstByLots 35 = .ok (.iload_n 1, 1) := by decide +kernel
theorem dX9_firstByLots_36 : decode cX9_firstByLots 36 = .ok (.bipush 60, 2) := by decide +kernel
theorem dX9_firstByLots_38 : decode cX9_firstByLots 38 = .ok (.iadd, 1) := by decide +kernel
theorem dX9_firstByLots_39 : decode cX9_firstByLots 39 = .ok (.iload_n 2, 1) := by decide +kernel
theorem dX9_firstByLots_40 : decode cX9_firstByLots 40 = .ok (.iadd, 1) := by decide +kernel
theorem dX9_firstByLots_41 : decode cX9_firstByLots 41 = .ok (.iaload, 1) := by decide +kernel
theorem dX9_firstByLots_42 : decode cX9_firstByLots 42 = .ok (.ireturn, 1) := by decide +kernel
theorem dX9_firstByLots_43 : decode cX9_firstByLots 43 = .ok (.iinc 2 1, 3) := by decide +kernel
theorem dX9_firstByLots_46 : decode cX9_firstByLots 46 = .ok (.goto (-44), 3) := by decide +kernel
theorem dX9_firstByLots_49 : decode cX9_firstByLots 49 = .ok (.iconst (-1), 1) := by decide +kernel
theorem dX9_firstByLots_50 : decode cX9_firstByLots 50 = .ok (.ireturn, 1) := by decide +kernel
theorem dX9_pointsAt_0 : decode cX9_pointsAt 0 = .ok (.aload_n 0, 1) := by decide +kernel
theorem dX9_pointsAt_1 : decode cX9_pointsAt 1 = .ok (.iload_n 1, 1) := by decide +kernel
theorem dX9_pointsAt_2 : decode cX9_pointsAt 2 = .ok (.aload_n 0, 1) := by decide +kernel
theorem dX9_pointsAt_3 : decode cX9_pointsAt 3 = .ok (.getfield 51, 3) := by decide +kernel
theorem dX9_pointsAt_6 : decode cX9_pointsAt 6 = .ok (.iload_n 2, 1) := by decide +kernel
theorem dX9_pointsAt_7 : decode cX9_pointsAt 7 = .ok (.invokevirtual 104, 3) := by decide +kernel
theorem dX9_pointsAt_10 : decode cX9_pointsAt 10 = .ok (.istore_n 3, 1) := by decide +kernel
theorem dX9_pointsAt_11 : decode cX9_pointsAt 11 = .ok (.iload_n 3, 1) := by decide +kernel
theorem dX9_pointsAt_12 : decode cX9_pointsAt 12 = .ok (.iconst (-1), 1) := by decide +kernel
theorem dX9_pointsAt_13 : decode cX9_pointsAt 13 = .ok (.if_icmp .eq 18, 3) := by decide +kernel
theorem dX9_pointsAt_16 : decode cX9_pointsAt 16 = .ok (.aload_n 0, 1) := by decide +kernel
theorem dX9_pointsAt_17 : decode cX9_pointsAt 17 = .ok (.getfield 138, 3) := by decide +kernel
theorem dX9_pointsAt_20 : decode cX9_pointsAt 20 = .ok (.iload_n 3, 1) := by decide +kernel
theorem dX9_pointsAt_21 : decode cX9_pointsAt 21 = .ok (.invokestatic 134, 3) := by decide +kernel
theorem dX9_pointsAt_24 : decode cX9_pointsAt 24 = .ok (.ifCond .eq 7, 3) := by decide +kernel
theorem dX9_pointsAt_27 : decode cX9_pointsAt 27 = .ok (.iload_n 3, 1) := by decide +kernel
theorem dX9_pointsAt_28 : decode cX9_pointsAt 28 = .ok (.goto 8, 3) := by decide +kernel
theorem dX9_pointsAt_31 : decode cX9_pointsAt 31 = .ok (.aload_n 0, 1) := by decide +kernel
theorem dX9_pointsAt_32 : decode cX9_pointsAt 32 = .ok (.iload_n 1, 1) := by decide +kernel
theorem dX9_pointsAt_33 : decode cX9_pointsAt 33 = .ok (.invokevirtual 141, 3) := by decide +kernel
theorem dX9_pointsAt_36 : decode cX9_pointsAt 36 = .ok (.ireturn, 1) := by decide +kernel
theorem dX9_next_0 : decode cX9_next 0 = .ok (.aload_n 0, 1) := by decide +kernel
theorem dX9_next_1 : decode cX9_next 1 = .ok (.iload_n 1, 1) := by decide +kernel
theorem dX9_next_2 : decode cX9_next 2 = .ok (.aload_n 0, 1) := by decide +kernel
theorem dX9_next_3 : decode cX9_next 3 = .ok (.iload_n 1, 1) := by decide +kernel
theorem dX9_next_4 : decode cX9_next 4 = .ok (.iload_n 2, 1) := by decide +kernel
theorem dX9_next_5 : decode cX9_next 5 = .ok (.aload_n 0, 1) := by decide +kernel
theorem dX9_next_6 : decode cX9_next 6 = .ok (.getfield 145, 3) := by decide +kernel
theorem dX9_next_9 : decode cX9_next 9 = .ok (.invokevirtual 148, 3) := by decide +kernel
theorem dX9_next_12 : decode cX9_next 12 = .ok (.invokevirtual 151, 3) := by decide +kernel
theorem dX9_next_15 : decode cX9_next 15 = .ok (.ireturn, 1) := by decide +kernel
theorem dX9_dropThoseWithout_0 : decode cX9_dropThoseWithout 0 = .ok (.aload_n 0, 1) := by decide +kernel
theorem dX9_dropThoseWithout_1 : decode cX9_dropThoseWithout 1 = .ok (.getfield 138, 3) := by decide +kernel
theorem dX9_dropThoseWithout_4 : decode cX9_dropThoseWithout 4 = .ok (.istore_n 2, 1) := by decide +kernel
theorem dX9_dropThoseWithout_5 : decode cX9_dropThoseWithout 5 = .ok (.iconst 0, 1) := by decide +kernel
theorem dX9_dropThoseWithout_6 : decode cX9_dropThoseWithout 6 = .ok (.istore_n 3, 1) := by decide +kernel
theorem dX9_dropThoseWithout_7 : decode cX9_dropThoseWithout 7 = .ok (.iload_n 3, 1) := by decide +kernel
theorem dX9_dropThoseWithout_8 : decode cX9_dropThoseWithout 8 = .ok (.aload_n 0, 1) := by decide +kernel
theorem dX9_dropThoseWithout_9 : decode cX9_dropThoseWithout 9 = .ok (.getfield 51, 3) := by decide +kernel
theorem dX9_dropThoseWithout_12 : decode cX9_dropThoseWithout 12 = .ok (.if_icmp .ge 71, 3) := by decide +kernel
theorem dX9_dropThoseWithout_15 : decode cX9_dropThoseWithout 15 = .ok (.iload_n 2, 1) := by decide +kernel
theorem dX9_dropThoseWithout_16 : decode cX9_dropThoseWithout 16 = .ok (.iload_n 3, 1) := by decide +kernel
theorem dX9_dropThoseWithout_17 : decode cX9_dropThoseWithout 17 = .ok (.invokestatic 134, 3) := by decide +kernel
theorem dX9_dropThoseWithout_20 : decode cX9_dropThoseWithout 20 = .ok (.ifCond .eq 57, 3) := by decide +kernel
theorem dX9_dropThoseWithout_23 : decode cX9_dropThoseWithout 23 = .ok (.aload_n 0, 1) := by decide +kernel
theorem dX9_dropThoseWithout_24 : decode cX9_dropThoseWithout 24 = .ok (.iload_n 1, 1) := by decide +kernel
theorem dX9_dropThoseWithout_25 : decode cX9_dropThoseWithout 25 = .ok (.iload_n 3, 1) := by decide +kernel
theorem dX9_dropThoseWithout_26 : decode cX9_dropThoseWithout 26 = .ok (.aload_n 0, 1) := by decide +kernel
theorem dX9_dropThoseWithout_27 : decode cX9_dropThoseWithout 27 = .ok (.getfield 145, 3) := by decide +kernel
theorem dX9_dropThoseWithout_30 : decode cX9_dropThoseWithout 30 = .ok (.invokevirtual 148, 3) := by decide +kernel
theorem dX9_dropThoseWithout_33 : decode cX9_dropThoseWithout 33 = .ok (.iconst (-1), 1) := by decide +kernel
theorem dX9_dropThoseWithout_34 : decode cX9_dropThoseWithout 34 = .ok (.if_icmp .ne 43, 3) := by decide +kernel
theorem dX9_dropThoseWithout_37 : decode cX9_dropThoseWithout 37 = .ok (.aload_n 0, 1) := by decide +kernel
theorem dX9_dropThoseWithout_38 : decode cX9_dropThoseWithout 38 = .ok (.dup, 1) := by decide +kernel
theorem dX9_dropThoseWithout_39 : decode cX9_dropThoseWithout 39 = .ok (.getfield 138, 3) := by decide +kernel
theorem dX9_dropThoseWithout_42 : decode cX9_dropThoseWithout 42 = .ok (.iconst 1, 1) := by decide +kernel
theorem dX9_dropThoseWithout_43 : decode cX9_dropThoseWithout 43 = .ok (.iload_n 3, 1) := by decide +kernel
theorem dX9_dropThoseWithout_44 : decode cX9_dropThoseWithout 44 = .ok (.ishl, 1) := by decide +kernel
theorem dX9_dropThoseWithout_45 : decode cX9_dropThoseWithout 45 = .ok (.iconst (-1), 1) := by decide +kernel
theorem dX9_dropThoseWithout_46 : decode cX9_dropThoseWithout 46 = .ok (.ixor, 1) := by decide +kernel
theorem dX9_dropThoseWithout_47 : decode cX9_dropThoseWithout 47 = .ok (.iand, 1) := by decide +kernel
theorem dX9_dropThoseWithout_48 : decode cX9_dropThoseWithout 48 = .ok (.putfield 138, 3) := by decide +kernel
theorem dX9_dropThoseWithout_51 : decode cX9_dropThoseWithout 51 = .ok (.aload_n 0, 1) := by decide +kernel
theorem dX9_dropThoseWithout_52 : decode cX9_dropThoseWithout 52 = .ok (.getfield 20, 3) := by decide +kernel
theorem dX9_dropThoseWithout_55 : decode cX9_dropThoseWithout 55 = .ok (.iload_n 3, 1) := by decide +kernel
theorem dX9_dropThoseWithout_56 : decode cX9_dropThoseWithout 56 = .ok (.iconst (-1), 1) := by decide +kernel
theorem dX9_dropThoseWithout_57 : decode cX9_dropThoseWithout 57 = .ok (.iastore, 1) := by decide +kernel
theorem dX9_dropThoseWithout_58 : decode cX9_dropThoseWithout 58 = .ok (.aload_n 0, 1) := by decide +kernel
theorem dX9_dropThoseWithout_59 : decode cX9_dropThoseWithout 59 = .ok (.getfield 23, 3) := by decide +kernel
theorem dX9_dropThoseWithout_62 : decode cX9_dropThoseWithout 62 = .ok (.iload_n 3, 1) := by decide +kernel
theorem dX9_dropThoseWithout_63 : decode cX9_dropThoseWithout 63 = .ok (.aload_n 0, 1) := by decide +kernel
theorem dX9_dropThoseWithout_64 : decode cX9_dropThoseWithout 64 = .ok (.getfield 154, 3) := by decide +kernel
theorem dX9_dropThoseWithout_67 : decode cX9_dropThoseWithout 67 = .ok (.iastore, 1) := by decide +kernel
theorem dX9_dropThoseWithout_68 : decode cX9_dropThoseWithout 68 = .ok (.aload_n 0, 1) := by decide +kernel
theorem dX9_dropThoseWithout_69 : decode cX9_dropThoseWithout 69 = .ok (.getfield 26, 3) := by decide +kernel
theorem dX9_dropThoseWithout_72 : decode cX9_dropThoseWithout 72 = .ok (.iload_n 3, 1) := by decide +kernel
theorem dX9_dropThoseWithout_73 : decode cX9_dropThoseWithout 73 = .ok (.iconst 1, 1) := by decide +kernel
theorem dX9_dropThoseWithout_74 : decode cX9_dropThoseWithout 74 = .ok (.iload_n 3, 1) := by decide +kernel
theorem dX9_dropThoseWithout_75 : decode cX9_dropThoseWithout 75 = .ok (.ishl, 1) := by decide +kernel
theorem dX9_dropThoseWithout_76 : decode cX9_dropThoseWithout 76 = .ok (.iastore, 1) := by decide +kernel
theorem dX9_dropThoseWithout_77 : decode cX9_dropThoseWithout 77 = .ok (.iinc 3 1, 3) := by decide +kernel
theorem dX9_dropThoseWithout_80 : decode cX9_dropThoseWithout 80 = .ok (.goto (-73), 3) := by decide +kernel
theorem dX9_dropThoseWithout_83 : decode cX9_dropThoseWithout 83 = .ok (.return_, 1) := by decide +kernel
theorem dX9_ringFrom_0 : decode cX9_ringFrom 0 = .ok (.iconst 0, 1) := by decide +kernel
theorem dX9_ringFrom_1 : decode cX9_ringFrom 1 = .ok (.istore_n 3, 1) := by decide +kernel
theorem dX9_ringFrom_2 : decode cX9_ringFrom 2 = .ok (.iload_n 2, 1) := by decide +kernel
theorem dX9_ringFrom_3 : decode cX9_ringFrom 3 = .ok (.istore 4, 2) := by decide +kernel
theorem dX9_ringFrom_5 : decode cX9_ringFrom 5 = .ok (.iconst 0, 1) := by decide +kernel
theorem dX9_ringFrom_6 : decode cX9_ringFrom 6 = .ok (.istore 5, 2) := by decide +kernel
theorem dX9_ringFrom_8 : decode cX9_ringFrom 8 = .ok (.iload 5, 2) := by decide +kernel
theorem dX9_ringFrom_10 : decode cX9_ringFrom 10 = .ok (.aload_n 0, 1) := by decide +kernel
theorem dX9_ringFrom_11 : decode cX9_ringFrom 11 = .ok (.getfield 51, 3) := by decide +kernel
theorem dX9_ringFrom_14 : decode cX9_ringFrom 14 = .ok (.if_icmp .ge 33, 3) := by decide +kernel
theorem dX9_ringFrom_17 : decode cX9_ringFrom 17 = .ok (.iload_n 3, 1) := by decide +kernel
theorem dX9_ringFrom_18 : decode cX9_ringFrom 18 = .ok (.iconst 1, 1) := by decide +kernel
theorem dX9_ringFrom_19 : decode cX9_ringFrom 19 = .ok (.iload 4, 2) := by decide +kernel
theorem dX9_ringFrom_21 : decode cX9_ringFrom 21 = .ok (.ishl, 1) := by decide +kernel
theorem dX9_ringFrom_22 : decode cX9_ringFrom 22 = .ok (.ior, 1) := by decide +kernel
theorem dX9_ringFrom_23 : decode cX9_ringFrom 23 = .ok (.istore_n 3, 1) := by decide +kernel
theorem dX9_ringFrom_24 : decode cX9_ringFrom 24 = .ok (.aload_n 0, 1) := by decide +kernel
theorem dX9_ringFrom_25 : decode cX9_ringFrom 25 = .ok (.iload_n 1, 1) := by decide +kernel
theorem dX9_ringFrom_26 : decode cX9_ringFrom 26 = .ok (.iload 4, 2) := by decide +kernel
theorem dX9_ringFrom_28 : decode cX9_ringFrom 28 = .ok (.invokevirtual 157, 3) := by decide +kernel
theorem dX9_ringFrom_31 : decode cX9_ringFrom 31 = .ok (.istore 4, 2) := by decide +kernel
theorem dX9_ringFrom_33 : decode cX9_ringFrom 33 = .ok (.iload 4, 2) := by decide +kernel
theorem dX9_ringFrom_35 : decode cX9_ringFrom 35 = .ok (.iload_n 2, 1) := by decide +kernel
theorem dX9_ringFrom_36 : decode cX9_ringFrom 36 = .ok (.if_icmp .ne 5, 3) := by decide +kernel
theorem dX9_ringFrom_39 : decode cX9_ringFrom 39 = .ok (.iload_n 3, 1) := by decide +kernel
theorem dX9_ringFrom_40 : decode cX9_ringFrom 40 = .ok (.ireturn, 1) := by decide +kernel
theorem dX9_ringFrom_41 : decode cX9_ringFrom 41 = .ok (.iinc 5 1, 3) := by decide +kernel
theorem dX9_ringFrom_44 : decode cX9_ringFrom 44 = .ok (.goto (-36), 3) := by decide +kernel
theorem dX9_ringFrom_47 : decode cX9_ringFrom 47 = .ok (.iconst 0, 1) := by decide +kernel
theorem dX9_ringFrom_48 : decode cX9_ringFrom 48 = .ok (.ireturn, 1) := by decide +kernel
theorem dX9_giveRings_0 : decode cX9_giveRings 0 = .ok (.iconst 0, 1) := by decide +kernel
theorem dX9_giveRings_1 : decode cX9_giveRings 1 = .ok (.istore_n 2, 1) := by decide +kernel
theorem dX9_giveRings_2 : decode cX9_giveRings 2 = .ok (.iconst 0, 1) := by decide +kernel
theorem dX9_giveRings_3 : decode cX9_giveRings 3 = .ok (.istore_n 3, 1) := by decide +kernel
theorem dX9_giveRings_4 : decode cX9_giveRings 4 = .ok (.iconst 0, 1) := by decide +kernel
theorem dX9_giveRings_5 : decode cX9_giveRings 5 = .ok (.istore 4, 2) := by decide +kernel
theorem dX9_giveRings_7 : decode cX9_giveRings 7 = .ok (.iload 4, 2) := by decide +kernel
theorem dX9_giveRings_9 : decode cX9_giveRings 9 = .ok (.aload_n 0, 1) := by decide +kernel
theorem dX9_giveRings_10 : decode cX9_giveRings 10 = .ok (.getfield 51, 3) := by decide +kernel
theorem dX9_giveRings_13 : decode cX9_giveRings 13 = .ok (.if_icmp .ge 96, 3) := by decide +kernel
theorem dX9_giveRings_16 : decode cX9_giveRings 16 = .ok (.aload_n 0, 1) := by decide +kernel
theorem dX9_giveRings_17 : decode cX9_giveRings 17 = .ok (.getfield 138, 3) := by decide +kernel
theorem dX9_giveRings_20 : decode cX9_giveRings 20 = .ok (.iload 4, 2) := by decide +kernel
theorem dX9_giveRings_22 : decode cX9_giveRings 22 = .ok (.invokestatic 134, 3) := by decide +kernel
theorem dX9_giveRings_25 : decode cX9_giveRings 25 = .ok (.ifCond .eq 13, 3) := by decide +kernel
theorem dX9_giveRings_28 : decode cX9_giveRings 28 = .ok (.aload_n 0, 1) := by decide +kernel
theorem dX9_giveRings_29 : decode cX9_giveRings 29 = .ok (.iload_n 1, 1) := by decide +kernel
theorem dX9_giveRings_30 : decode cX9_giveRings 30 = .ok (.iload 4, 2) := by decide +kernel
theorem dX9_giveRings_32 : decode cX9_giveRings 32 = .ok (.invokevirtual 160, 3) := by decide +kernel
theorem dX9_giveRings_35 : decode cX9_giveRings 35 = .ok (.goto 4, 3) := by decide +kernel
theorem dX9_giveRings_38 : decode cX9_giveRings 38 = .ok (.iconst 0, 1) := by decide +kernel
theorem dX9_giveRings_39 : decode cX9_giveRings 39 = .ok (.istore 5, 2) := by decide +kernel
theorem dX9_giveRings_41 : decode cX9_giveRings 41 = .ok (.iload 5, 2) := by decide +kernel
theorem dX9_giveRings_43 : decode cX9_giveRings 43 = .ok (.ifCond .eq 60, 3) := by decide +kernel
theorem dX9_giveRings_46 : decode cX9_giveRings 46 = .ok (.aload_n 0, 1) := by decide +kernel
theorem dX9_giveRings_47 : decode cX9_giveRings 47 = .ok (.getfield 20, 3) := by decide +kernel
theorem dX9_giveRings_50 : decode cX9_giveRings 50 = .ok (.iload 4, 2) := by decide +kernel
theorem dX9_giveRings_52 : decode cX9_giveRings 52 = .ok (.aload_n 0, 1) := by decide +kernel
theorem dX9_giveRings_53 : decode cX9_giveRings 53 = .ok (.iload_n 1, 1) := by decide +kernel
theorem dX9_giveRings_54 : decode cX9_giveRings 54 = .ok (.iload 4, 2) := by decide +kernel
theorem dX9_giveRings_56 : decode cX9_giveRings 56 = .ok (.aload_n 0, 1) := by decide +kernel
theorem dX9_giveRings_57 : decode cX9_giveRings 57 = .ok (.getfield 145, 3) := by decide +kernel
theorem dX9_giveRings_60 : decode cX9_giveRings 60 = .ok (.invokevirtual 148, 3) := by decide +kernel
theorem dX9_giveRings_63 : decode cX9_giveRings 63 = .ok (.iastore, 1) := by decide +kernel
theorem dX9_giveRings_64 : decode cX9_giveRings 64 = .ok (.aload_n 0, 1) := by decide +kernel
theorem dX9_giveRings_65 : decode cX9_giveRings 65 = .ok (.getfield 23, 3) := by decide +kernel
theorem dX9_giveRings_68 : decode cX9_giveRings 68 = .ok (.iload 4, 2) := by decide +kernel
theorem dX9_giveRings_70 : decode cX9_giveRings 70 = .ok (.aload_n 0, 1) := by decide +kernel
theorem dX9_giveRings_71 : decode cX9_giveRings 71 = .ok (.getfield 154, 3) := by decide +kernel
theorem dX9_giveRings_74 : decode cX9_giveRings 74 = .ok (.iastore, 1) := by decide +kernel
theorem dX9_giveRings_75 : decode cX9_giveRings 75 = .ok (.aload_n 0, 1) := by decide +kernel
theorem dX9_giveRings_76 : decode cX9_giveRings 76 = .ok (.getfield 26, 3) := by decide +kernel
theorem dX9_giveRings_79 : decode cX9_giveRings 79 = .ok (.iload 4, 2) := by decide +kernel
theorem dX9_giveRings_81 : decode cX9_giveRings 81 = .ok (.iload 5, 2) := by decide +kernel
theorem dX9_giveRings_83 : decode cX9_giveRings 83 = .ok (.iastore, 1) := by decide +kernel
theorem dX9_giveRings_84 : decode cX9_giveRings 84 = .ok (.iload_n 2, 1) := by decide +kernel
theorem dX9_giveRings_85 : decode cX9_giveRings 85 = .ok (.iconst 1, 1) := by decide +kernel
theorem dX9_giveRings_86 : decode cX9_giveRings 86 = .ok (.iload 4, 2) := by decide +kernel
theorem dX9_giveRings_88 : decode cX9_giveRings 88 = .ok (.ishl, 1) := by decide +kernel
theorem dX9_giveRings_89 : decode cX9_giveRings 89 = .ok (.ior, 1) := by decide +kernel
theorem dX9_giveRings_90 : decode cX9_giveRings 90 = .ok (.istore_n 2, 1) := by decide +kernel
theorem dX9_giveRings_91 : decode cX9_giveRings 91 = .ok (.iload_n 3, 1) := by decide +kernel
theorem dX9_giveRings_92 : decode cX9_giveRings 92 = .ok (.iconst 1, 1) := by decide +kernel
theorem dX9_giveRings_93 : decode cX9_giveRings 93 = .ok (.aload_n 0, 1) := by decide +kernel
theorem dX9_giveRings_94 : decode cX9_giveRings 94 = .ok (.getfield 20, 3) := by decide +kernel
theorem dX9_giveRings_97 : decode cX9_giveRings 97 = .ok (.iload 4, 2) := by decide +kernel
theorem dX9_giveRings_99 : decode cX9_giveRings 99 = .ok (.iaload, 1) := by decide +kernel
theorem dX9_giveRings_100 : decode cX9_giveRings 100 = .ok (.ishl, 1) := by decide +kernel
theorem dX9_giveRings_101 : decode cX9_giveRings 101 = .ok (.ior, 1) := by decide +kernel
theorem dX9_giveRings_102 : decode cX9_giveRings 102 = .ok (.istore_n 3, 1) := by decide +kernel
theorem dX9_giveRings_103 : decode cX9_giveRings 103 = .ok (.iinc 4 1, 3) := by decide +kernel
theorem dX9_giveRings_106 : decode cX9_giveRings 106 = .ok (.goto (-99), 3) := by decide +kernel
theorem dX9_giveRings_109 : decode cX9_giveRings 109 = .ok (.aload_n 0, 1) := by decide +kernel
theorem dX9_giveRings_110 : decode cX9_giveRings 110 = .ok (.dup, 1) := by decide +kernel
theorem dX9_giveRings_111 : decode cX9_giveRings 111 = .ok (.getfield 138, 3) := by decide +kernel
theorem dX9_giveRings_114 : decode cX9_giveRings 114 = .ok (.iload_n 2, 1) := by decide +kernel
theorem dX9_giveRings_115 : decode cX9_giveRings 115 = .ok (.iconst (-1), 1) := by decide +kernel
theorem dX9_giveRings_116 : decode cX9_giveRings 116 = .ok (.ixor, 1) := by decide +kernel
theorem dX9_giveRings_117 : decode cX9_giveRings 117 = .ok (.iand, 1) := by decide +kernel
theorem dX9_giveRings_118 : decode cX9_giveRings 118 = .ok (.putfield 138, 3) := by decide +kernel
theorem dX9_giveRings_121 : decode cX9_giveRings 121 = .ok (.aload_n 0, 1) := by decide +kernel
theorem dX9_giveRings_122 : decode cX9_giveRings 122 = .ok (.dup, 1) := by decide +kernel
theorem dX9_giveRings_123 : decode cX9_giveRings 123 = .ok (.getfield 145, 3) := by decide +kernel
theorem dX9_giveRings_126 : decode cX9_giveRings 126 = .ok (.iload_n 3, 1) := by decide +kernel
theorem dX9_giveRings_127 : decode cX9_giveRings 127 = .ok (.iconst (-1), 1) := by decide +kernel
theorem dX9_giveRings_128 : decode cX9_giveRings 128 = .ok (.ixor, 1) := by decide +kernel
theorem dX9_giveRings_129 : decode cX9_giveRings 129 = .ok (.iand, 1) := by decide +kernel
theorem dX9_giveRings_130 : decode cX9_giveRings 130 = .ok (.putfield 145, 3) := by decide +kernel
theorem dX9_giveRings_133 : decode cX9_giveRings 133 = .ok (.return_, 1) := by decide +kernel
theorem dX9_giveOut_0 : decode cX9_giveOut 0 = .ok (.aload_n 0, 1) := by decide +kernel
theorem dX9_giveOut_1 : decode cX9_giveOut 1 = .ok (.iconst 1, 1) := by decide +kernel
theorem dX9_giveOut_2 : decode cX9_giveOut 2 = .ok (.aload_n 0, 1) := by decide +kernel
theorem dX9_giveOut_3 : decode cX9_giveOut 3 = .ok (.getfield 51, 3) := by decide +kernel
theorem dX9_giveOut_6 : decode cX9_giveOut 6 = .ok (.ishl, 1) := by decide +kernel
theorem dX9_giveOut_7 : decode cX9_giveOut 7 = .ok (.iconst 1, 1) := by decide +kernel
theorem dX9_giveOut_8 : decode cX9_giveOut 8 = .ok (.isub, 1) := by decide +kernel
theorem dX9_giveOut_9 : decode cX9_giveOut 9 = .ok (.putfield 138, 3) := by decide +kernel
theorem dX9_giveOut_12 : decode cX9_giveOut 12 = .ok (.aload_n 0, 1) := by decide +kernel
theorem dX9_giveOut_13 : decode cX9_giveOut 13 = .ok (.iconst 1, 1) := by decide +kernel
theorem dX9_giveOut_14 : decode cX9_giveOut 14 = .ok (.aload_n 0, 1) := by decide +kernel
theorem dX9_giveOut_15 : decode cX9_giveOut 15 = .ok (.getfield 58, 3) := by decide +kernel
theorem dX9_giveOut_18 : decode cX9_giveOut 18 = .ok (.ishl, 1) := by decide +kernel
theorem dX9_giveOut_19 : decode cX9_giveOut 19 = .ok (.iconst 1, 1) := by decide +kernel
theorem dX9_giveOut_20 : decode cX9_giveOut 20 = .ok (.isub, 1) := by decide +kernel
theorem dX9_giveOut_21 : decode cX9_giveOut 21 = .ok (.putfield 145, 3) := by decide +kernel
theorem dX9_giveOut_24 : decode cX9_giveOut 24 = .ok (.aload_n 0, 1) := by decide +kernel
theorem dX9_giveOut_25 : decode cX9_giveOut 25 = .ok (.iconst 0, 1) := by decide +kernel
theorem dX9_giveOut_26 : decode cX9_giveOut 26 = .ok (.putfield 154, 3) := by decide +kernel
theorem dX9_giveOut_29 : decode cX9_giveOut 29 = .ok (.aload_n 0, 1) := by decide +kernel
theorem dX9_giveOut_30 : decode cX9_giveOut 30 = .ok (.getfield 138, 3) := by decide +kernel
theorem dX9_giveOut_33 : decode cX9_giveOut 33 = .ok (.ifCond .eq 33, 3) := by decide +kernel
theorem dX9_giveOut_36 : decode cX9_giveOut 36 = .ok (.aload_n 0, 1) := by decide +kernel
theorem dX9_giveOut_37 : decode cX9_giveOut 37 = .ok (.iload_n 1, 1) := by decide +kernel
theorem dX9_giveOut_38 : decode cX9_giveOut 38 = .ok (.invokevirtual 163, 3) := by decide +kernel
theorem dX9_giveOut_41 : decode cX9_giveOut 41 = .ok (.aload_n 0, 1) := by decide +kernel
theorem dX9_giveOut_42 : decode cX9_giveOut 42 = .ok (.getfield 138, 3) := by decide +kernel
theorem dX9_giveOut_45 : decode cX9_giveOut 45 = .ok (.ifCond .eq 8, 3) := by decide +kernel
theorem dX9_giveOut_48 : decode cX9_giveOut 48 = .ok (.aload_n 0, 1) := by decide +kernel
theorem dX9_giveOut_49 : decode cX9_giveOut 49 = .ok (.iload_n 1, 1) := by decide +kernel
theorem dX9_giveOut_50 : decode cX9_giveOut 50 = .ok (.invokevirtual 166, 3) := by decide +kernel
theorem dX9_giveOut_53 : decode cX9_giveOut 53 = .ok (.aload_n 0, 1) := by decide +kernel
theorem dX9_giveOut_54 : decode cX9_giveOut 54 = .ok (.dup, 1) := by decide +kernel
theorem dX9_giveOut_55 : decode cX9_giveOut 55 = .ok (.getfield 154, 3) := by decide +kernel
theorem dX9_giveOut_58 : decode cX9_giveOut 58 = .ok (.iconst 1, 1) := by decide +kernel
theorem dX9_giveOut_59 : decode cX9_giveOut 59 = .ok (.iadd, 1) := by decide +kernel
theorem dX9_giveOut_60 : decode cX9_giveOut 60 = .ok (.putfield 154, 3) := by decide +kernel
theorem dX9_giveOut_63 : decode cX9_giveOut 63 = .ok (.goto (-34), 3) := by decide +kernel
theorem dX9_giveOut_66 : decode cX9_giveOut 66 = .ok (.return_, 1) := by decide +kernel
theorem dX9_whoGets_0 : decode cX9_whoGets 0 = .ok (.iconst 0, 1) := by decide +kernel
theorem dX9_whoGets_1 : decode cX9_whoGets 1 = .ok (.istore_n 2, 1) := by decide +kernel
theorem dX9_whoGets_2 : decode cX9_whoGets 2 = .ok (.iload_n 2, 1) := by decide +kernel
theorem dX9_whoGets_3 : decode cX9_whoGets 3 = .ok (.aload_n 0, 1) := by decide +kernel
theorem dX9_whoGets_4 : decode cX9_whoGets 4 = .ok (.getfield 51, 3) := by decide +kernel
theorem dX9_whoGets_7 : decode cX9_whoGets 7 = .ok (.if_icmp .ge 21, 3) := by decide +kernel
theorem dX9_whoGets_10 : decode cX9_whoGets 10 = .ok (.aload_n 0, 1) := by decide +kernel
theorem dX9_whoGets_11 : decode cX9_whoGets 11 = .ok (.getfield 20, 3) := by decide +kernel
theorem dX9_whoGets_14 : decode cX9_whoGets 14 = .ok (.iload_n 2, 1) := by decide +kernel
theorem dX9_whoGets_15 : decode cX9_whoGets 15 = .ok (.iaload, 1) := by decide +kernel
theorem dX9_whoGets_16 : decode cX9_whoGets 16 = .ok (.iload_n 1, 1) := by decide +kernel
theorem dX9_whoGets_17 : decode cX9_whoGets 17 = .ok (.if_icmp .ne 5, 3) := by decide +kernel
theorem dX9_whoGets_20 : decode cX9_whoGets 20 = .ok (.iload_n 2, 1) := by decide +kernel
theorem dX9_whoGets_21 : decode cX9_whoGets 21 = .ok (.ireturn, 1) := by decide +kernel
theorem dX9_whoGets_22 : decode cX9_whoGets 22 = .ok (.iinc 2 1, 3) := by decide +kernel
theorem dX9_whoGets_25 : decode cX9_whoGets 25 = .ok (.goto (-23), 3) := by decide +kernel
theorem dX9_whoGets_28 : decode cX9_whoGets 28 = .ok (.iconst (-1), 1) := by decide +kernel
theorem dX9_whoGets_29 : decode cX9_whoGets 29 = .ok (.ireturn, 1) := by decide +kernel
theorem dX9_without_0 : decode cX9_without 0 = .ok (.iconst 0, 1) := by decide +kernel
theorem dX9_without_1 : decode cX9_without 1 = .ok (.istore_n 1, 1) := by decide +kernel
theorem dX9_without_2 : decode cX9_without 2 = .ok (.iconst 0, 1) := by decide +kernel
theorem dX9_without_3 : decode cX9_without 3 = .ok (.istore_n 2, 1) := by decide +kernel
theorem dX9_without_4 : decode cX9_without 4 = .ok (.iload_n 2, 1) := by decide +kernel
theorem dX9_without_5 : decode cX9_without 5 = .ok (.aload_n 0, 1) := by decide +kernel
theorem dX9_without_6 : decode cX9_without 6 = .ok (.getfield 51, 3) := by decide +kernel
theorem dX9_without_9 : decode cX9_without 9 = .ok (.if_icmp .ge 29, 3) := by decide +kernel
theorem dX9_without_12 : decode cX9_without 12 = .ok (.iload_n 1, 1) := by decide +kernel
theorem dX9_without_13 : decode cX9_without 13 = .ok (.aload_n 0, 1) := by decide +kernel
theorem dX9_without_14 : decode cX9_without 14 = .ok (.getfield 20, 3) := by decide +kernel
theorem dX9_without_17 : decode cX9_without 17 = .ok (.iload_n 2, 1) := by decide +kernel
theorem dX9_without_18 : decode cX9_without 18 = .ok (.iaload, 1) := by decide +kernel
theorem dX9_without_19 : decode cX9_without 19 = .ok (.iconst (-1), 1) := by decide +kernel
theorem dX9_without_20 : decode cX9_without 20 = .ok (.if_icmp .ne 9, 3) := by decide +kernel
theorem dX9_without_23 : decode cX9_without 23 = .ok (.iconst 1, 1) := by decide +kernel
theorem dX9_without_24 : decode cX9_without 24 = .ok (.iload_n 2, 1) := by decide +kernel
theorem dX9_without_25 : decode cX9_without 25 = .ok (.ishl, 1) := by decide +kernel
theorem dX9_without_26 : decode cX9_without 26 = .ok (.goto 4, 3) := by decide +kernel
theorem dX9_without_29 : decode cX9_without 29 = .ok (.iconst 0, 1) := by decide +kernel
theorem dX9_without_30 : decode cX9_without 30 = .ok (.ior, 1) := by decide +kernel
theorem dX9_without_31 : decode cX9_without 31 = .ok (.istore_n 1, 1) := by decide +kernel
theorem dX9_without_32 : decode cX9_without 32 = .ok (.iinc 2 1, 3) := by decide +kernel
theorem dX9_without_35 : decode cX9_without 35 = .ok (.goto (-31), 3) := by decide +kernel
theorem dX9_without_38 : decode cX9_without 38 = .ok (.iload_n 1, 1) := by decide +kernel
theorem dX9_without_39 : decode cX9_without 39 = .ok (.ireturn, 1) := by decide +kernel
theorem dX9_roomsLeft_0 : decode cX9_roomsLeft 0 = .ok (.iconst 0, 1) := by decide +kernel
theorem dX9_roomsLeft_1 : decode cX9_roomsLeft 1 = .ok (.istore_n 2, 1) := by decide +kernel
theorem dX9_roomsLeft_2 : decode cX9_roomsLeft 2 = .ok (.iconst 0, 1) := by decide +kernel
theorem dX9_roomsLeft_3 : decode cX9_roomsLeft 3 = .ok (.istore_n 3, 1) := by decide +kernel
theorem dX9_roomsLeft_4 : decode cX9_roomsLeft 4 = .ok (.iload_n 3, 1) := by decide +kernel
theorem dX9_roomsLeft_5 : decode cX9_roomsLeft 5 = .ok (.aload_n 0, 1) := by decide +kernel
theorem dX9_roomsLeft_6 : decode cX9_roomsLeft 6 = .ok (.getfield 58, 3) := by decide +kernel
theorem dX9_roomsLeft_9 : decode cX9_roomsLeft 9 = .ok (.if_icmp .ge 66, 3) := by decide +kernel
theorem dX9_roomsLeft_12 : decode cX9_roomsLeft 12 = .ok (.iload_n 1, 1) := by decide +kernel
theorem dX9_roomsLeft_13 : decode cX9_roomsLeft 13 = .ok (.ifCond .ne 25, 3) := by decide +kernel
theorem dX9_roomsLeft_16 : decode cX9_roomsLeft 16 = .ok (.aload_n 0, 1) := by decide +kernel
theorem dX9_roomsLeft_17 : decode cX9_roomsLeft 17 = .ok (.iconst 0, 1) := by decide +kernel
theorem dX9_roomsLeft_18 : decode cX9_roomsLeft 18 = .ok (.aload_n 0, 1) := by decide +kernel
theorem dX9_roomsLeft_19 : decode cX9_roomsLeft 19 = .ok (.getfield 51, 3) := by decide +kernel
theorem dX9_roomsLeft_22 : decode cX9_roomsLeft 22 = .ok (.iload_n 3, 1) := by decide +kernel
theorem dX9_roomsLeft_23 : decode cX9_roomsLeft 23 = .ok (.invokevirtual 104, 3) := by decide +kernel
theorem dX9_roomsLeft_26 : decode cX9_roomsLeft 26 = .ok (.iconst (-1), 1) := by decide +kernel
theorem dX9_roomsLeft_27 : decode cX9_roomsLeft 27 = .ok (.if_icmp .eq 7, 3) := by decide +kernel
theorem dX9_roomsLeft_30 : decode cX9_roomsLeft 30 = .ok (.iconst 1, 1) := by decide +kernel
theorem dX9_roomsLeft_31 : decode cX9_roomsLeft 31 = .ok (.goto 21, 3) := by decide +kernel
theorem dX9_roomsLeft_34 : decode cX9_roomsLeft 34 = .ok (.iconst 0, 1) := by decide +kernel
theorem dX9_roomsLeft_35 : decode cX9_roomsLeft 35 = .ok (.goto 17, 3) := by decide +kernel
theorem dX9_roomsLeft_38 : decode cX9_roomsLeft 38 = .ok (.aload_n 0, 1) := by decide +kernel
theorem dX9_roomsLeft_39 : decode cX9_roomsLeft 39 = .ok (.iload_n 3, 1) := by decide +kernel
theorem dX9_roomsLeft_40 : decode cX9_roomsLeft 40 = .ok (.invokevirtual 169, 3) := by decide +kernel
theorem dX9_roomsLeft_43 : decode cX9_roomsLeft 43 = .ok (.iconst (-1), 1) := by decide +kernel
theorem dX9_roomsLeft_44 : decode cX9_roomsLeft 44 = .ok (.if_icmp .eq 7, 3) := by decide +kernel
theorem dX9_roomsLeft_47 : decode cX9_roomsLeft 47 = .ok (.iconst 1, 1) := by decide +kernel
theorem dX9_roomsLeft_48 : decode cX9_roomsLeft 48 = .ok (.goto 4, 3) := by decide +kernel
theorem dX9_roomsLeft_51 : decode cX9_roomsLeft 51 = .ok (.iconst 0, 1) := by decide +kernel
theorem dX9_roomsLeft_52 : decode cX9_roomsLeft 52 = .ok (.istore 4, 2) := by decide +kernel
theorem dX9_roomsLeft_54 : decode cX9_roomsLeft 54 = .ok (.iload_n 2, 1) := by decide +kernel
theorem dX9_roomsLeft_55 : decode cX9_roomsLeft 55 = .ok (.iload 4, 2) := by decide +kernel
theorem dX9_roomsLeft_57 : decode cX9_roomsLeft 57 = .ok (.ifCond .eq 7, 3) := by decide +kernel
theorem dX9_roomsLeft_60 : decode cX9_roomsLeft 60 = .ok (.iconst 0, 1) := by decide +kernel
theorem dX9_roomsLeft_61 : decode cX9_roomsLeft 61 = .ok (.goto 6, 3) := by decide +kernel
theorem dX9_roomsLeft_64 : decode cX9_roomsLeft 64 = .ok (.iconst 1, 1) := by decide +kernel
theorem dX9_roomsLeft_65 : decode cX9_roomsLeft 65 = .ok (.iload_n 3, 1) := by decide +kernel
theorem dX9_roomsLeft_66 : decode cX9_roomsLeft 66 = .ok (.ishl, 1) := by decide +kernel
theorem dX9_roomsLeft_67 : decode cX9_roomsLeft 67 = .ok (.ior, 1) := by decide +kernel
theorem dX9_roomsLeft_68 : decode cX9_roomsLeft 68 = .ok (.istore_n 2, 1) := by decide +kernel
theorem dX9_roomsLeft_69 : decode cX9_roomsLeft 69 = .ok (.iinc 3 1, 3) := by decide +kernel
theorem dX9_roomsLeft_72 : decode cX9_roomsLeft 72 = .ok (.goto (-68), 3) := by decide +kernel
theorem dX9_roomsLeft_75 : decode cX9_roomsLeft 75 = .ok (.iload_n 2, 1) := by decide +kernel
theorem dX9_roomsLeft_76 : decode cX9_roomsLeft 76 = .ok (.ireturn, 1) := by decide +kernel
theorem dX9_partings_0 : decode cX9_partings 0 = .ok (.iconst 0, 1) := by decide +kernel
theorem dX9_partings_1 : decode cX9_partings 1 = .ok (.istore_n 2, 1) := by decide +kernel
theorem dX9_partings_2 : decode cX9_partings 2 = .ok (.iload_n 2, 1) := by decide +kernel
theorem dX9_partings_3 : decode cX9_partings 3 = .ok (.bipush 64, 2) := by decide +kernel
theorem dX9_partings_5 : decode cX9_partings 5 = .ok (.if_icmp .ge 16, 3) := by decide +kernel
theorem dX9_partings_8 : decode cX9_partings 8 = .ok (.aload_n 0, 1) := by decide +kernel
theorem dX9_partings_9 : decode cX9_partings 9 = .ok (.getfield 44, 3) := by decide +kernel
theorem dX9_partings_12 : decode cX9_partings 12 = .ok (.iload_n 2, 1) := by decide +kernel
theorem dX9_partings_13 : decode cX9_partings 13 = .ok (.iconst 0, 1) := by decide +kernel
theorem dX9_partings_14 : decode cX9_partings 14 = .ok (.iastore, 1) := by decide +kernel
theorem dX9_partings_15 : decode cX9_partings 15 = .ok (.iinc 2 1, 3) := by decide +kernel
theorem dX9_partings_18 : decode cX9_partings 18 = .ok (.goto (-16), 3) := by decide +kernel
theorem dX9_partings_21 : decode cX9_partings 21 = .ok (.aload_n 0, 1) := by decide +kernel
theorem dX9_partings_22 : decode cX9_partings 22 = .ok (.getfield 44, 3) := by decide +kernel
theorem dX9_partings_25 : decode cX9_partings 25 = .ok (.iconst 0, 1) := by decide +kernel
theorem dX9_partings_26 : decode cX9_partings 26 = .ok (.iconst 1, 1) := by decide +kernel
theorem dX9_partings_27 : decode cX9_partings 27 = .ok (.iastore, 1) := by decide +kernel
theorem dX9_partings_28 : decode cX9_partings 28 = .ok (.iconst 0, 1) := by decide +kernel
theorem dX9_partings_29 : decode cX9_partings 29 = .ok (.istore_n 2, 1) := by decide +kernel
theorem dX9_partings_30 : decode cX9_partings 30 = .ok (.iload_n 2, 1) := by decide +kernel
theorem dX9_partings_31 : decode cX9_partings 31 = .ok (.bipush 64, 2) := by decide +kernel
theorem dX9_partings_33 : decode cX9_partings 33 = .ok (.if_icmp .ge 147, 3) := by decide +kernel
theorem dX9_partings_36 : decode cX9_partings 36 = .ok (.iload_n 1, 1) := by decide +kernel
theorem dX9_partings_37 : decode cX9_partings 37 = .ok (.iload_n 2, 1) := by decide +kernel
theorem dX9_partings_38 : decode cX9_partings 38 = .ok (.invokestatic 172, 3) := by decide +kernel
theorem dX9_partings_41 : decode cX9_partings 41 = .ok (.invokestatic 175, 3) := by decide +kernel
theorem dX9_partings_44 : decode cX9_partings 44 = .ok (.istore_n 3, 1) := by decide +kernel
theorem dX9_partings_45 : decode cX9_partings 45 = .ok (.iconst 0, 1) := by decide +kernel
theorem dX9_partings_46 : decode cX9_partings 46 = .ok (.istore 4, 2) := by decide +kernel
theorem dX9_partings_48 : decode cX9_partings 48 = .ok (.iload 4, 2) := by decide +kernel
theorem dX9_partings_50 : decode cX9_partings 50 = .ok (.aload_n 0, 1) := by decide +kernel
theorem dX9_partings_51 : decode cX9_partings 51 = .ok (.getfield 51, 3) := by decide +kernel
theorem dX9_partings_54 : decode cX9_partings 54 = .ok (.if_icmp .ge 120, 3) := by decide +kernel
theorem dX9_partings_57 : decode cX9_partings 57 = .ok (.iload_n 3, 1) := by decide +kernel
theorem dX9_partings_58 : decode cX9_partings 58 = .ok (.iconst (-1), 1) := by decide +kernel
theorem dX9_partings_59 : decode cX9_partings 59 = .ok (.if_icmp .eq 115, 3) := by decide +kernel
theorem dX9_partings_62 : decode cX9_partings 62 = .ok (.aload_n 0, 1) := by decide +kernel
theorem dX9_partings_63 : decode cX9_partings 63 = .ok (.getfield 44, 3) := by decide +kernel
theorem dX9_partings_66 : decode cX9_partings 66 = .ok (.iload_n 2, 1) := by decide +kernel
theorem dX9_partings_67 : decode cX9_partings 67 = .ok (.iaload, 1) := by decide +kernel
theorem dX9_partings_68 : decode cX9_partings 68 = .ok (.ifCond .le 106, 3) := by decide +kernel
theorem dX9_partings_71 : decode cX9_partings 71 = .ok (.iload_n 1, 1) := by decide +kernel
theorem dX9_partings_72 : decode cX9_partings 72 = .ok (.iload 4, 2) := by decide +kernel
theorem dX9_partings_74 : decode cX9_partings 74 = .ok (.invokestatic 134, 3) := by decide +kernel
theorem dX9_partings_77 : decode cX9_partings 77 = .ok (.ifCond .eq 50, 3) := by decide +kernel
theorem dX9_partings_80 : decode cX9_partings 80 = .ok (.iload_n 2, 1) := by decide +kernel
theorem dX9_partings_81 : decode cX9_partings 81 = .ok (.iload 4, 2) := by decide +kernel
theorem dX9_partings_83 : decode cX9_partings 83 = .ok (.invokestatic 134, 3) := by decide +kernel
theorem dX9_partings_86 : decode cX9_partings 86 = .ok (.ifCond .ne 41, 3) := by decide +kernel
theorem dX9_partings_89 : decode cX9_partings 89 = .ok (.aload_n 0, 1) := by decide +kernel
theorem dX9_partings_90 : decode cX9_partings 90 = .ok (.iconst 0, 1) := by decide +kernel
theorem dX9_partings_91 : decode cX9_partings 91 = .ok (.iload_n 3, 1) := by decide +kernel
theorem dX9_partings_92 : decode cX9_partings 92 = .ok (.aload_n 0, 1) := by decide +kernel
theorem dX9_partings_93 : decode cX9_partings 93 = .ok (.getfield 7, 3) := by decide +kernel
theorem dX9_partings_96 : decode cX9_partings 96 = .ok (.bipush 54, 2) := by decide +kernel
theorem dX9_partings_98 : decode cX9_partings 98 = .ok (.iload 4, 2) := by decide +kernel
theorem dX9_partings_100 : decode cX9_partings 100 = .ok (.iadd, 1) := by decide +kernel
theorem dX9_partings_101 : decode cX9_partings 101 = .ok (.iaload, 1) := by decide +kernel
theorem dX9_partings_102 : decode cX9_partings 102 = .ok (.invokevirtual 178, 3) := by decide +kernel
theorem dX9_partings_105 : decode cX9_partings 105 = .ok (.aload_n 0, 1) := by decide +kernel
theorem dX9_partings_106 : decode cX9_partings 106 = .ok (.iconst 0, 1) := by decide +kernel
theorem dX9_partings_107 : decode cX9_partings 107 = .ok (.iload_n 3, 1) := by decide +kernel
theorem dX9_partings_108 : decode cX9_partings 108 = .ok (.aload_n 0, 1) := by decide +kernel
theorem dX9_partings_109 : decode cX9_partings 109 = .ok (.getfield 7, 3) := by decide +kernel
theorem dX9_partings_112 : decode cX9_partings 112 = .ok (.bipush 54, 2) := by decide +kernel
theorem dX9_partings_114 : decode cX9_partings 114 = .ok (.iload_n 3, 1) := by decide +kernel
theorem dX9_partings_115 : decode cX9_partings 115 = .ok (.iadd, 1) := by decide +kernel
theorem dX9_partings_116 : decode cX9_partings 116 = .ok (.iaload, 1) := by decide +kernel
theorem dX9_partings_117 : decode cX9_partings 117 = .ok (.invokevirtual 178, 3) := by decide +kernel
theorem dX9_partings_120 : decode cX9_partings 120 = .ok (.if_icmp .gt 7, 3) := by decide +kernel
theorem dX9_partings_123 : decode cX9_partings 123 = .ok (.iconst 1, 1) := by decide +kernel
theorem dX9_partings_124 : decode cX9_partings 124 = .ok (.goto 4, 3) := by decide +kernel
theorem dX9_partings_127 : decode cX9_partings 127 = .ok (.iconst 0, 1) := by decide +kernel
theorem dX9_partings_128 : decode cX9_partings 128 = .ok (.istore 5, 2) := by decide +kernel
theorem dX9_partings_130 : decode cX9_partings 130 = .ok (.aload_n 0, 1) := by decide +kernel
theorem dX9_partings_131 : decode cX9_partings 131 = .ok (.getfield 44, 3) := by decide +kernel
theorem dX9_partings_134 : decode cX9_partings 134 = .ok (.iload 5, 2) := by decide +kernel
theorem dX9_partings_136 : decode cX9_partings 136 = .ok (.ifCond .eq 12, 3) := by decide +kernel
theorem dX9_partings_139 : decode cX9_partings 139 = .ok (.iload_n 2, 1) := by decide +kernel
theorem dX9_partings_140 : decode cX9_partings 140 = .ok (.iconst 1, 1) := by decide +kernel
theorem dX9_partings_141 : decode cX9_partings 141 = .ok (.iload 4, 2) := by decide +kernel
theorem dX9_partings_143 : decode cX9_partings 143 = .ok (.ishl, 1) := by decide +kernel
theorem dX9_partings_144 : decode cX9_partings 144 = .ok (.ior, 1) := by decide +kernel
theorem dX9_partings_145 : decode cX9_partings 145 = .ok (.goto 4, 3) := by decide +kernel
theorem dX9_partings_148 : decode cX9_partings 148 = .ok (.iconst 0, 1) := by decide +kernel
theorem dX9_partings_149 : decode cX9_partings 149 = .ok (.dup2, 1) := by decide +kernel
theorem dX9_partings_150 : decode cX9_partings 150 = .ok (.iaload, 1) := by decide +kernel
theorem dX9_partings_151 : decode cX9_partings 151 = .ok (.iload 5, 2) := by decide +kernel
theorem dX9_partings_153 : decode cX9_partings 153 = .ok (.ifCond .eq 12, 3) := by decide +kernel
theorem dX9_partings_156 : decode cX9_partings 156 = .ok (.aload_n 0, 1) := by decide +kernel
theorem dX9_partings_157 : decode cX9_partings 157 = .ok (.getfield 44, 3) := by decide +kernel
theorem dX9_partings_160 : decode cX9_partings 160 = .ok (.iload_n 2, 1) := by decide +kernel
theorem dX9_partings_161 : decode cX9_partings 161 = .ok (.iaload, 1) := by decide +kernel
theorem dX9_partings_162 : decode cX9_partings 162 = .ok (.goto 4, 3) := by decide +kernel
theorem dX9_partings_165 : decode cX9_partings 165 = .ok (.iconst 0, 1) := by decide +kernel
theorem dX9_partings_166 : decode cX9_partings 166 = .ok (.iadd, 1) := by decide +kernel
theorem dX9_partings_167 : decode cX9_partings 167 = .ok (.iastore, 1) := by decide +kernel
theorem dX9_partings_168 : decode cX9_partings 168 = .ok (.iinc 4 1, 3) := by decide +kernel
theorem dX9_partings_171 : decode cX9_partings 171 = .ok (.goto (-123), 3) := by decide +kernel
theorem dX9_partings_174 : decode cX9_partings 174 = .ok (.iinc 2 1, 3) := by decide +kernel
theorem dX9_partings_177 : decode cX9_partings 177 = .ok (.goto (-147), 3) := by decide +kernel
theorem dX9_partings_180 : decode cX9_partings 180 = .ok (.aload_n 0, 1) := by decide +kernel
theorem dX9_partings_181 : decode cX9_partings 181 = .ok (.getfield 44, 3) := by decide +kernel
theorem dX9_partings_184 : decode cX9_partings 184 = .ok (.iload_n 1, 1) := by decide +kernel
theorem dX9_partings_185 : decode cX9_partings 185 = .ok (.iaload, 1) := by decide +kernel
theorem dX9_partings_186 : decode cX9_partings 186 = .ok (.ireturn, 1) := by decide +kernel
theorem dX9_personAt_0 : decode cX9_personAt 0 = .ok (.iload_n 1, 1) := by decide +kernel
theorem dX9_personAt_1 : decode cX9_personAt 1 = .ok (.istore_n 2, 1) := by decide +kernel
theorem dX9_personAt_2 : decode cX9_personAt 2 = .ok (.iconst 0, 1) := by decide +kernel
theorem dX9_personAt_3 : decode cX9_personAt 3 = .ok (.istore_n 3, 1) := by decide +kernel
theorem dX9_personAt_4 : decode cX9_personAt 4 = .ok (.iload_n 3, 1) := by decide +kernel
theorem dX9_personAt_5 : decode cX9_personAt 5 = .ok (.bipush 6, 2) := by decide +kernel
theorem dX9_personAt_7 : decode cX9_personAt 7 = .ok (.if_icmp .ge 26, 3) := by decide +kernel
theorem dX9_personAt_10 : decode cX9_personAt 10 = .ok (.iload_n 0, 1) := by decide +kernel
theorem dX9_personAt_11 : decode cX9_personAt 11 = .ok (.iload_n 3, 1) := by decide +kernel
theorem dX9_personAt_12 : decode cX9_personAt 12 = .ok (.invokestatic 134, 3) := by decide +kernel
theorem dX9_personAt_15 : decode cX9_personAt 15 = .ok (.ifCond .eq 12, 3) := by decide +kernel
theorem dX9_personAt_18 : decode cX9_personAt 18 = .ok (.iload_n 2, 1) := by decide +kernel
theorem dX9_personAt_19 : decode cX9_personAt 19 = .ok (.ifCond .ne 5, 3) := by decide +kernel
theorem dX9_personAt_22 : decode cX9_personAt 22 = .ok (.iload_n 3, 1) := by decide +kernel
theorem dX9_personAt_23 : decode cX9_personAt 23 = .ok (.ireturn, 1) := by decide +kernel
theorem dX9_personAt_24 : decode cX9_personAt 24 = .ok (.iinc 2 (-1), 3) := by decide +kernel
theorem dX9_personAt_27 : decode cX9_personAt 27 = .ok (.iinc 3 1, 3) := by decide +kernel
theorem dX9_personAt_30 : decode cX9_personAt 30 = .ok (.goto (-26), 3) := by decide +kernel
theorem dX9_personAt_33 : decode cX9_personAt 33 = .ok (.iconst (-1), 1) := by decide +kernel
theorem dX9_personAt_34 : decode cX9_personAt 34 = .ok (.ireturn, 1) := by decide +kernel
theorem dX9_sitters_0 : decode cX9_sitters 0 = .ok (.iconst 0, 1) := by decide +kernel
theorem dX9_sitters_1 : decode cX9_sitters 1 = .ok (.istore_n 1, 1) := by decide +kernel
theorem dX9_sitters_2 : decode cX9_sitters 2 = .ok (.iconst 0, 1) := by decide +kernel
theorem dX9_sitters_3 : decode cX9_sitters 3 = .ok (.istore_n 2, 1) := by decide +kernel
end
section
theorem dX9_sitters_4 : decode cX9_sitters 4 = .ok (.iload_n 2, 1) := by decide +kernel
theorem dX9_sitters_5 : decode cX9_sitters 5 = .ok (.aload_n 0, 1) := by decide +kernel
theorem dX9_sitters_6 : decode cX9_sitters 6 = .ok (.getfield 51, 3) := by decide +kernel
theorem dX9_sitters_9 : decode cX9_sitters 9 = .ok (.if_icmp .ge 32, 3) := by decide +kernel
theorem dX9_sitters_12 : decode cX9_sitters 12 = .ok (.iload_n 1, 1) := by decide +kernel
theorem dX9_sitters_13 : decode cX9_sitters 13 = .ok (.aload_n 0, 1) := by decide +kernel
theorem dX9_sitters_14 : decode cX9_sitters 14 = .ok (.getfield 7, 3) := by decide +kernel
theorem dX9_sitters_17 : decode cX9_sitters 17 = .ok (.bipush 54, 2) := by decide +kernel
theorem dX9_sitters_19 : decode cX9_sitters 19 = .ok (.iload_n 2, 1) := by decide +kernel
theorem dX9_sitters_20 : decode cX9_sitters 20 = .ok (.iadd, 1) := by decide +kernel
theorem dX9_sitters_21 : decode cX9_sitters 21 = .ok (.iaload, 1) := by decide +kernel
theorem dX9_sitters_22 : decode cX9_sitters 22 = .ok (.iconst (-1), 1) := by decide +kernel
theorem dX9_sitters_23 : decode cX9_sitters 23 = .ok (.if_icmp .ne 7, 3) := by decide +kernel
theorem dX9_sitters_26 : decode cX9_sitters 26 = .ok (.iconst 0, 1) := by decide +kernel
theorem dX9_sitters_27 : decode cX9_sitters 27 = .ok (.goto 6, 3) := by decide +kernel
theorem dX9_sitters_30 : decode cX9_sitters 30 = .ok (.iconst 1, 1) := by decide +kernel
theorem dX9_sitters_31 : decode cX9_sitters 31 = .ok (.iload_n 2, 1) := by decide +kernel
theorem dX9_sitters_32 : decode cX9_sitters 32 = .ok (.ishl, 1) := by decide +kernel
theorem dX9_sitters_33 : decode cX9_sitters 33 = .ok (.ior, 1) := by decide +kernel
theorem dX9_sitters_34 : decode cX9_sitters 34 = .ok (.istore_n 1, 1) := by decide +kernel
theorem dX9_sitters_35 : decode cX9_sitters 35 = .ok (.iinc 2 1, 3) := by decide +kernel
theorem dX9_sitters_38 : decode cX9_sitters 38 = .ok (.goto (-34), 3) := by decide +kernel
theorem dX9_sitters_41 : decode cX9_sitters 41 = .ok (.iload_n 1, 1) := by decide +kernel
theorem dX9_sitters_42 : decode cX9_sitters 42 = .ok (.ireturn, 1) := by decide +kernel
theorem dX9_groups_0 : decode cX9_groups 0 = .ok (.iconst (-1), 1) := by decide +kernel
theorem dX9_groups_1 : decode cX9_groups 1 = .ok (.istore_n 2, 1) := by decide +kernel
theorem dX9_groups_2 : decode cX9_groups 2 = .ok (.iconst 0, 1) := by decide +kernel
theorem dX9_groups_3 : decode cX9_groups 3 = .ok (.istore_n 3, 1) := by decide +kernel
theorem dX9_groups_4 : decode cX9_groups 4 = .ok (.iconst 1, 1) := by decide +kernel
theorem dX9_groups_5 : decode cX9_groups 5 = .ok (.istore 4, 2) := by decide +kernel
theorem dX9_groups_7 : decode cX9_groups 7 = .ok (.iload 4, 2) := by decide +kernel
theorem dX9_groups_9 : decode cX9_groups 9 = .ok (.iconst 1, 1) := by decide +kernel
theorem dX9_groups_10 : decode cX9_groups 10 = .ok (.aload_n 0, 1) := by decide +kernel
theorem dX9_groups_11 : decode cX9_groups 11 = .ok (.getfield 51, 3) := by decide +kernel
theorem dX9_groups_14 : decode cX9_groups 14 = .ok (.ishl, 1) := by decide +kernel
theorem dX9_groups_15 : decode cX9_groups 15 = .ok (.if_icmp .ge 58, 3) := by decide +kernel
theorem dX9_groups_18 : decode cX9_groups 18 = .ok (.iload 4, 2) := by decide +kernel
theorem dX9_groups_20 : decode cX9_groups 20 = .ok (.aload_n 0, 1) := by decide +kernel
theorem dX9_groups_21 : decode cX9_groups 21 = .ok (.invokevirtual 181, 3) := by decide +kernel
theorem dX9_groups_24 : decode cX9_groups 24 = .ok (.iconst (-1), 1) := by decide +kernel
theorem dX9_groups_25 : decode cX9_groups 25 = .ok (.ixor, 1) := by decide +kernel
theorem dX9_groups_26 : decode cX9_groups 26 = .ok (.iand, 1) := by decide +kernel
theorem dX9_groups_27 : decode cX9_groups 27 = .ok (.ifCond .ne 40, 3) := by decide +kernel
theorem dX9_groups_30 : decode cX9_groups 30 = .ok (.aload_n 0, 1) := by decide +kernel
theorem dX9_groups_31 : decode cX9_groups 31 = .ok (.iload 4, 2) := by decide +kernel
theorem dX9_groups_33 : decode cX9_groups 33 = .ok (.invokevirtual 184, 3) := by decide +kernel
theorem dX9_groups_36 : decode cX9_groups 36 = .ok (.iconst 1, 1) := by decide +kernel
theorem dX9_groups_37 : decode cX9_groups 37 = .ok (.if_icmp .le 30, 3) := by decide +kernel
theorem dX9_groups_40 : decode cX9_groups 40 = .ok (.iinc 3 1, 3) := by decide +kernel
theorem dX9_groups_43 : decode cX9_groups 43 = .ok (.iload_n 2, 1) := by decide +kernel
theorem dX9_groups_44 : decode cX9_groups 44 = .ok (.iconst (-1), 1) := by decide +kernel
theorem dX9_groups_45 : decode cX9_groups 45 = .ok (.if_icmp .eq 15, 3) := by decide +kernel
theorem dX9_groups_48 : decode cX9_groups 48 = .ok (.iload 4, 2) := by decide +kernel
theorem dX9_groups_50 : decode cX9_groups 50 = .ok (.invokestatic 172, 3) := by decide +kernel
theorem dX9_groups_53 : decode cX9_groups 53 = .ok (.iload_n 2, 1) := by decide +kernel
theorem dX9_groups_54 : decode cX9_groups 54 = .ok (.invokestatic 172, 3) := by decide +kernel
theorem dX9_groups_57 : decode cX9_groups 57 = .ok (.if_icmp .ge 8, 3) := by decide +kernel
theorem dX9_groups_60 : decode cX9_groups 60 = .ok (.iload 4, 2) := by decide +kernel
theorem dX9_groups_62 : decode cX9_groups 62 = .ok (.goto 4, 3) := by decide +kernel
theorem dX9_groups_65 : decode cX9_groups 65 = .ok (.iload_n 2, 1) := by decide +kernel
theorem dX9_groups_66 : decode cX9_groups 66 = .ok (.istore_n 2, 1) := by decide +kernel
theorem dX9_groups_67 : decode cX9_groups 67 = .ok (.iinc 4 1, 3) := by decide +kernel
theorem dX9_groups_70 : decode cX9_groups 70 = .ok (.goto (-63), 3) := by decide +kernel
theorem dX9_groups_73 : decode cX9_groups 73 = .ok (.iload_n 1, 1) := by decide +kernel
theorem dX9_groups_74 : decode cX9_groups 74 = .ok (.ifCond .eq 7, 3) := by decide +kernel
theorem dX9_groups_77 : decode cX9_groups 77 = .ok (.iload_n 3, 1) := by decide +kernel
theorem dX9_groups_78 : decode cX9_groups 78 = .ok (.goto 4, 3) := by decide +kernel
theorem dX9_groups_81 : decode cX9_groups 81 = .ok (.iload_n 2, 1) := by decide +kernel
theorem dX9_groups_82 : decode cX9_groups 82 = .ok (.ireturn, 1) := by decide +kernel
theorem dX9_told_0 : decode cX9_told 0 = .ok (.aload_n 0, 1) := by decide +kernel
theorem dX9_told_1 : decode cX9_told 1 = .ok (.iconst 0, 1) := by decide +kernel
theorem dX9_told_2 : decode cX9_told 2 = .ok (.invokevirtual 187, 3) := by decide +kernel
theorem dX9_told_5 : decode cX9_told 5 = .ok (.iload_n 1, 1) := by decide +kernel
theorem dX9_told_6 : decode cX9_told 6 = .ok (.tableswitch 126 0 11 #[62, 67, 72, 77, 82, 87, 93, 99, 105, 111, 116, 121], 62) := by decide +kernel
theorem dX9_told_68 : decode cX9_told 68 = .ok (.aload_n 0, 1) := by decide +kernel
theorem dX9_told_69 : decode cX9_told 69 = .ok (.getfield 58, 3) := by decide +kernel
theorem dX9_told_72 : decode cX9_told 72 = .ok (.ireturn, 1) := by decide +kernel
theorem dX9_told_73 : decode cX9_told 73 = .ok (.aload_n 0, 1) := by decide +kernel
theorem dX9_told_74 : decode cX9_told 74 = .ok (.getfield 51, 3) := by decide +kernel
theorem dX9_told_77 : decode cX9_told 77 = .ok (.ireturn, 1) := by decide +kernel
theorem dX9_told_78 : decode cX9_told 78 = .ok (.aload_n 0, 1) := by decide +kernel
theorem dX9_told_79 : decode cX9_told 79 = .ok (.getfield 62, 3) := by decide +kernel
theorem dX9_told_82 : decode cX9_told 82 = .ok (.ireturn, 1) := by decide +kernel
theorem dX9_told_83 : decode cX9_told 83 = .ok (.aload_n 0, 1) := by decide +kernel
theorem dX9_told_84 : decode cX9_told 84 = .ok (.getfield 154, 3) := by decide +kernel
theorem dX9_told_87 : decode cX9_told 87 = .ok (.ireturn, 1) := by decide +kernel
theorem dX9_told_88 : decode cX9_told 88 = .ok (.aload_n 0, 1) := by decide +kernel
theorem dX9_told_89 : decode cX9_told 89 = .ok (.invokevirtual 190, 3) := by decide +kernel
theorem dX9_told_92 : decode cX9_told 92 = .ok (.ireturn, 1) := by decide +kernel
theorem dX9_told_93 : decode cX9_told 93 = .ok (.aload_n 0, 1) := by decide +kernel
theorem dX9_told_94 : decode cX9_told 94 = .ok (.iconst 1, 1) := by decide +kernel
theorem dX9_told_95 : decode cX9_told 95 = .ok (.invokevirtual 193, 3) := by decide +kernel
theorem dX9_told_98 : decode cX9_told 98 = .ok (.ireturn, 1) := by decide +kernel
theorem dX9_told_99 : decode cX9_told 99 = .ok (.aload_n 0, 1) := by decide +kernel
theorem dX9_told_100 : decode cX9_told 100 = .ok (.iconst 0, 1) := by decide +kernel
theorem dX9_told_101 : decode cX9_told 101 = .ok (.invokevirtual 193, 3) := by decide +kernel
theorem dX9_told_104 : decode cX9_told 104 = .ok (.ireturn, 1) := by decide +kernel
theorem dX9_told_105 : decode cX9_told 105 = .ok (.aload_n 0, 1) := by decide +kernel
theorem dX9_told_106 : decode cX9_told 106 = .ok (.iconst 0, 1) := by decide +kernel
theorem dX9_told_107 : decode cX9_told 107 = .ok (.invokevirtual 196, 3) := by decide +kernel
theorem dX9_told_110 : decode cX9_told 110 = .ok (.ireturn, 1) := by decide +kernel
theorem dX9_told_111 : decode cX9_told 111 = .ok (.aload_n 0, 1) := by decide +kernel
theorem dX9_told_112 : decode cX9_told 112 = .ok (.iconst 1, 1) := by decide +kernel
theorem dX9_told_113 : decode cX9_told 113 = .ok (.invokevirtual 196, 3) := by decide +kernel
theorem dX9_told_116 : decode cX9_told 116 = .ok (.ireturn, 1) := by decide +kernel
theorem dX9_told_117 : decode cX9_told 117 = .ok (.aload_n 0, 1) := by decide +kernel
theorem dX9_told_118 : decode cX9_told 118 = .ok (.getfield 125, 3) := by decide +kernel
theorem dX9_told_121 : decode cX9_told 121 = .ok (.ireturn, 1) := by decide +kernel
theorem dX9_told_122 : decode cX9_told 122 = .ok (.aload_n 0, 1) := by decide +kernel
theorem dX9_told_123 : decode cX9_told 123 = .ok (.getfield 128, 3) := by decide +kernel
theorem dX9_told_126 : decode cX9_told 126 = .ok (.ireturn, 1) := by decide +kernel
theorem dX9_told_127 : decode cX9_told 127 = .ok (.aload_n 0, 1) := by decide +kernel
theorem dX9_told_128 : decode cX9_told 128 = .ok (.getfield 119, 3) := by decide +kernel
theorem dX9_told_131 : decode cX9_told 131 = .ok (.ireturn, 1) := by decide +kernel
theorem dX9_told_132 : decode cX9_told 132 = .ok (.ldc 61, 2) := by decide +kernel
theorem dX9_told_134 : decode cX9_told 134 = .ok (.ireturn, 1) := by decide +kernel
theorem dX9_byLot_0 : decode cX9_byLot 0 = .ok (.iconst 1, 1) := by decide +kernel
theorem dX9_byLot_1 : decode cX9_byLot 1 = .ok (.aload_n 0, 1) := by decide +kernel
theorem dX9_byLot_2 : decode cX9_byLot 2 = .ok (.getfield 58, 3) := by decide +kernel
theorem dX9_byLot_5 : decode cX9_byLot 5 = .ok (.ishl, 1) := by decide +kernel
theorem dX9_byLot_6 : decode cX9_byLot 6 = .ok (.iconst 1, 1) := by decide +kernel
theorem dX9_byLot_7 : decode cX9_byLot 7 = .ok (.isub, 1) := by decide +kernel
theorem dX9_byLot_8 : decode cX9_byLot 8 = .ok (.istore_n 2, 1) := by decide +kernel
theorem dX9_byLot_9 : decode cX9_byLot 9 = .ok (.iconst 0, 1) := by decide +kernel
theorem dX9_byLot_10 : decode cX9_byLot 10 = .ok (.istore_n 3, 1) := by decide +kernel
theorem dX9_byLot_11 : decode cX9_byLot 11 = .ok (.iconst 0, 1) := by decide +kernel
theorem dX9_byLot_12 : decode cX9_byLot 12 = .ok (.istore 4, 2) := by decide +kernel
theorem dX9_byLot_14 : decode cX9_byLot 14 = .ok (.iload 4, 2) := by decide +kernel
theorem dX9_byLot_16 : decode cX9_byLot 16 = .ok (.aload_n 0, 1) := by decide +kernel
theorem dX9_byLot_17 : decode cX9_byLot 17 = .ok (.getfield 51, 3) := by decide +kernel
theorem dX9_byLot_20 : decode cX9_byLot 20 = .ok (.if_icmp .ge 74, 3) := by decide +kernel
theorem dX9_byLot_23 : decode cX9_byLot 23 = .ok (.aload_n 0, 1) := by decide +kernel
theorem dX9_byLot_24 : decode cX9_byLot 24 = .ok (.getfield 7, 3) := by decide +kernel
theorem dX9_byLot_27 : decode cX9_byLot 27 = .ok (.bipush 60, 2) := by decide +kernel
theorem dX9_byLot_29 : decode cX9_byLot 29 = .ok (.iload 4, 2) := by decide +kernel
theorem dX9_byLot_31 : decode cX9_byLot 31 = .ok (.iadd, 1) := by decide +kernel
theorem dX9_byLot_32 : decode cX9_byLot 32 = .ok (.iaload, 1) := by decide +kernel
theorem dX9_byLot_33 : decode cX9_byLot 33 = .ok (.istore 5, 2) := by decide +kernel
theorem dX9_byLot_35 : decode cX9_byLot 35 = .ok (.iload_n 3, 1) := by decide +kernel
theorem dX9_byLot_36 : decode cX9_byLot 36 = .ok (.iconst 1, 1) := by decide +kernel
theorem dX9_byLot_37 : decode cX9_byLot 37 = .ok (.iload 5, 2) := by decide +kernel
theorem dX9_byLot_39 : decode cX9_byLot 39 = .ok (.ishl, 1) := by decide +kernel
theorem dX9_byLot_40 : decode cX9_byLot 40 = .ok (.ior, 1) := by decide +kernel
theorem dX9_byLot_41 : decode cX9_byLot 41 = .ok (.istore_n 3, 1) := by decide +kernel
theorem dX9_byLot_42 : decode cX9_byLot 42 = .ok (.aload_n 0, 1) := by decide +kernel
theorem dX9_byLot_43 : decode cX9_byLot 43 = .ok (.iconst 0, 1) := by decide +kernel
theorem dX9_byLot_44 : decode cX9_byLot 44 = .ok (.iload 5, 2) := by decide +kernel
theorem dX9_byLot_46 : decode cX9_byLot 46 = .ok (.iload_n 2, 1) := by decide +kernel
theorem dX9_byLot_47 : decode cX9_byLot 47 = .ok (.aload_n 0, 1) := by decide +kernel
theorem dX9_byLot_48 : decode cX9_byLot 48 = .ok (.iload_n 3, 1) := by decide +kernel
theorem dX9_byLot_49 : decode cX9_byLot 49 = .ok (.invokevirtual 200, 3) := by decide +kernel
theorem dX9_byLot_52 : decode cX9_byLot 52 = .ok (.iconst (-1), 1) := by decide +kernel
theorem dX9_byLot_53 : decode cX9_byLot 53 = .ok (.ixor, 1) := by decide +kernel
theorem dX9_byLot_54 : decode cX9_byLot 54 = .ok (.iand, 1) := by decide +kernel
theorem dX9_byLot_55 : decode cX9_byLot 55 = .ok (.invokevirtual 148, 3) := by decide +kernel
theorem dX9_byLot_58 : decode cX9_byLot 58 = .ok (.istore 6, 2) := by decide +kernel
theorem dX9_byLot_60 : decode cX9_byLot 60 = .ok (.iload_n 2, 1) := by decide +kernel
theorem dX9_byLot_61 : decode cX9_byLot 61 = .ok (.iload 6, 2) := by decide +kernel
theorem dX9_byLot_63 : decode cX9_byLot 63 = .ok (.iconst (-1), 1) := by decide +kernel
theorem dX9_byLot_64 : decode cX9_byLot 64 = .ok (.if_icmp .ne 7, 3) := by decide +kernel
theorem dX9_byLot_67 : decode cX9_byLot 67 = .ok (.iload_n 2, 1) := by decide +kernel
theorem dX9_byLot_68 : decode cX9_byLot 68 = .ok (.goto 9, 3) := by decide +kernel
theorem dX9_byLot_71 : decode cX9_byLot 71 = .ok (.iconst 1, 1) := by decide +kernel
theorem dX9_byLot_72 : decode cX9_byLot 72 = .ok (.iload 6, 2) := by decide +kernel
theorem dX9_byLot_74 : decode cX9_byLot 74 = .ok (.ishl, 1) := by decide +kernel
theorem dX9_byLot_75 : decode cX9_byLot 75 = .ok (.iconst (-1), 1) := by decide +kernel
theorem dX9_byLot_76 : decode cX9_byLot 76 = .ok (.ixor, 1) := by decide +kernel
theorem dX9_byLot_77 : decode cX9_byLot 77 = .ok (.iand, 1) := by decide +kernel
theorem dX9_byLot_78 : decode cX9_byLot 78 = .ok (.istore_n 2, 1) := by decide +kernel
theorem dX9_byLot_79 : decode cX9_byLot 79 = .ok (.iload 5, 2) := by decide +kernel
theorem dX9_byLot_81 : decode cX9_byLot 81 = .ok (.iload_n 1, 1) := by decide +kernel
theorem dX9_byLot_82 : decode cX9_byLot 82 = .ok (.if_icmp .ne 6, 3) := by decide +kernel
theorem dX9_byLot_85 : decode cX9_byLot 85 = .ok (.iload 6, 2) := by decide +kernel
theorem dX9_byLot_87 : decode cX9_byLot 87 = .ok (.ireturn, 1) := by decide +kernel
theorem dX9_byLot_88 : decode cX9_byLot 88 = .ok (.iinc 4 1, 3) := by decide +kernel
theorem dX9_byLot_91 : decode cX9_byLot 91 = .ok (.goto (-77), 3) := by decide +kernel
theorem dX9_byLot_94 : decode cX9_byLot 94 = .ok (.iconst (-1), 1) := by decide +kernel
theorem dX9_byLot_95 : decode cX9_byLot 95 = .ok (.ireturn, 1) := by decide +kernel
theorem dX9_kept_0 : decode cX9_kept 0 = .ok (.iconst 0, 1) := by decide +kernel
theorem dX9_kept_1 : decode cX9_kept 1 = .ok (.istore_n 2, 1) := by decide +kernel
theorem dX9_kept_2 : decode cX9_kept 2 = .ok (.iconst 0, 1) := by decide +kernel
theorem dX9_kept_3 : decode cX9_kept 3 = .ok (.istore_n 3, 1) := by decide +kernel
theorem dX9_kept_4 : decode cX9_kept 4 = .ok (.iload_n 3, 1) := by decide +kernel
theorem dX9_kept_5 : decode cX9_kept 5 = .ok (.aload_n 0, 1) := by decide +kernel
theorem dX9_kept_6 : decode cX9_kept 6 = .ok (.getfield 51, 3) := by decide +kernel
theorem dX9_kept_9 : decode cX9_kept 9 = .ok (.if_icmp .ge 48, 3) := by decide +kernel
theorem dX9_kept_12 : decode cX9_kept 12 = .ok (.iload_n 2, 1) := by decide +kernel
theorem dX9_kept_13 : decode cX9_kept 13 = .ok (.iload_n 1, 1) := by decide +kernel
theorem dX9_kept_14 : decode cX9_kept 14 = .ok (.iload_n 3, 1) := by decide +kernel
theorem dX9_kept_15 : decode cX9_kept 15 = .ok (.invokestatic 134, 3) := by decide +kernel
theorem dX9_kept_18 : decode cX9_kept 18 = .ok (.ifCond .ne 30, 3) := by decide +kernel
theorem dX9_kept_21 : decode cX9_kept 21 = .ok (.aload_n 0, 1) := by decide +kernel
theorem dX9_kept_22 : decode cX9_kept 22 = .ok (.getfield 7, 3) := by decide +kernel
theorem dX9_kept_25 : decode cX9_kept 25 = .ok (.bipush 54, 2) := by decide +kernel
theorem dX9_kept_27 : decode cX9_kept 27 = .ok (.iload_n 3, 1) := by decide +kernel
theorem dX9_kept_28 : decode cX9_kept 28 = .ok (.iadd, 1) := by decide +kernel
theorem dX9_kept_29 : decode cX9_kept 29 = .ok (.iaload, 1) := by decide +kernel
theorem dX9_kept_30 : decode cX9_kept 30 = .ok (.iconst (-1), 1) := by decide +kernel
theorem dX9_kept_31 : decode cX9_kept 31 = .ok (.if_icmp .eq 17, 3) := by decide +kernel
theorem dX9_kept_34 : decode cX9_kept 34 = .ok (.iconst 1, 1) := by decide +kernel
theorem dX9_kept_35 : decode cX9_kept 35 = .ok (.aload_n 0, 1) := by decide +kernel
theorem dX9_kept_36 : decode cX9_kept 36 = .ok (.getfield 7, 3) := by decide +kernel
theorem dX9_kept_39 : decode cX9_kept 39 = .ok (.bipush 54, 2) := by decide +kernel
theorem dX9_kept_41 : decode cX9_kept 41 = .ok (.iload_n 3, 1) := by decide +kernel
theorem dX9_kept_42 : decode cX9_kept 42 = .ok (.iadd, 1) := by decide +kernel
theorem dX9_kept_43 : decode cX9_kept 43 = .ok (.iaload, 1) := by decide +kernel
theorem dX9_kept_44 : decode cX9_kept 44 = .ok (.ishl, 1) := by decide +kernel
theorem dX9_kept_45 : decode cX9_kept 45 = .ok (.goto 4, 3) := by decide +kernel
theorem dX9_kept_48 : decode cX9_kept 48 = .ok (.iconst 0, 1) := by decide +kernel
theorem dX9_kept_49 : decode cX9_kept 49 = .ok (.ior, 1) := by decide +kernel
theorem dX9_kept_50 : decode cX9_kept 50 = .ok (.istore_n 2, 1) := by decide +kernel
theorem dX9_kept_51 : decode cX9_kept 51 = .ok (.iinc 3 1, 3) := by decide +kernel
theorem dX9_kept_54 : decode cX9_kept 54 = .ok (.goto (-50), 3) := by decide +kernel
theorem dX9_kept_57 : decode cX9_kept 57 = .ok (.iload_n 2, 1) := by decide +kernel
theorem dX9_kept_58 : decode cX9_kept 58 = .ok (.ireturn, 1) := by decide +kernel
theorem dX9_placeInLots_0 : decode cX9_placeInLots 0 = .ok (.iconst 0, 1) := by decide +kernel
theorem dX9_placeInLots_1 : decode cX9_placeInLots 1 = .ok (.istore_n 2, 1) := by decide +kernel
theorem dX9_placeInLots_2 : decode cX9_placeInLots 2 = .ok (.aload_n 0, 1) := by decide +kernel
theorem dX9_placeInLots_3 : decode cX9_placeInLots 3 = .ok (.getfield 7, 3) := by decide +kernel
theorem dX9_placeInLots_6 : decode cX9_placeInLots 6 = .ok (.bipush 60, 2) := by decide +kernel
theorem dX9_placeInLots_8 : decode cX9_placeInLots 8 = .ok (.iload_n 2, 1) := by decide +kernel
theorem dX9_placeInLots_9 : decode cX9_placeInLots 9 = .ok (.iadd, 1) := by decide +kernel
theorem dX9_placeInLots_10 : decode cX9_placeInLots 10 = .ok (.iaload, 1) := by decide +kernel
theorem dX9_placeInLots_11 : decode cX9_placeInLots 11 = .ok (.iload_n 1, 1) := by decide +kernel
theorem dX9_placeInLots_12 : decode cX9_placeInLots 12 = .ok (.if_icmp .eq 9, 3) := by decide +kernel
theorem dX9_placeInLots_15 : decode cX9_placeInLots 15 = .ok (.iinc 2 1, 3) := by decide +kernel
theorem dX9_placeInLots_18 : decode cX9_placeInLots 18 = .ok (.goto (-16), 3) := by decide +kernel
theorem dX9_placeInLots_21 : decode cX9_placeInLots 21 = .ok (.iload_n 2, 1) := by decide +kernel
theorem dX9_placeInLots_22 : decode cX9_placeInLots 22 = .ok (.ireturn, 1) := by decide +kernel
theorem dX9_better_0 : decode cX9_better 0 = .ok (.aload_n 0, 1) := by decide +kernel
theorem dX9_better_1 : decode cX9_better 1 = .ok (.getfield 20, 3) := by decide +kernel
theorem dX9_better_4 : decode cX9_better 4 = .ok (.iload_n 1, 1) := by decide +kernel
theorem dX9_better_5 : decode cX9_better 5 = .ok (.iaload, 1) := by decide +kernel
theorem dX9_better_6 : decode cX9_better 6 = .ok (.iconst (-1), 1) := by decide +kernel
theorem dX9_better_7 : decode cX9_better 7 = .ok (.if_icmp .ne 12, 3) := by decide +kernel
theorem dX9_better_10 : decode cX9_better 10 = .ok (.aload_n 0, 1) := by decide +kernel
theorem dX9_better_11 : decode cX9_better 11 = .ok (.iconst 0, 1) := by decide +kernel
theorem dX9_better_12 : decode cX9_better 12 = .ok (.iload_n 1, 1) := by decide +kernel
theorem dX9_better_13 : decode cX9_better 13 = .ok (.invokevirtual 131, 3) := by decide +kernel
theorem dX9_better_16 : decode cX9_better 16 = .ok (.goto 15, 3) := by decide +kernel
theorem dX9_better_19 : decode cX9_better 19 = .ok (.aload_n 0, 1) := by decide +kernel
theorem dX9_better_20 : decode cX9_better 20 = .ok (.iconst 0, 1) := by decide +kernel
theorem dX9_better_21 : decode cX9_better 21 = .ok (.iload_n 1, 1) := by decide +kernel
theorem dX9_better_22 : decode cX9_better 22 = .ok (.aload_n 0, 1) := by decide +kernel
theorem dX9_better_23 : decode cX9_better 23 = .ok (.getfield 20, 3) := by decide +kernel
theorem dX9_better_26 : decode cX9_better 26 = .ok (.iload_n 1, 1) := by decide +kernel
theorem dX9_better_27 : decode cX9_better 27 = .ok (.iaload, 1) := by decide +kernel
theorem dX9_better_28 : decode cX9_better 28 = .ok (.invokevirtual 178, 3) := by decide +kernel
theorem dX9_better_31 : decode cX9_better 31 = .ok (.ireturn, 1) := by decide +kernel
theorem dX9_person_0 : decode cX9_person 0 = .ok (.aload_n 0, 1) := by decide +kernel
theorem dX9_person_1 : decode cX9_person 1 = .ok (.iload_n 1, 1) := by decide +kernel
theorem dX9_person_2 : decode cX9_person 2 = .ok (.invokevirtual 202, 3) := by decide +kernel
theorem dX9_person_5 : decode cX9_person 5 = .ok (.ifCond .ne 6, 3) := by decide +kernel
theorem dX9_person_8 : decode cX9_person 8 = .ok (.ldc 206, 2) := by decide +kernel
theorem dX9_person_10 : decode cX9_person 10 = .ok (.ireturn, 1) := by decide +kernel
theorem dX9_person_11 : decode cX9_person 11 = .ok (.aload_n 0, 1) := by decide +kernel
theorem dX9_person_12 : decode cX9_person 12 = .ok (.iconst 0, 1) := by decide +kernel
theorem dX9_person_13 : decode cX9_person 13 = .ok (.invokevirtual 187, 3) := by decide +kernel
theorem dX9_person_16 : decode cX9_person 16 = .ok (.iload_n 2, 1) := by decide +kernel
theorem dX9_person_17 : decode cX9_person 17 = .ok (.tableswitch 106 0 7 #[47, 57, 67, 73, 80, 87, 94, 100], 47) := by decide +kernel
theorem dX9_person_64 : decode cX9_person 64 = .ok (.aload_n 0, 1) := by decide +kernel
theorem dX9_person_65 : decode cX9_person 65 = .ok (.getfield 7, 3) := by decide +kernel
theorem dX9_person_68 : decode cX9_person 68 = .ok (.bipush 54, 2) := by decide +kernel
theorem dX9_person_70 : decode cX9_person 70 = .ok (.iload_n 1, 1) := by decide +kernel
theorem dX9_person_71 : decode cX9_person 71 = .ok (.iadd, 1) := by decide +kernel
theorem dX9_person_72 : decode cX9_person 72 = .ok (.iaload, 1) := by decide +kernel
theorem dX9_person_73 : decode cX9_person 73 = .ok (.ireturn, 1) := by decide +kernel
theorem dX9_person_74 : decode cX9_person 74 = .ok (.aload_n 0, 1) := by decide +kernel
theorem dX9_person_75 : decode cX9_person 75 = .ok (.getfield 7, 3) := by decide +kernel
theorem dX9_person_78 : decode cX9_person 78 = .ok (.bipush 48, 2) := by decide +kernel
theorem dX9_person_80 : decode cX9_person 80 = .ok (.iload_n 1, 1) := by decide +kernel
theorem dX9_person_81 : decode cX9_person 81 = .ok (.iadd, 1) := by decide +kernel
theorem dX9_person_82 : decode cX9_person 82 = .ok (.iaload, 1) := by decide +kernel
theorem dX9_person_83 : decode cX9_person 83 = .ok (.ireturn, 1) := by decide +kernel
theorem dX9_person_84 : decode cX9_person 84 = .ok (.aload_n 0, 1) := by decide +kernel
theorem dX9_person_85 : decode cX9_person 85 = .ok (.iload_n 1, 1) := by decide +kernel
theorem dX9_person_86 : decode cX9_person 86 = .ok (.invokevirtual 207, 3) := by decide +kernel
theorem dX9_person_89 : decode cX9_person 89 = .ok (.ireturn, 1) := by decide +kernel
theorem dX9_person_90 : decode cX9_person 90 = .ok (.aload_n 0, 1) := by decide +kernel
theorem dX9_person_91 : decode cX9_person 91 = .ok (.getfield 20, 3) := by decide +kernel
theorem dX9_person_94 : decode cX9_person 94 = .ok (.iload_n 1, 1) := by decide +kernel
theorem dX9_person_95 : decode cX9_person 95 = .ok (.iaload, 1) := by decide +kernel
theorem dX9_person_96 : decode cX9_person 96 = .ok (.ireturn, 1) := by decide +kernel
theorem dX9_person_97 : decode cX9_person 97 = .ok (.aload_n 0, 1) := by decide +kernel
theorem dX9_person_98 : decode cX9_person 98 = .ok (.getfield 23, 3) := by decide +kernel
theorem dX9_person_101 : decode cX9_person 101 = .ok (.iload_n 1, 1) := by decide +kernel
theorem dX9_person_102 : decode cX9_person 102 = .ok (.iaload, 1) := by decide +kernel
theorem dX9_person_103 : decode cX9_person 103 = .ok (.ireturn, 1) := by decide +kernel
theorem dX9_person_104 : decode cX9_person 104 = .ok (.aload_n 0, 1) := by decide +kernel
theorem dX9_person_105 : decode cX9_person 105 = .ok (.getfield 26, 3) := by decide +kernel
theorem dX9_person_108 : decode cX9_person 108 = .ok (.iload_n 1, 1) := by decide +kernel
theorem dX9_person_109 : decode cX9_person 109 = .ok (.iaload, 1) := by decide +kernel
theorem dX9_person_110 : decode cX9_person 110 = .ok (.ireturn, 1) := by decide +kernel
theorem dX9_person_111 : decode cX9_person 111 = .ok (.aload_n 0, 1) := by decide +kernel
theorem dX9_person_112 : decode cX9_person 112 = .ok (.iload_n 1, 1) := by decide +kernel
theorem dX9_person_113 : decode cX9_person 113 = .ok (.invokevirtual 210, 3) := by decide +kernel
theorem dX9_person_116 : decode cX9_person 116 = .ok (.ireturn, 1) := by decide +kernel
theorem dX9_person_117 : decode cX9_person 117 = .ok (.aload_n 0, 1) := by decide +kernel
theorem dX9_person_118 : decode cX9_person 118 = .ok (.iload_n 1, 1) := by decide +kernel
theorem dX9_person_119 : decode cX9_person 119 = .ok (.invokevirtual 213, 3) := by decide +kernel
theorem dX9_person_122 : decode cX9_person 122 = .ok (.ireturn, 1) := by decide +kernel
theorem dX9_person_123 : decode cX9_person 123 = .ok (.ldc 61, 2) := by decide +kernel
theorem dX9_person_125 : decode cX9_person 125 = .ok (.ireturn, 1) := by decide +kernel
theorem dX9_likes_0 : decode cX9_likes 0 = .ok (.aload_n 0, 1) := by decide +kernel
theorem dX9_likes_1 : decode cX9_likes 1 = .ok (.iload_n 1, 1) := by decide +kernel
theorem dX9_likes_2 : decode cX9_likes 2 = .ok (.invokevirtual 202, 3) := by decide +kernel
theorem dX9_likes_5 : decode cX9_likes 5 = .ok (.ifCond .ne 6, 3) := by decide +kernel
theorem dX9_likes_8 : decode cX9_likes 8 = .ok (.ldc 206, 2) := by decide +kernel
theorem dX9_likes_10 : decode cX9_likes 10 = .ok (.ireturn, 1) := by decide +kernel
theorem dX9_likes_11 : decode cX9_likes 11 = .ok (.iload_n 2, 1) := by decide +kernel
theorem dX9_likes_12 : decode cX9_likes 12 = .ok (.iconst 0, 1) := by decide +kernel
theorem dX9_likes_13 : decode cX9_likes 13 = .ok (.aload_n 0, 1) := by decide +kernel
theorem dX9_likes_14 : decode cX9_likes 14 = .ok (.getfield 7, 3) := by decide +kernel
theorem dX9_likes_17 : decode cX9_likes 17 = .ok (.bipush 48, 2) := by decide +kernel
theorem dX9_likes_19 : decode cX9_likes 19 = .ok (.iload_n 1, 1) := by decide +kernel
theorem dX9_likes_20 : decode cX9_likes 20 = .ok (.iadd, 1) := by decide +kernel
theorem dX9_likes_21 : decode cX9_likes 21 = .ok (.iaload, 1) := by decide +kernel
theorem dX9_likes_22 : decode cX9_likes 22 = .ok (.iconst 1, 1) := by decide +kernel
theorem dX9_likes_23 : decode cX9_likes 23 = .ok (.isub, 1) := by decide +kernel
theorem dX9_likes_24 : decode cX9_likes 24 = .ok (.invokestatic 54, 3) := by decide +kernel
theorem dX9_likes_27 : decode cX9_likes 27 = .ok (.ifCond .eq 17, 3) := by decide +kernel
theorem dX9_likes_30 : decode cX9_likes 30 = .ok (.aload_n 0, 1) := by decide +kernel
theorem dX9_likes_31 : decode cX9_likes 31 = .ok (.getfield 7, 3) := by decide +kernel
theorem dX9_likes_34 : decode cX9_likes 34 = .ok (.bipush 8, 2) := by decide +kernel
theorem dX9_likes_36 : decode cX9_likes 36 = .ok (.iload_n 1, 1) := by decide +kernel
theorem dX9_likes_37 : decode cX9_likes 37 = .ok (.imul, 1) := by decide +kernel
theorem dX9_likes_38 : decode cX9_likes 38 = .ok (.iload_n 2, 1) := by decide +kernel
theorem dX9_likes_39 : decode cX9_likes 39 = .ok (.iadd, 1) := by decide +kernel
theorem dX9_likes_40 : decode cX9_likes 40 = .ok (.iaload, 1) := by decide +kernel
theorem dX9_likes_41 : decode cX9_likes 41 = .ok (.goto 4, 3) := by decide +kernel
theorem dX9_likes_44 : decode cX9_likes 44 = .ok (.iconst (-1), 1) := by decide +kernel
theorem dX9_likes_45 : decode cX9_likes 45 = .ok (.ireturn, 1) := by decide +kernel
theorem dX9_room_0 : decode cX9_room 0 = .ok (.aload_n 0, 1) := by decide +kernel
theorem dX9_room_1 : decode cX9_room 1 = .ok (.iload_n 1, 1) := by decide +kernel
theorem dX9_room_2 : decode cX9_room 2 = .ok (.invokevirtual 216, 3) := by decide +kernel
theorem dX9_room_5 : decode cX9_room 5 = .ok (.ifCond .ne 6, 3) := by decide +kernel
theorem dX9_room_8 : decode cX9_room 8 = .ok (.ldc 206, 2) := by decide +kernel
theorem dX9_room_10 : decode cX9_room 10 = .ok (.ireturn, 1) := by decide +kernel
theorem dX9_room_11 : decode cX9_room 11 = .ok (.iload_n 2, 1) := by decide +kernel
theorem dX9_room_12 : decode cX9_room 12 = .ok (.iconst 0, 1) := by decide +kernel
theorem dX9_room_13 : decode cX9_room 13 = .ok (.iconst 1, 1) := by decide +kernel
theorem dX9_room_14 : decode cX9_room 14 = .ok (.invokestatic 54, 3) := by decide +kernel
theorem dX9_room_17 : decode cX9_room 17 = .ok (.ifCond .ne 6, 3) := by decide +kernel
theorem dX9_room_20 : decode cX9_room 20 = .ok (.ldc 61, 2) := by decide +kernel
theorem dX9_room_22 : decode cX9_room 22 = .ok (.ireturn, 1) := by decide +kernel
theorem dX9_room_23 : decode cX9_room 23 = .ok (.aload_n 0, 1) := by decide +kernel
theorem dX9_room_24 : decode cX9_room 24 = .ok (.iconst 0, 1) := by decide +kernel
theorem dX9_room_25 : decode cX9_room 25 = .ok (.invokevirtual 187, 3) := by decide +kernel
theorem dX9_room_28 : decode cX9_room 28 = .ok (.iload_n 2, 1) := by decide +kernel
theorem dX9_room_29 : decode cX9_room 29 = .ok (.ifCond .ne 16, 3) := by decide +kernel
theorem dX9_room_32 : decode cX9_room 32 = .ok (.aload_n 0, 1) := by decide +kernel
theorem dX9_room_33 : decode cX9_room 33 = .ok (.iconst 0, 1) := by decide +kernel
theorem dX9_room_34 : decode cX9_room 34 = .ok (.aload_n 0, 1) := by decide +kernel
theorem dX9_room_35 : decode cX9_room 35 = .ok (.getfield 51, 3) := by decide +kernel
theorem dX9_room_38 : decode cX9_room 38 = .ok (.iload_n 1, 1) := by decide +kernel
theorem dX9_room_39 : decode cX9_room 39 = .ok (.invokevirtual 104, 3) := by decide +kernel
theorem dX9_room_42 : decode cX9_room 42 = .ok (.goto 8, 3) := by decide +kernel
theorem dX9_room_45 : decode cX9_room 45 = .ok (.aload_n 0, 1) := by decide +kernel
theorem dX9_room_46 : decode cX9_room 46 = .ok (.iload_n 1, 1) := by decide +kernel
theorem dX9_room_47 : decode cX9_room 47 = .ok (.invokevirtual 169, 3) := by decide +kernel
theorem dX9_room_50 : decode cX9_room 50 = .ok (.ireturn, 1) := by decide +kernel
theorem dX9_remember_0 : decode cX9_remember 0 = .ok (.aload_n 0, 1) := by decide +kernel
theorem dX9_remember_1 : decode cX9_remember 1 = .ok (.getfield 119, 3) := by decide +kernel
theorem dX9_remember_4 : decode cX9_remember 4 = .ok (.bipush 20, 2) := by decide +kernel
theorem dX9_remember_6 : decode cX9_remember 6 = .ok (.if_icmp .ne 47, 3) := by decide +kernel
theorem dX9_remember_9 : decode cX9_remember 9 = .ok (.iconst 1, 1) := by decide +kernel
theorem dX9_remember_10 : decode cX9_remember 10 = .ok (.istore_n 1, 1) := by decide +kernel
theorem dX9_remember_11 : decode cX9_remember 11 = .ok (.iload_n 1, 1) := by decide +kernel
theorem dX9_remember_12 : decode cX9_remember 12 = .ok (.bipush 20, 2) := by decide +kernel
theorem dX9_remember_14 : decode cX9_remember 14 = .ok (.if_icmp .ge 29, 3) := by decide +kernel
theorem dX9_remember_17 : decode cX9_remember 17 = .ok (.aload_n 0, 1) := by decide +kernel
theorem dX9_remember_18 : decode cX9_remember 18 = .ok (.bipush 67, 2) := by decide +kernel
theorem dX9_remember_20 : decode cX9_remember 20 = .ok (.bipush 67, 2) := by decide +kernel
theorem dX9_remember_22 : decode cX9_remember 22 = .ok (.iload_n 1, 1) := by decide +kernel
theorem dX9_remember_23 : decode cX9_remember 23 = .ok (.imul, 1) := by decide +kernel
theorem dX9_remember_24 : decode cX9_remember 24 = .ok (.iadd, 1) := by decide +kernel
theorem dX9_remember_25 : decode cX9_remember 25 = .ok (.bipush 67, 2) := by decide +kernel
theorem dX9_remember_27 : decode cX9_remember 27 = .ok (.bipush 67, 2) := by decide +kernel
theorem dX9_remember_29 : decode cX9_remember 29 = .ok (.iload_n 1, 1) := by decide +kernel
theorem dX9_remember_30 : decode cX9_remember 30 = .ok (.iconst 1, 1) := by decide +kernel
theorem dX9_remember_31 : decode cX9_remember 31 = .ok (.isub, 1) := by decide +kernel
theorem dX9_remember_32 : decode cX9_remember 32 = .ok (.imul, 1) := by decide +kernel
theorem dX9_remember_33 : decode cX9_remember 33 = .ok (.iadd, 1) := by decide +kernel
theorem dX9_remember_34 : decode cX9_remember 34 = .ok (.invokevirtual 116, 3) := by decide +kernel
theorem dX9_remember_37 : decode cX9_remember 37 = .ok (.iinc 1 1, 3) := by decide +kernel
theorem dX9_remember_40 : decode cX9_remember 40 = .ok (.goto (-29), 3) := by decide +kernel
theorem dX9_remember_43 : decode cX9_remember 43 = .ok (.aload_n 0, 1) := by decide +kernel
theorem dX9_remember_44 : decode cX9_remember 44 = .ok (.dup, 1) := by decide +kernel
theorem dX9_remember_45 : decode cX9_remember 45 = .ok (.getfield 119, 3) := by decide +kernel
theorem dX9_remember_48 : decode cX9_remember 48 = .ok (.iconst 1, 1) := by decide +kernel
theorem dX9_remember_49 : decode cX9_remember 49 = .ok (.isub, 1) := by decide +kernel
theorem dX9_remember_50 : decode cX9_remember 50 = .ok (.putfield 119, 3) := by decide +kernel
theorem dX9_remember_53 : decode cX9_remember 53 = .ok (.aload_n 0, 1) := by decide +kernel
theorem dX9_remember_54 : decode cX9_remember 54 = .ok (.iconst 0, 1) := by decide +kernel
theorem dX9_remember_55 : decode cX9_remember 55 = .ok (.bipush 67, 2) := by decide +kernel
theorem dX9_remember_57 : decode cX9_remember 57 = .ok (.bipush 67, 2) := by decide +kernel
theorem dX9_remember_59 : decode cX9_remember 59 = .ok (.aload_n 0, 1) := by decide +kernel
theorem dX9_remember_60 : decode cX9_remember 60 = .ok (.getfield 119, 3) := by decide +kernel
theorem dX9_remember_63 : decode cX9_remember 63 = .ok (.imul, 1) := by decide +kernel
theorem dX9_remember_64 : decode cX9_remember 64 = .ok (.iadd, 1) := by decide +kernel
theorem dX9_remember_65 : decode cX9_remember 65 = .ok (.invokevirtual 116, 3) := by decide +kernel
theorem dX9_remember_68 : decode cX9_remember 68 = .ok (.aload_n 0, 1) := by decide +kernel
theorem dX9_remember_69 : decode cX9_remember 69 = .ok (.dup, 1) := by decide +kernel
theorem dX9_remember_70 : decode cX9_remember 70 = .ok (.getfield 119, 3) := by decide +kernel
theorem dX9_remember_73 : decode cX9_remember 73 = .ok (.iconst 1, 1) := by decide +kernel
theorem dX9_remember_74 : decode cX9_remember 74 = .ok (.iadd, 1) := by decide +kernel
theorem dX9_remember_75 : decode cX9_remember 75 = .ok (.putfield 119, 3) := by decide +kernel
theorem dX9_remember_78 : decode cX9_remember 78 = .ok (.return_, 1) := by decide +kernel
theorem dX9_strikeOut_0 : decode cX9_strikeOut 0 = .ok (.aload_n 0, 1) := by decide +kernel
theorem dX9_strikeOut_1 : decode cX9_strikeOut 1 = .ok (.iload_n 1, 1) := by decide +kernel
theorem dX9_strikeOut_2 : decode cX9_strikeOut 2 = .ok (.iload_n 2, 1) := by decide +kernel
theorem dX9_strikeOut_3 : decode cX9_strikeOut 3 = .ok (.iload_n 3, 1) := by decide +kernel
theorem dX9_strikeOut_4 : decode cX9_strikeOut 4 = .ok (.invokevirtual 97, 3) := by decide +kernel
theorem dX9_strikeOut_7 : decode cX9_strikeOut 7 = .ok (.istore 4, 2) := by decide +kernel
theorem dX9_strikeOut_9 : decode cX9_strikeOut 9 = .ok (.iload 4, 2) := by decide +kernel
theorem dX9_strikeOut_11 : decode cX9_strikeOut 11 = .ok (.iconst (-1), 1) := by decide +kernel
theorem dX9_strikeOut_12 : decode cX9_strikeOut 12 = .ok (.if_icmp .eq 76, 3) := by decide +kernel
theorem dX9_strikeOut_15 : decode cX9_strikeOut 15 = .ok (.iload 4, 2) := by decide +kernel
theorem dX9_strikeOut_17 : decode cX9_strikeOut 17 = .ok (.iconst 1, 1) := by decide +kernel
theorem dX9_strikeOut_18 : decode cX9_strikeOut 18 = .ok (.iadd, 1) := by decide +kernel
theorem dX9_strikeOut_19 : decode cX9_strikeOut 19 = .ok (.istore 5, 2) := by decide +kernel
theorem dX9_strikeOut_21 : decode cX9_strikeOut 21 = .ok (.iload 5, 2) := by decide +kernel
theorem dX9_strikeOut_23 : decode cX9_strikeOut 23 = .ok (.aload_n 0, 1) := by decide +kernel
theorem dX9_strikeOut_24 : decode cX9_strikeOut 24 = .ok (.getfield 7, 3) := by decide +kernel
theorem dX9_strikeOut_27 : decode cX9_strikeOut 27 = .ok (.iload_n 1, 1) := by decide +kernel
theorem dX9_strikeOut_28 : decode cX9_strikeOut 28 = .ok (.bipush 48, 2) := by decide +kernel
theorem dX9_strikeOut_30 : decode cX9_strikeOut 30 = .ok (.iadd, 1) := by decide +kernel
theorem dX9_strikeOut_31 : decode cX9_strikeOut 31 = .ok (.iload_n 2, 1) := by decide +kernel
theorem dX9_strikeOut_32 : decode cX9_strikeOut 32 = .ok (.iadd, 1) := by decide +kernel
theorem dX9_strikeOut_33 : decode cX9_strikeOut 33 = .ok (.iaload, 1) := by decide +kernel
theorem dX9_strikeOut_34 : decode cX9_strikeOut 34 = .ok (.if_icmp .ge 39, 3) := by decide +kernel
theorem dX9_strikeOut_37 : decode cX9_strikeOut 37 = .ok (.aload_n 0, 1) := by decide +kernel
theorem dX9_strikeOut_38 : decode cX9_strikeOut 38 = .ok (.getfield 7, 3) := by decide +kernel
theorem dX9_strikeOut_41 : decode cX9_strikeOut 41 = .ok (.iload_n 1, 1) := by decide +kernel
theorem dX9_strikeOut_42 : decode cX9_strikeOut 42 = .ok (.bipush 8, 2) := by decide +kernel
theorem dX9_strikeOut_44 : decode cX9_strikeOut 44 = .ok (.iload_n 2, 1) := by decide +kernel
theorem dX9_strikeOut_45 : decode cX9_strikeOut 45 = .ok (.imul, 1) := by decide +kernel
theorem dX9_strikeOut_46 : decode cX9_strikeOut 46 = .ok (.iadd, 1) := by decide +kernel
theorem dX9_strikeOut_47 : decode cX9_strikeOut 47 = .ok (.iload 5, 2) := by decide +kernel
theorem dX9_strikeOut_49 : decode cX9_strikeOut 49 = .ok (.iadd, 1) := by decide +kernel
theorem dX9_strikeOut_50 : decode cX9_strikeOut 50 = .ok (.iconst 1, 1) := by decide +kernel
theorem dX9_strikeOut_51 : decode cX9_strikeOut 51 = .ok (.isub, 1) := by decide +kernel
theorem dX9_strikeOut_52 : decode cX9_strikeOut 52 = .ok (.aload_n 0, 1) := by decide +kernel
theorem dX9_strikeOut_53 : decode cX9_strikeOut 53 = .ok (.getfield 7, 3) := by decide +kernel
theorem dX9_strikeOut_56 : decode cX9_strikeOut 56 = .ok (.iload_n 1, 1) := by decide +kernel
theorem dX9_strikeOut_57 : decode cX9_strikeOut 57 = .ok (.bipush 8, 2) := by decide +kernel
theorem dX9_strikeOut_59 : decode cX9_strikeOut 59 = .ok (.iload_n 2, 1) := by decide +kernel
theorem dX9_strikeOut_60 : decode cX9_strikeOut 60 = .ok (.imul, 1) := by decide +kernel
theorem dX9_strikeOut_61 : decode cX9_strikeOut 61 = .ok (.iadd, 1) := by decide +kernel
theorem dX9_strikeOut_62 : decode cX9_strikeOut 62 = .ok (.iload 5, 2) := by decide +kernel
theorem dX9_strikeOut_64 : decode cX9_strikeOut 64 = .ok (.iadd, 1) := by decide +kernel
theorem dX9_strikeOut_65 : decode cX9_strikeOut 65 = .ok (.iaload, 1) := by decide +kernel
theorem dX9_strikeOut_66 : decode cX9_strikeOut 66 = .ok (.iastore, 1) := by decide +kernel
theorem dX9_strikeOut_67 : decode cX9_strikeOut 67 = .ok (.iinc 5 1, 3) := by decide +kernel
theorem dX9_strikeOut_70 : decode cX9_strikeOut 70 = .ok (.goto (-49), 3) := by decide +kernel
theorem dX9_strikeOut_73 : decode cX9_strikeOut 73 = .ok (.aload_n 0, 1) := by decide +kernel
theorem dX9_strikeOut_74 : decode cX9_strikeOut 74 = .ok (.getfield 7, 3) := by decide +kernel
theorem dX9_strikeOut_77 : decode cX9_strikeOut 77 = .ok (.iload_n 1, 1) := by decide +kernel
theorem dX9_strikeOut_78 : decode cX9_strikeOut 78 = .ok (.bipush 48, 2) := by decide +kernel
theorem dX9_strikeOut_80 : decode cX9_strikeOut 80 = .ok (.iadd, 1) := by decide +kernel
theorem dX9_strikeOut_81 : decode cX9_strikeOut 81 = .ok (.iload_n 2, 1) := by decide +kernel
theorem dX9_strikeOut_82 : decode cX9_strikeOut 82 = .ok (.iadd, 1) := by decide +kernel
theorem dX9_strikeOut_83 : decode cX9_strikeOut 83 = .ok (.dup2, 1) := by decide +kernel
theorem dX9_strikeOut_84 : decode cX9_strikeOut 84 = .ok (.iaload, 1) := by decide +kernel
theorem dX9_strikeOut_85 : decode cX9_strikeOut 85 = .ok (.iconst 1, 1) := by decide +kernel
theorem dX9_strikeOut_86 : decode cX9_strikeOut 86 = .ok (.isub, 1) := by decide +kernel
theorem dX9_strikeOut_87 : decode cX9_strikeOut 87 = .ok (.iastore, 1) := by decide +kernel
theorem dX9_strikeOut_88 : decode cX9_strikeOut 88 = .ok (.return_, 1) := by decide +kernel
theorem dX9_putIn_0 : decode cX9_putIn 0 = .ok (.aload_n 0, 1) := by decide +kernel
theorem dX9_putIn_1 : decode cX9_putIn 1 = .ok (.iload_n 1, 1) := by decide +kernel
theorem dX9_putIn_2 : decode cX9_putIn 2 = .ok (.iload_n 2, 1) := by decide +kernel
theorem dX9_putIn_3 : decode cX9_putIn 3 = .ok (.iload_n 3, 1) := by decide +kernel
theorem dX9_putIn_4 : decode cX9_putIn 4 = .ok (.invokevirtual 219, 3) := by decide +kernel
theorem dX9_putIn_7 : decode cX9_putIn 7 = .ok (.aload_n 0, 1) := by decide +kernel
theorem dX9_putIn_8 : decode cX9_putIn 8 = .ok (.getfield 7, 3) := by decide +kernel
theorem dX9_putIn_11 : decode cX9_putIn 11 = .ok (.iload_n 1, 1) := by decide +kernel
theorem dX9_putIn_12 : decode cX9_putIn 12 = .ok (.bipush 48, 2) := by decide +kernel
theorem dX9_putIn_14 : decode cX9_putIn 14 = .ok (.iadd, 1) := by decide +kernel
theorem dX9_putIn_15 : decode cX9_putIn 15 = .ok (.iload_n 2, 1) := by decide +kernel
theorem dX9_putIn_16 : decode cX9_putIn 16 = .ok (.iadd, 1) := by decide +kernel
theorem dX9_putIn_17 : decode cX9_putIn 17 = .ok (.iaload, 1) := by decide +kernel
theorem dX9_putIn_18 : decode cX9_putIn 18 = .ok (.istore 5, 2) := by decide +kernel
theorem dX9_putIn_20 : decode cX9_putIn 20 = .ok (.iload 4, 2) := by decide +kernel
theorem dX9_putIn_22 : decode cX9_putIn 22 = .ok (.iload 5, 2) := by decide +kernel
theorem dX9_putIn_24 : decode cX9_putIn 24 = .ok (.if_icmp .ge 8, 3) := by decide +kernel
theorem dX9_putIn_27 : decode cX9_putIn 27 = .ok (.iload 4, 2) := by decide +kernel
theorem dX9_putIn_29 : decode cX9_putIn 29 = .ok (.goto 5, 3) := by decide +kernel
theorem dX9_putIn_32 : decode cX9_putIn 32 = .ok (.iload 5, 2) := by decide +kernel
theorem dX9_putIn_34 : decode cX9_putIn 34 = .ok (.istore 6, 2) := by decide +kernel
theorem dX9_putIn_36 : decode cX9_putIn 36 = .ok (.iload 5, 2) := by decide +kernel
theorem dX9_putIn_38 : decode cX9_putIn 38 = .ok (.istore 7, 2) := by decide +kernel
theorem dX9_putIn_40 : decode cX9_putIn 40 = .ok (.iload 7, 2) := by decide +kernel
theorem dX9_putIn_42 : decode cX9_putIn 42 = .ok (.iload 6, 2) := by decide +kernel
theorem dX9_putIn_44 : decode cX9_putIn 44 = .ok (.if_icmp .le 39, 3) := by decide +kernel
theorem dX9_putIn_47 : decode cX9_putIn 47 = .ok (.aload_n 0, 1) := by decide +kernel
theorem dX9_putIn_48 : decode cX9_putIn 48 = .ok (.getfield 7, 3) := by decide +kernel
theorem dX9_putIn_51 : decode cX9_putIn 51 = .ok (.iload_n 1, 1) := by decide +kernel
theorem dX9_putIn_52 : decode cX9_putIn 52 = .ok (.bipush 8, 2) := by decide +kernel
theorem dX9_putIn_54 : decode cX9_putIn 54 = .ok (.iload_n 2, 1) := by decide +kernel
theorem dX9_putIn_55 : decode cX9_putIn 55 = .ok (.imul, 1) := by decide +kernel
theorem dX9_putIn_56 : decode cX9_putIn 56 = .ok (.iadd, 1) := by decide +kernel
theorem dX9_putIn_57 : decode cX9_putIn 57 = .ok (.iload 7, 2) := by decide +kernel
theorem dX9_putIn_59 : decode cX9_putIn 59 = .ok (.iadd, 1) := by decide +kernel
theorem dX9_putIn_60 : decode cX9_putIn 60 = .ok (.aload_n 0, 1) := by decide +kernel
theorem dX9_putIn_61 : decode cX9_putIn 61 = .ok (.getfield 7, 3) := by decide +kernel
theorem dX9_putIn_64 : decode cX9_putIn 64 = .ok (.iload_n 1, 1) := by decide +kernel
theorem dX9_putIn_65 : decode cX9_putIn 65 = .ok (.bipush 8, 2) := by decide +kernel
theorem dX9_putIn_67 : decode cX9_putIn 67 = .ok (.iload_n 2, 1) := by decide +kernel
theorem dX9_putIn_68 : decode cX9_putIn 68 = .ok (.imul, 1) := by decide +kernel
theorem dX9_putIn_69 : decode cX9_putIn 69 = .ok (.iadd, 1) := by decide +kernel
theorem dX9_putIn_70 : decode cX9_putIn 70 = .ok (.iload 7, 2) := by decide +kernel
theorem dX9_putIn_72 : decode cX9_putIn 72 = .ok (.iadd, 1) := by decide +kernel
theorem dX9_putIn_73 : decode cX9_putIn 73 = .ok (.iconst 1, 1) := by decide +kernel
theorem dX9_putIn_74 : decode cX9_putIn 74 = .ok (.isub, 1) := by decide +kernel
theorem dX9_putIn_75 : decode cX9_putIn 75 = .ok (.iaload, 1) := by decide +kernel
theorem dX9_putIn_76 : decode cX9_putIn 76 = .ok (.iastore, 1) := by decide +kernel
theorem dX9_putIn_77 : decode cX9_putIn 77 = .ok (.iinc 7 (-1), 3) := by decide +kernel
theorem dX9_putIn_80 : decode cX9_putIn 80 = .ok (.goto (-40), 3) := by decide +kernel
theorem dX9_putIn_83 : decode cX9_putIn 83 = .ok (.aload_n 0, 1) := by decide +kernel
theorem dX9_putIn_84 : decode cX9_putIn 84 = .ok (.getfield 7, 3) := by decide +kernel
theorem dX9_putIn_87 : decode cX9_putIn 87 = .ok (.iload_n 1, 1) := by decide +kernel
theorem dX9_putIn_88 : decode cX9_putIn 88 = .ok (.bipush 8, 2) := by decide +kernel
theorem dX9_putIn_90 : decode cX9_putIn 90 = .ok (.iload_n 2, 1) := by decide +kernel
theorem dX9_putIn_91 : decode cX9_putIn 91 = .ok (.imul, 1) := by decide +kernel
theorem dX9_putIn_92 : decode cX9_putIn 92 = .ok (.iadd, 1) := by decide +kernel
theorem dX9_putIn_93 : decode cX9_putIn 93 = .ok (.iload 6, 2) := by decide +kernel
theorem dX9_putIn_95 : decode cX9_putIn 95 = .ok (.iadd, 1) := by decide +kernel
theorem dX9_putIn_96 : decode cX9_putIn 96 = .ok (.iload_n 3, 1) := by decide +kernel
theorem dX9_putIn_97 : decode cX9_putIn 97 = .ok (.iastore, 1) := by decide +kernel
theorem dX9_putIn_98 : decode cX9_putIn 98 = .ok (.aload_n 0, 1) := by decide +kernel
theorem dX9_putIn_99 : decode cX9_putIn 99 = .ok (.getfield 7, 3) := by decide +kernel
theorem dX9_putIn_102 : decode cX9_putIn 102 = .ok (.iload_n 1, 1) := by decide +kernel
theorem dX9_putIn_103 : decode cX9_putIn 103 = .ok (.bipush 48, 2) := by decide +kernel
theorem dX9_putIn_105 : decode cX9_putIn 105 = .ok (.iadd, 1) := by decide +kernel
theorem dX9_putIn_106 : decode cX9_putIn 106 = .ok (.iload_n 2, 1) := by decide +kernel
theorem dX9_putIn_107 : decode cX9_putIn 107 = .ok (.iadd, 1) := by decide +kernel
theorem dX9_putIn_108 : decode cX9_putIn 108 = .ok (.dup2, 1) := by decide +kernel
theorem dX9_putIn_109 : decode cX9_putIn 109 = .ok (.iaload, 1) := by decide +kernel
theorem dX9_putIn_110 : decode cX9_putIn 110 = .ok (.iconst 1, 1) := by decide +kernel
theorem dX9_putIn_111 : decode cX9_putIn 111 = .ok (.iadd, 1) := by decide +kernel
theorem dX9_putIn_112 : decode cX9_putIn 112 = .ok (.iastore, 1) := by decide +kernel
theorem dX9_putIn_113 : decode cX9_putIn 113 = .ok (.return_, 1) := by decide +kernel
theorem dX9_like_0 : decode cX9_like 0 = .ok (.aload_n 0, 1) := by decide +kernel
theorem dX9_like_1 : decode cX9_like 1 = .ok (.iload_n 1, 1) := by decide +kernel
theorem dX9_like_2 : decode cX9_like 2 = .ok (.invokevirtual 202, 3) := by decide +kernel
theorem dX9_like_5 : decode cX9_like 5 = .ok (.ifCond .eq 11, 3) := by decide +kernel
theorem dX9_like_8 : decode cX9_like 8 = .ok (.aload_n 0, 1) := by decide +kernel
theorem dX9_like_9 : decode cX9_like 9 = .ok (.iload_n 2, 1) := by decide +kernel
theorem dX9_like_10 : decode cX9_like 10 = .ok (.invokevirtual 216, 3) := by decide +kernel
theorem dX9_like_13 : decode cX9_like 13 = .ok (.ifCond .ne 6, 3) := by decide +kernel
theorem dX9_like_16 : decode cX9_like 16 = .ok (.ldc 206, 2) := by decide +kernel
theorem dX9_like_18 : decode cX9_like 18 = .ok (.ireturn, 1) := by decide +kernel
theorem dX9_like_19 : decode cX9_like 19 = .ok (.iload_n 3, 1) := by decide +kernel
theorem dX9_like_20 : decode cX9_like 20 = .ok (.iconst 0, 1) := by decide +kernel
theorem dX9_like_21 : decode cX9_like 21 = .ok (.bipush 7, 2) := by decide +kernel
theorem dX9_like_23 : decode cX9_like 23 = .ok (.invokestatic 54, 3) := by decide +kernel
theorem dX9_like_26 : decode cX9_like 26 = .ok (.ifCond .ne 6, 3) := by decide +kernel
theorem dX9_like_29 : decode cX9_like 29 = .ok (.ldc 61, 2) := by decide +kernel
theorem dX9_like_31 : decode cX9_like 31 = .ok (.ireturn, 1) := by decide +kernel
theorem dX9_like_32 : decode cX9_like 32 = .ok (.aload_n 0, 1) := by decide +kernel
theorem dX9_like_33 : decode cX9_like 33 = .ok (.invokevirtual 223, 3) := by decide +kernel
theorem dX9_like_36 : decode cX9_like 36 = .ok (.aload_n 0, 1) := by decide +kernel
theorem dX9_like_37 : decode cX9_like 37 = .ok (.iconst 0, 1) := by decide +kernel
theorem dX9_like_38 : decode cX9_like 38 = .ok (.iload_n 1, 1) := by decide +kernel
theorem dX9_like_39 : decode cX9_like 39 = .ok (.iload_n 2, 1) := by decide +kernel
theorem dX9_like_40 : decode cX9_like 40 = .ok (.iload_n 3, 1) := by decide +kernel
theorem dX9_like_41 : decode cX9_like 41 = .ok (.invokevirtual 226, 3) := by decide +kernel
theorem dX9_like_44 : decode cX9_like 44 = .ok (.aload_n 0, 1) := by decide +kernel
theorem dX9_like_45 : decode cX9_like 45 = .ok (.getfield 7, 3) := by decide +kernel
theorem dX9_like_48 : decode cX9_like 48 = .ok (.bipush 48, 2) := by decide +kernel
theorem dX9_like_50 : decode cX9_like 50 = .ok (.iload_n 1, 1) := by decide +kernel
theorem dX9_like_51 : decode cX9_like 51 = .ok (.iadd, 1) := by decide +kernel
theorem dX9_like_52 : decode cX9_like 52 = .ok (.iaload, 1) := by decide +kernel
theorem dX9_like_53 : decode cX9_like 53 = .ok (.ireturn, 1) := by decide +kernel
theorem dX9_strike_0 : decode cX9_strike 0 = .ok (.aload_n 0, 1) := by decide +kernel
theorem dX9_strike_1 : decode cX9_strike 1 = .ok (.iload_n 1, 1) := by decide +kernel
theorem dX9_strike_2 : decode cX9_strike 2 = .ok (.invokevirtual 202, 3) := by decide +kernel
theorem dX9_strike_5 : decode cX9_strike 5 = .ok (.ifCond .eq 11, 3) := by decide +kernel
theorem dX9_strike_8 : decode cX9_strike 8 = .ok (.aload_n 0, 1) := by decide +kernel
theorem dX9_strike_9 : decode cX9_strike 9 = .ok (.iload_n 2, 1) := by decide +kernel
theorem dX9_strike_10 : decode cX9_strike 10 = .ok (.invokevirtual 216, 3) := by decide +kernel
theorem dX9_strike_13 : decode cX9_strike 13 = .ok (.ifCond .ne 6, 3) := by decide +kernel
theorem dX9_strike_16 : decode cX9_strike 16 = .ok (.ldc 206, 2) := by decide +kernel
theorem dX9_strike_18 : decode cX9_strike 18 = .ok (.ireturn, 1) := by decide +kernel
theorem dX9_strike_19 : decode cX9_strike 19 = .ok (.aload_n 0, 1) := by decide +kernel
theorem dX9_strike_20 : decode cX9_strike 20 = .ok (.iconst 0, 1) := by decide +kernel
theorem dX9_strike_21 : decode cX9_strike 21 = .ok (.iload_n 1, 1) := by decide +kernel
theorem dX9_strike_22 : decode cX9_strike 22 = .ok (.iload_n 2, 1) := by decide +kernel
theorem dX9_strike_23 : decode cX9_strike 23 = .ok (.invokevirtual 97, 3) := by decide +kernel
theorem dX9_strike_26 : decode cX9_strike 26 = .ok (.iconst (-1), 1) := by decide +kernel
theorem dX9_strike_27 : decode cX9_strike 27 = .ok (.if_icmp .ne 6, 3) := by decide +kernel
theorem dX9_strike_30 : decode cX9_strike 30 = .ok (.ldc 230, 2) := by decide +kernel
theorem dX9_strike_32 : decode cX9_strike 32 = .ok (.ireturn, 1) := by decide +kernel
theorem dX9_strike_33 : decode cX9_strike 33 = .ok (.aload_n 0, 1) := by decide +kernel
theorem dX9_strike_34 : decode cX9_strike 34 = .ok (.invokevirtual 223, 3) := by decide +kernel
theorem dX9_strike_37 : decode cX9_strike 37 = .ok (.aload_n 0, 1) := by decide +kernel
theorem dX9_strike_38 : decode cX9_strike 38 = .ok (.iconst 0, 1) := by decide +kernel
theorem dX9_strike_39 : decode cX9_strike 39 = .ok (.iload_n 1, 1) := by decide +kernel
theorem dX9_strike_40 : decode cX9_strike 40 = .ok (.iload_n 2, 1) := by decide +kernel
theorem dX9_strike_41 : decode cX9_strike 41 = .ok (.invokevirtual 219, 3) := by decide +kernel
theorem dX9_strike_44 : decode cX9_strike 44 = .ok (.aload_n 0, 1) := by decide +kernel
theorem dX9_strike_45 : decode cX9_strike 45 = .ok (.getfield 7, 3) := by decide +kernel
theorem dX9_strike_48 : decode cX9_strike 48 = .ok (.bipush 48, 2) := by decide +kernel
theorem dX9_strike_50 : decode cX9_strike 50 = .ok (.iload_n 1, 1) := by decide +kernel
theorem dX9_strike_51 : decode cX9_strike 51 = .ok (.iadd, 1) := by decide +kernel
theorem dX9_strike_52 : decode cX9_strike 52 = .ok (.iaload, 1) := by decide +kernel
theorem dX9_strike_53 : decode cX9_strike 53 = .ok (.ireturn, 1) := by decide +kernel
theorem dX9_setLot_0 : decode cX9_setLot 0 = .ok (.aload_n 0, 1) := by decide +kernel
theorem dX9_setLot_1 : decode cX9_setLot 1 = .ok (.iload_n 1, 1) := by decide +kernel
theorem dX9_setLot_2 : decode cX9_setLot 2 = .ok (.invokevirtual 207, 3) := by decide +kernel
theorem dX9_setLot_5 : decode cX9_setLot 5 = .ok (.istore_n 3, 1) := by decide +kernel
theorem dX9_setLot_6 : decode cX9_setLot 6 = .ok (.iload_n 3, 1) := by decide +kernel
theorem dX9_setLot_7 : decode cX9_setLot 7 = .ok (.iload_n 2, 1) := by decide +kernel
theorem dX9_setLot_8 : decode cX9_setLot 8 = .ok (.if_icmp .ge 29, 3) := by decide +kernel
theorem dX9_setLot_11 : decode cX9_setLot 11 = .ok (.aload_n 0, 1) := by decide +kernel
theorem dX9_setLot_12 : decode cX9_setLot 12 = .ok (.getfield 7, 3) := by decide +kernel
theorem dX9_setLot_15 : decode cX9_setLot 15 = .ok (.bipush 60, 2) := by decide +kernel
theorem dX9_setLot_17 : decode cX9_setLot 17 = .ok (.iload_n 3, 1) := by decide +kernel
theorem dX9_setLot_18 : decode cX9_setLot 18 = .ok (.iadd, 1) := by decide +kernel
theorem dX9_setLot_19 : decode cX9_setLot 19 = .ok (.aload_n 0, 1) := by decide +kernel
theorem dX9_setLot_20 : decode cX9_setLot 20 = .ok (.getfield 7, 3) := by decide +kernel
theorem dX9_setLot_23 : decode cX9_setLot 23 = .ok (.bipush 60, 2) := by decide +kernel
theorem dX9_setLot_25 : decode cX9_setLot 25 = .ok (.iload_n 3, 1) := by decide +kernel
theorem dX9_setLot_26 : decode cX9_setLot 26 = .ok (.iadd, 1) := by decide +kernel
theorem dX9_setLot_27 : decode cX9_setLot 27 = .ok (.iconst 1, 1) := by decide +kernel
theorem dX9_setLot_28 : decode cX9_setLot 28 = .ok (.iadd, 1) := by decide +kernel
theorem dX9_setLot_29 : decode cX9_setLot 29 = .ok (.iaload, 1) := by decide +kernel
theorem dX9_setLot_30 : decode cX9_setLot 30 = .ok (.iastore, 1) := by decide +kernel
theorem dX9_setLot_31 : decode cX9_setLot 31 = .ok (.iinc 3 1, 3) := by decide +kernel
theorem dX9_setLot_34 : decode cX9_setLot 34 = .ok (.goto (-28), 3) := by decide +kernel
theorem dX9_setLot_37 : decode cX9_setLot 37 = .ok (.iload_n 3, 1) := by decide +kernel
theorem dX9_setLot_38 : decode cX9_setLot 38 = .ok (.iload_n 2, 1) := by decide +kernel
theorem dX9_setLot_39 : decode cX9_setLot 39 = .ok (.if_icmp .le 29, 3) := by decide +kernel
theorem dX9_setLot_42 : decode cX9_setLot 42 = .ok (.aload_n 0, 1) := by decide +kernel
theorem dX9_setLot_43 : decode cX9_setLot 43 = .ok (.getfield 7, 3) := by decide +kernel
theorem dX9_setLot_46 : decode cX9_setLot 46 = .ok (.bipush 60, 2) := by decide +kernel
theorem dX9_setLot_48 : decode cX9_setLot 48 = .ok (.iload_n 3, 1) := by decide +kernel
theorem dX9_setLot_49 : decode cX9_setLot 49 = .ok (.iadd, 1) := by decide +kernel
theorem dX9_setLot_50 : decode cX9_setLot 50 = .ok (.aload_n 0, 1) := by decide +kernel
theorem dX9_setLot_51 : decode cX9_setLot 51 = .ok (.getfield 7, 3) := by decide +kernel
theorem dX9_setLot_54 : decode cX9_setLot 54 = .ok (.bipush 60, 2) := by decide +kernel
theorem dX9_setLot_56 : decode cX9_setLot 56 = .ok (.iload_n 3, 1) := by decide +kernel
theorem dX9_setLot_57 : decode cX9_setLot 57 = .ok (.iadd, 1) := by decide +kernel
theorem dX9_setLot_58 : decode cX9_setLot 58 = .ok (.iconst 1, 1) := by decide +kernel
theorem dX9_setLot_59 : decode cX9_setLot 59 = .ok (.isub, 1) := by decide +kernel
theorem dX9_setLot_60 : decode cX9_setLot 60 = .ok (.iaload, 1) := by decide +kernel
theorem dX9_setLot_61 : decode cX9_setLot 61 = .ok (.iastore, 1) := by decide +kernel
theorem dX9_setLot_62 : decode cX9_setLot 62 = .ok (.iinc 3 (-1), 3) := by decide +kernel
theorem dX9_setLot_65 : decode cX9_setLot 65 = .ok (.goto (-28), 3) := by decide +kernel
theorem dX9_setLot_68 : decode cX9_setLot 68 = .ok (.aload_n 0, 1) := by decide +kernel
theorem dX9_setLot_69 : decode cX9_setLot 69 = .ok (.getfield 7, 3) := by decide +kernel
theorem dX9_setLot_72 : decode cX9_setLot 72 = .ok (.bipush 60, 2) := by decide +kernel
theorem dX9_setLot_74 : decode cX9_setLot 74 = .ok (.iload_n 3, 1) := by decide +kernel
theorem dX9_setLot_75 : decode cX9_setLot 75 = .ok (.iadd, 1) := by decide +kernel
theorem dX9_setLot_76 : decode cX9_setLot 76 = .ok (.iload_n 1, 1) := by decide +kernel
theorem dX9_setLot_77 : decode cX9_setLot 77 = .ok (.iastore, 1) := by decide +kernel
theorem dX9_setLot_78 : decode cX9_setLot 78 = .ok (.return_, 1) := by decide +kernel
theorem dX9_lot_0 : decode cX9_lot 0 = .ok (.aload_n 0, 1) := by decide +kernel
theorem dX9_lot_1 : decode cX9_lot 1 = .ok (.iload_n 1, 1) := by decide +kernel
theorem dX9_lot_2 : decode cX9_lot 2 = .ok (.invokevirtual 202, 3) := by decide +kernel
theorem dX9_lot_5 : decode cX9_lot 5 = .ok (.ifCond .ne 6, 3) := by decide +kernel
theorem dX9_lot_8 : decode cX9_lot 8 = .ok (.ldc 206, 2) := by decide +kernel
theorem dX9_lot_10 : decode cX9_lot 10 = .ok (.ireturn, 1) := by decide +kernel
theorem dX9_lot_11 : decode cX9_lot 11 = .ok (.iload_n 2, 1) := by decide +kernel
theorem dX9_lot_12 : decode cX9_lot 12 = .ok (.iconst 0, 1) := by decide +kernel
theorem dX9_lot_13 : decode cX9_lot 13 = .ok (.aload_n 0, 1) := by decide +kernel
theorem dX9_lot_14 : decode cX9_lot 14 = .ok (.getfield 51, 3) := by decide +kernel
theorem dX9_lot_17 : decode cX9_lot 17 = .ok (.iconst 1, 1) := by decide +kernel
theorem dX9_lot_18 : decode cX9_lot 18 = .ok (.isub, 1) := by decide +kernel
theorem dX9_lot_19 : decode cX9_lot 19 = .ok (.invokestatic 54, 3) := by decide +kernel
theorem dX9_lot_22 : decode cX9_lot 22 = .ok (.ifCond .ne 6, 3) := by decide +kernel
theorem dX9_lot_25 : decode cX9_lot 25 = .ok (.ldc 61, 2) := by decide +kernel
theorem dX9_lot_27 : decode cX9_lot 27 = .ok (.ireturn, 1) := by decide +kernel
theorem dX9_lot_28 : decode cX9_lot 28 = .ok (.aload_n 0, 1) := by decide +kernel
theorem dX9_lot_29 : decode cX9_lot 29 = .ok (.invokevirtual 223, 3) := by decide +kernel
theorem dX9_lot_32 : decode cX9_lot 32 = .ok (.aload_n 0, 1) := by decide +kernel
theorem dX9_lot_33 : decode cX9_lot 33 = .ok (.iload_n 1, 1) := by decide +kernel
theorem dX9_lot_34 : decode cX9_lot 34 = .ok (.invokevirtual 207, 3) := by decide +kernel
theorem dX9_lot_37 : decode cX9_lot 37 = .ok (.istore_n 3, 1) := by decide +kernel
theorem dX9_lot_38 : decode cX9_lot 38 = .ok (.aload_n 0, 1) := by decide +kernel
theorem dX9_lot_39 : decode cX9_lot 39 = .ok (.iload_n 1, 1) := by decide +kernel
theorem dX9_lot_40 : decode cX9_lot 40 = .ok (.iload_n 2, 1) := by decide +kernel
theorem dX9_lot_41 : decode cX9_lot 41 = .ok (.invokevirtual 231, 3) := by decide +kernel
theorem dX9_lot_44 : decode cX9_lot 44 = .ok (.iload_n 3, 1) := by decide +kernel
theorem dX9_lot_45 : decode cX9_lot 45 = .ok (.ireturn, 1) := by decide +kernel
theorem dX9_refuse_0 : decode cX9_refuse 0 = .ok (.aload_n 0, 1) := by decide +kernel
theorem dX9_refuse_1 : decode cX9_refuse 1 = .ok (.iload_n 1, 1) := by decide +kernel
theorem dX9_refuse_2 : decode cX9_refuse 2 = .ok (.invokevirtual 202, 3) := by decide +kernel
theorem dX9_refuse_5 : decode cX9_refuse 5 = .ok (.ifCond .ne 6, 3) := by decide +kernel
theorem dX9_refuse_8 : decode cX9_refuse 8 = .ok (.ldc 206, 2) := by decide +kernel
theorem dX9_refuse_10 : decode cX9_refuse 10 = .ok (.ireturn, 1) := by decide +kernel
theorem dX9_refuse_11 : decode cX9_refuse 11 = .ok (.aload_n 0, 1) := by decide +kernel
theorem dX9_refuse_12 : decode cX9_refuse 12 = .ok (.iconst 0, 1) := by decide +kernel
theorem dX9_refuse_13 : decode cX9_refuse 13 = .ok (.invokevirtual 187, 3) := by decide +kernel
theorem dX9_refuse_16 : decode cX9_refuse 16 = .ok (.aload_n 0, 1) := by decide +kernel
theorem dX9_refuse_17 : decode cX9_refuse 17 = .ok (.getfield 20, 3) := by decide +kernel
theorem dX9_refuse_20 : decode cX9_refuse 20 = .ok (.iload_n 1, 1) := by decide +kernel
theorem dX9_refuse_21 : decode cX9_refuse 21 = .ok (.iaload, 1) := by decide +kernel
theorem dX9_refuse_22 : decode cX9_refuse 22 = .ok (.iconst (-1), 1) := by decide +kernel
theorem dX9_refuse_23 : decode cX9_refuse 23 = .ok (.if_icmp .eq 21, 3) := by decide +kernel
end
section
theorem dX9_refuse_26 : decode cX9_refuse 26 = .ok (.aload_n 0, 1) := by decide +kernel
theorem dX9_refuse_27 : decode cX9_refuse 27 = .ok (.getfield 20, 3) := by decide +kernel
theorem dX9_refuse_30 : decode cX9_refuse 30 = .ok (.iload_n 1, 1) := by decide +kernel
theorem dX9_refuse_31 : decode cX9_refuse 31 = .ok (.iaload, 1) := by decide +kernel
theorem dX9_refuse_32 : decode cX9_refuse 32 = .ok (.aload_n 0, 1) := by decide +kernel
theorem dX9_refuse_33 : decode cX9_refuse 33 = .ok (.getfield 7, 3) := by decide +kernel
theorem dX9_refuse_36 : decode cX9_refuse 36 = .ok (.bipush 54, 2) := by decide +kernel
theorem dX9_refuse_38 : decode cX9_refuse 38 = .ok (.iload_n 1, 1) := by decide +kernel
theorem dX9_refuse_39 : decode cX9_refuse 39 = .ok (.iadd, 1) := by decide +kernel
theorem dX9_refuse_40 : decode cX9_refuse 40 = .ok (.iaload, 1) := by decide +kernel
theorem dX9_refuse_41 : decode cX9_refuse 41 = .ok (.if_icmp .ne 6, 3) := by decide +kernel
theorem dX9_refuse_44 : decode cX9_refuse 44 = .ok (.ldc 230, 2) := by decide +kernel
theorem dX9_refuse_46 : decode cX9_refuse 46 = .ok (.ireturn, 1) := by decide +kernel
theorem dX9_refuse_47 : decode cX9_refuse 47 = .ok (.aload_n 0, 1) := by decide +kernel
theorem dX9_refuse_48 : decode cX9_refuse 48 = .ok (.invokevirtual 223, 3) := by decide +kernel
theorem dX9_refuse_51 : decode cX9_refuse 51 = .ok (.aload_n 0, 1) := by decide +kernel
theorem dX9_refuse_52 : decode cX9_refuse 52 = .ok (.iconst 0, 1) := by decide +kernel
theorem dX9_refuse_53 : decode cX9_refuse 53 = .ok (.iload_n 1, 1) := by decide +kernel
theorem dX9_refuse_54 : decode cX9_refuse 54 = .ok (.aload_n 0, 1) := by decide +kernel
theorem dX9_refuse_55 : decode cX9_refuse 55 = .ok (.getfield 20, 3) := by decide +kernel
theorem dX9_refuse_58 : decode cX9_refuse 58 = .ok (.iload_n 1, 1) := by decide +kernel
theorem dX9_refuse_59 : decode cX9_refuse 59 = .ok (.iaload, 1) := by decide +kernel
theorem dX9_refuse_60 : decode cX9_refuse 60 = .ok (.invokevirtual 219, 3) := by decide +kernel
theorem dX9_refuse_63 : decode cX9_refuse 63 = .ok (.aload_n 0, 1) := by decide +kernel
theorem dX9_refuse_64 : decode cX9_refuse 64 = .ok (.iconst 0, 1) := by decide +kernel
theorem dX9_refuse_65 : decode cX9_refuse 65 = .ok (.invokevirtual 187, 3) := by decide +kernel
theorem dX9_refuse_68 : decode cX9_refuse 68 = .ok (.aload_n 0, 1) := by decide +kernel
theorem dX9_refuse_69 : decode cX9_refuse 69 = .ok (.getfield 20, 3) := by decide +kernel
theorem dX9_refuse_72 : decode cX9_refuse 72 = .ok (.iload_n 1, 1) := by decide +kernel
theorem dX9_refuse_73 : decode cX9_refuse 73 = .ok (.iaload, 1) := by decide +kernel
theorem dX9_refuse_74 : decode cX9_refuse 74 = .ok (.ireturn, 1) := by decide +kernel
theorem dX9_moveAll_0 : decode cX9_moveAll 0 = .ok (.aload_n 0, 1) := by decide +kernel
theorem dX9_moveAll_1 : decode cX9_moveAll 1 = .ok (.iconst 0, 1) := by decide +kernel
theorem dX9_moveAll_2 : decode cX9_moveAll 2 = .ok (.invokevirtual 187, 3) := by decide +kernel
theorem dX9_moveAll_5 : decode cX9_moveAll 5 = .ok (.iconst 0, 1) := by decide +kernel
theorem dX9_moveAll_6 : decode cX9_moveAll 6 = .ok (.istore_n 1, 1) := by decide +kernel
theorem dX9_moveAll_7 : decode cX9_moveAll 7 = .ok (.iconst 0, 1) := by decide +kernel
theorem dX9_moveAll_8 : decode cX9_moveAll 8 = .ok (.istore_n 2, 1) := by decide +kernel
theorem dX9_moveAll_9 : decode cX9_moveAll 9 = .ok (.iload_n 2, 1) := by decide +kernel
theorem dX9_moveAll_10 : decode cX9_moveAll 10 = .ok (.aload_n 0, 1) := by decide +kernel
theorem dX9_moveAll_11 : decode cX9_moveAll 11 = .ok (.getfield 51, 3) := by decide +kernel
theorem dX9_moveAll_14 : decode cX9_moveAll 14 = .ok (.if_icmp .ge 50, 3) := by decide +kernel
theorem dX9_moveAll_17 : decode cX9_moveAll 17 = .ok (.iload_n 1, 1) := by decide +kernel
theorem dX9_moveAll_18 : decode cX9_moveAll 18 = .ok (.aload_n 0, 1) := by decide +kernel
theorem dX9_moveAll_19 : decode cX9_moveAll 19 = .ok (.getfield 20, 3) := by decide +kernel
theorem dX9_moveAll_22 : decode cX9_moveAll 22 = .ok (.iload_n 2, 1) := by decide +kernel
theorem dX9_moveAll_23 : decode cX9_moveAll 23 = .ok (.iaload, 1) := by decide +kernel
theorem dX9_moveAll_24 : decode cX9_moveAll 24 = .ok (.aload_n 0, 1) := by decide +kernel
theorem dX9_moveAll_25 : decode cX9_moveAll 25 = .ok (.getfield 7, 3) := by decide +kernel
theorem dX9_moveAll_28 : decode cX9_moveAll 28 = .ok (.bipush 54, 2) := by decide +kernel
theorem dX9_moveAll_30 : decode cX9_moveAll 30 = .ok (.iload_n 2, 1) := by decide +kernel
theorem dX9_moveAll_31 : decode cX9_moveAll 31 = .ok (.iadd, 1) := by decide +kernel
theorem dX9_moveAll_32 : decode cX9_moveAll 32 = .ok (.iaload, 1) := by decide +kernel
theorem dX9_moveAll_33 : decode cX9_moveAll 33 = .ok (.if_icmp .ne 7, 3) := by decide +kernel
theorem dX9_moveAll_36 : decode cX9_moveAll 36 = .ok (.iconst 0, 1) := by decide +kernel
theorem dX9_moveAll_37 : decode cX9_moveAll 37 = .ok (.goto 4, 3) := by decide +kernel
theorem dX9_moveAll_40 : decode cX9_moveAll 40 = .ok (.iconst 1, 1) := by decide +kernel
theorem dX9_moveAll_41 : decode cX9_moveAll 41 = .ok (.iadd, 1) := by decide +kernel
theorem dX9_moveAll_42 : decode cX9_moveAll 42 = .ok (.istore_n 1, 1) := by decide +kernel
theorem dX9_moveAll_43 : decode cX9_moveAll 43 = .ok (.aload_n 0, 1) := by decide +kernel
theorem dX9_moveAll_44 : decode cX9_moveAll 44 = .ok (.getfield 7, 3) := by decide +kernel
theorem dX9_moveAll_47 : decode cX9_moveAll 47 = .ok (.bipush 54, 2) := by decide +kernel
theorem dX9_moveAll_49 : decode cX9_moveAll 49 = .ok (.iload_n 2, 1) := by decide +kernel
theorem dX9_moveAll_50 : decode cX9_moveAll 50 = .ok (.iadd, 1) := by decide +kernel
theorem dX9_moveAll_51 : decode cX9_moveAll 51 = .ok (.aload_n 0, 1) := by decide +kernel
theorem dX9_moveAll_52 : decode cX9_moveAll 52 = .ok (.getfield 20, 3) := by decide +kernel
theorem dX9_moveAll_55 : decode cX9_moveAll 55 = .ok (.iload_n 2, 1) := by decide +kernel
theorem dX9_moveAll_56 : decode cX9_moveAll 56 = .ok (.iaload, 1) := by decide +kernel
theorem dX9_moveAll_57 : decode cX9_moveAll 57 = .ok (.iastore, 1) := by decide +kernel
theorem dX9_moveAll_58 : decode cX9_moveAll 58 = .ok (.iinc 2 1, 3) := by decide +kernel
theorem dX9_moveAll_61 : decode cX9_moveAll 61 = .ok (.goto (-52), 3) := by decide +kernel
theorem dX9_moveAll_64 : decode cX9_moveAll 64 = .ok (.iload_n 1, 1) := by decide +kernel
theorem dX9_moveAll_65 : decode cX9_moveAll 65 = .ok (.ireturn, 1) := by decide +kernel
theorem dX9_moved_0 : decode cX9_moved 0 = .ok (.aload_n 0, 1) := by decide +kernel
theorem dX9_moved_1 : decode cX9_moved 1 = .ok (.getfield 51, 3) := by decide +kernel
theorem dX9_moved_4 : decode cX9_moved 4 = .ok (.ifCond .ne 6, 3) := by decide +kernel
theorem dX9_moved_7 : decode cX9_moved 7 = .ok (.ldc 230, 2) := by decide +kernel
theorem dX9_moved_9 : decode cX9_moved 9 = .ok (.ireturn, 1) := by decide +kernel
theorem dX9_moved_10 : decode cX9_moved 10 = .ok (.aload_n 0, 1) := by decide +kernel
theorem dX9_moved_11 : decode cX9_moved 11 = .ok (.invokevirtual 223, 3) := by decide +kernel
theorem dX9_moved_14 : decode cX9_moved 14 = .ok (.aload_n 0, 1) := by decide +kernel
theorem dX9_moved_15 : decode cX9_moved 15 = .ok (.invokevirtual 234, 3) := by decide +kernel
theorem dX9_moved_18 : decode cX9_moved 18 = .ok (.ireturn, 1) := by decide +kernel
theorem dX9_leave_0 : decode cX9_leave 0 = .ok (.aload_n 0, 1) := by decide +kernel
theorem dX9_leave_1 : decode cX9_leave 1 = .ok (.iload_n 1, 1) := by decide +kernel
theorem dX9_leave_2 : decode cX9_leave 2 = .ok (.invokevirtual 202, 3) := by decide +kernel
theorem dX9_leave_5 : decode cX9_leave 5 = .ok (.ifCond .ne 6, 3) := by decide +kernel
theorem dX9_leave_8 : decode cX9_leave 8 = .ok (.ldc 206, 2) := by decide +kernel
theorem dX9_leave_10 : decode cX9_leave 10 = .ok (.ireturn, 1) := by decide +kernel
theorem dX9_leave_11 : decode cX9_leave 11 = .ok (.aload_n 0, 1) := by decide +kernel
theorem dX9_leave_12 : decode cX9_leave 12 = .ok (.getfield 7, 3) := by decide +kernel
theorem dX9_leave_15 : decode cX9_leave 15 = .ok (.bipush 54, 2) := by decide +kernel
theorem dX9_leave_17 : decode cX9_leave 17 = .ok (.iload_n 1, 1) := by decide +kernel
theorem dX9_leave_18 : decode cX9_leave 18 = .ok (.iadd, 1) := by decide +kernel
theorem dX9_leave_19 : decode cX9_leave 19 = .ok (.iaload, 1) := by decide +kernel
theorem dX9_leave_20 : decode cX9_leave 20 = .ok (.istore_n 2, 1) := by decide +kernel
theorem dX9_leave_21 : decode cX9_leave 21 = .ok (.iload_n 2, 1) := by decide +kernel
theorem dX9_leave_22 : decode cX9_leave 22 = .ok (.iconst (-1), 1) := by decide +kernel
theorem dX9_leave_23 : decode cX9_leave 23 = .ok (.if_icmp .ne 6, 3) := by decide +kernel
theorem dX9_leave_26 : decode cX9_leave 26 = .ok (.ldc 230, 2) := by decide +kernel
theorem dX9_leave_28 : decode cX9_leave 28 = .ok (.ireturn, 1) := by decide +kernel
theorem dX9_leave_29 : decode cX9_leave 29 = .ok (.aload_n 0, 1) := by decide +kernel
theorem dX9_leave_30 : decode cX9_leave 30 = .ok (.invokevirtual 223, 3) := by decide +kernel
theorem dX9_leave_33 : decode cX9_leave 33 = .ok (.aload_n 0, 1) := by decide +kernel
theorem dX9_leave_34 : decode cX9_leave 34 = .ok (.getfield 7, 3) := by decide +kernel
theorem dX9_leave_37 : decode cX9_leave 37 = .ok (.bipush 54, 2) := by decide +kernel
theorem dX9_leave_39 : decode cX9_leave 39 = .ok (.iload_n 1, 1) := by decide +kernel
theorem dX9_leave_40 : decode cX9_leave 40 = .ok (.iadd, 1) := by decide +kernel
theorem dX9_leave_41 : decode cX9_leave 41 = .ok (.iconst (-1), 1) := by decide +kernel
theorem dX9_leave_42 : decode cX9_leave 42 = .ok (.iastore, 1) := by decide +kernel
theorem dX9_leave_43 : decode cX9_leave 43 = .ok (.iload_n 2, 1) := by decide +kernel
theorem dX9_leave_44 : decode cX9_leave 44 = .ok (.ireturn, 1) := by decide +kernel
theorem dX9_draw_0 : decode cX9_draw 0 = .ok (.aload_n 0, 1) := by decide +kernel
theorem dX9_draw_1 : decode cX9_draw 1 = .ok (.getfield 7, 3) := by decide +kernel
theorem dX9_draw_4 : decode cX9_draw 4 = .ok (.bipush 66, 2) := by decide +kernel
theorem dX9_draw_6 : decode cX9_draw 6 = .ok (.iaload, 1) := by decide +kernel
theorem dX9_draw_7 : decode cX9_draw 7 = .ok (.i2l, 1) := by decide +kernel
theorem dX9_draw_8 : decode cX9_draw 8 = .ok (.ldc2_w 237, 3) := by decide +kernel
theorem dX9_draw_11 : decode cX9_draw 11 = .ok (.lmul, 1) := by decide +kernel
theorem dX9_draw_12 : decode cX9_draw 12 = .ok (.ldc2_w 239, 3) := by decide +kernel
theorem dX9_draw_15 : decode cX9_draw 15 = .ok (.ladd, 1) := by decide +kernel
theorem dX9_draw_16 : decode cX9_draw 16 = .ok (.ldc2_w 241, 3) := by decide +kernel
theorem dX9_draw_19 : decode cX9_draw 19 = .ok (.lrem, 1) := by decide +kernel
theorem dX9_draw_20 : decode cX9_draw 20 = .ok (.lstore_n 2, 1) := by decide +kernel
theorem dX9_draw_21 : decode cX9_draw 21 = .ok (.aload_n 0, 1) := by decide +kernel
theorem dX9_draw_22 : decode cX9_draw 22 = .ok (.getfield 7, 3) := by decide +kernel
theorem dX9_draw_25 : decode cX9_draw 25 = .ok (.bipush 66, 2) := by decide +kernel
theorem dX9_draw_27 : decode cX9_draw 27 = .ok (.lload_n 2, 1) := by decide +kernel
theorem dX9_draw_28 : decode cX9_draw 28 = .ok (.l2i, 1) := by decide +kernel
theorem dX9_draw_29 : decode cX9_draw 29 = .ok (.iastore, 1) := by decide +kernel
theorem dX9_draw_30 : decode cX9_draw 30 = .ok (.aload_n 0, 1) := by decide +kernel
theorem dX9_draw_31 : decode cX9_draw 31 = .ok (.getfield 7, 3) := by decide +kernel
theorem dX9_draw_34 : decode cX9_draw 34 = .ok (.bipush 66, 2) := by decide +kernel
theorem dX9_draw_36 : decode cX9_draw 36 = .ok (.iaload, 1) := by decide +kernel
theorem dX9_draw_37 : decode cX9_draw 37 = .ok (.ldc 243, 2) := by decide +kernel
theorem dX9_draw_39 : decode cX9_draw 39 = .ok (.idiv, 1) := by decide +kernel
theorem dX9_draw_40 : decode cX9_draw 40 = .ok (.iload_n 1, 1) := by decide +kernel
theorem dX9_draw_41 : decode cX9_draw 41 = .ok (.irem, 1) := by decide +kernel
theorem dX9_draw_42 : decode cX9_draw 42 = .ok (.ireturn, 1) := by decide +kernel
theorem dX9_time_0 : decode cX9_time 0 = .ok (.aload_n 0, 1) := by decide +kernel
theorem dX9_time_1 : decode cX9_time 1 = .ok (.iconst 4, 1) := by decide +kernel
theorem dX9_time_2 : decode cX9_time 2 = .ok (.invokevirtual 244, 3) := by decide +kernel
theorem dX9_time_5 : decode cX9_time 5 = .ok (.istore_n 1, 1) := by decide +kernel
theorem dX9_time_6 : decode cX9_time 6 = .ok (.aload_n 0, 1) := by decide +kernel
theorem dX9_time_7 : decode cX9_time 7 = .ok (.aload_n 0, 1) := by decide +kernel
theorem dX9_time_8 : decode cX9_time 8 = .ok (.getfield 51, 3) := by decide +kernel
theorem dX9_time_11 : decode cX9_time 11 = .ok (.invokevirtual 244, 3) := by decide +kernel
theorem dX9_time_14 : decode cX9_time 14 = .ok (.istore_n 2, 1) := by decide +kernel
theorem dX9_time_15 : decode cX9_time 15 = .ok (.iload_n 1, 1) := by decide +kernel
theorem dX9_time_16 : decode cX9_time 16 = .ok (.ifCond .ne 28, 3) := by decide +kernel
theorem dX9_time_19 : decode cX9_time 19 = .ok (.aload_n 0, 1) := by decide +kernel
theorem dX9_time_20 : decode cX9_time 20 = .ok (.aload_n 0, 1) := by decide +kernel
theorem dX9_time_21 : decode cX9_time 21 = .ok (.getfield 58, 3) := by decide +kernel
theorem dX9_time_24 : decode cX9_time 24 = .ok (.invokevirtual 244, 3) := by decide +kernel
theorem dX9_time_27 : decode cX9_time 27 = .ok (.istore_n 3, 1) := by decide +kernel
theorem dX9_time_28 : decode cX9_time 28 = .ok (.aload_n 0, 1) := by decide +kernel
theorem dX9_time_29 : decode cX9_time 29 = .ok (.iconst 0, 1) := by decide +kernel
theorem dX9_time_30 : decode cX9_time 30 = .ok (.iload_n 2, 1) := by decide +kernel
theorem dX9_time_31 : decode cX9_time 31 = .ok (.iload_n 3, 1) := by decide +kernel
theorem dX9_time_32 : decode cX9_time 32 = .ok (.aload_n 0, 1) := by decide +kernel
theorem dX9_time_33 : decode cX9_time 33 = .ok (.bipush 8, 2) := by decide +kernel
theorem dX9_time_35 : decode cX9_time 35 = .ok (.invokevirtual 244, 3) := by decide +kernel
theorem dX9_time_38 : decode cX9_time 38 = .ok (.invokevirtual 226, 3) := by decide +kernel
theorem dX9_time_41 : decode cX9_time 41 = .ok (.goto 51, 3) := by decide +kernel
theorem dX9_time_44 : decode cX9_time 44 = .ok (.iload_n 1, 1) := by decide +kernel
theorem dX9_time_45 : decode cX9_time 45 = .ok (.iconst 1, 1) := by decide +kernel
theorem dX9_time_46 : decode cX9_time 46 = .ok (.if_icmp .ne 20, 3) := by decide +kernel
theorem dX9_time_49 : decode cX9_time 49 = .ok (.aload_n 0, 1) := by decide +kernel
theorem dX9_time_50 : decode cX9_time 50 = .ok (.iconst 0, 1) := by decide +kernel
theorem dX9_time_51 : decode cX9_time 51 = .ok (.iload_n 2, 1) := by decide +kernel
theorem dX9_time_52 : decode cX9_time 52 = .ok (.aload_n 0, 1) := by decide +kernel
theorem dX9_time_53 : decode cX9_time 53 = .ok (.aload_n 0, 1) := by decide +kernel
theorem dX9_time_54 : decode cX9_time 54 = .ok (.getfield 58, 3) := by decide +kernel
theorem dX9_time_57 : decode cX9_time 57 = .ok (.invokevirtual 244, 3) := by decide +kernel
theorem dX9_time_60 : decode cX9_time 60 = .ok (.invokevirtual 219, 3) := by decide +kernel
theorem dX9_time_63 : decode cX9_time 63 = .ok (.goto 29, 3) := by decide +kernel
theorem dX9_time_66 : decode cX9_time 66 = .ok (.iload_n 1, 1) := by decide +kernel
theorem dX9_time_67 : decode cX9_time 67 = .ok (.iconst 2, 1) := by decide +kernel
theorem dX9_time_68 : decode cX9_time 68 = .ok (.if_icmp .ne 19, 3) := by decide +kernel
theorem dX9_time_71 : decode cX9_time 71 = .ok (.aload_n 0, 1) := by decide +kernel
theorem dX9_time_72 : decode cX9_time 72 = .ok (.iload_n 2, 1) := by decide +kernel
theorem dX9_time_73 : decode cX9_time 73 = .ok (.aload_n 0, 1) := by decide +kernel
theorem dX9_time_74 : decode cX9_time 74 = .ok (.aload_n 0, 1) := by decide +kernel
theorem dX9_time_75 : decode cX9_time 75 = .ok (.getfield 51, 3) := by decide +kernel
theorem dX9_time_78 : decode cX9_time 78 = .ok (.invokevirtual 244, 3) := by decide +kernel
theorem dX9_time_81 : decode cX9_time 81 = .ok (.invokevirtual 231, 3) := by decide +kernel
theorem dX9_time_84 : decode cX9_time 84 = .ok (.goto 8, 3) := by decide +kernel
theorem dX9_time_87 : decode cX9_time 87 = .ok (.aload_n 0, 1) := by decide +kernel
theorem dX9_time_88 : decode cX9_time 88 = .ok (.invokevirtual 234, 3) := by decide +kernel
theorem dX9_time_91 : decode cX9_time 91 = .ok (.istore_n 3, 1) := by decide +kernel
theorem dX9_time_92 : decode cX9_time 92 = .ok (.return_, 1) := by decide +kernel
theorem dX9_drift_0 : decode cX9_drift 0 = .ok (.iload_n 1, 1) := by decide +kernel
theorem dX9_drift_1 : decode cX9_drift 1 = .ok (.iconst 1, 1) := by decide +kernel
theorem dX9_drift_2 : decode cX9_drift 2 = .ok (.bipush 20, 2) := by decide +kernel
theorem dX9_drift_4 : decode cX9_drift 4 = .ok (.invokestatic 54, 3) := by decide +kernel
theorem dX9_drift_7 : decode cX9_drift 7 = .ok (.ifCond .ne 6, 3) := by decide +kernel
theorem dX9_drift_10 : decode cX9_drift 10 = .ok (.ldc 61, 2) := by decide +kernel
theorem dX9_drift_12 : decode cX9_drift 12 = .ok (.ireturn, 1) := by decide +kernel
theorem dX9_drift_13 : decode cX9_drift 13 = .ok (.aload_n 0, 1) := by decide +kernel
theorem dX9_drift_14 : decode cX9_drift 14 = .ok (.getfield 58, 3) := by decide +kernel
theorem dX9_drift_17 : decode cX9_drift 17 = .ok (.ifCond .ne 6, 3) := by decide +kernel
theorem dX9_drift_20 : decode cX9_drift 20 = .ok (.ldc 230, 2) := by decide +kernel
theorem dX9_drift_22 : decode cX9_drift 22 = .ok (.ireturn, 1) := by decide +kernel
theorem dX9_drift_23 : decode cX9_drift 23 = .ok (.iconst 0, 1) := by decide +kernel
theorem dX9_drift_24 : decode cX9_drift 24 = .ok (.istore_n 2, 1) := by decide +kernel
theorem dX9_drift_25 : decode cX9_drift 25 = .ok (.iload_n 2, 1) := by decide +kernel
theorem dX9_drift_26 : decode cX9_drift 26 = .ok (.iload_n 1, 1) := by decide +kernel
theorem dX9_drift_27 : decode cX9_drift 27 = .ok (.if_icmp .ge 24, 3) := by decide +kernel
theorem dX9_drift_30 : decode cX9_drift 30 = .ok (.aload_n 0, 1) := by decide +kernel
theorem dX9_drift_31 : decode cX9_drift 31 = .ok (.getfield 51, 3) := by decide +kernel
theorem dX9_drift_34 : decode cX9_drift 34 = .ok (.ifCond .le 17, 3) := by decide +kernel
theorem dX9_drift_37 : decode cX9_drift 37 = .ok (.aload_n 0, 1) := by decide +kernel
theorem dX9_drift_38 : decode cX9_drift 38 = .ok (.invokevirtual 223, 3) := by decide +kernel
theorem dX9_drift_41 : decode cX9_drift 41 = .ok (.aload_n 0, 1) := by decide +kernel
theorem dX9_drift_42 : decode cX9_drift 42 = .ok (.invokevirtual 247, 3) := by decide +kernel
theorem dX9_drift_45 : decode cX9_drift 45 = .ok (.iinc 2 1, 3) := by decide +kernel
theorem dX9_drift_48 : decode cX9_drift 48 = .ok (.goto (-23), 3) := by decide +kernel
theorem dX9_drift_51 : decode cX9_drift 51 = .ok (.aload_n 0, 1) := by decide +kernel
theorem dX9_drift_52 : decode cX9_drift 52 = .ok (.iconst 0, 1) := by decide +kernel
theorem dX9_drift_53 : decode cX9_drift 53 = .ok (.invokevirtual 193, 3) := by decide +kernel
theorem dX9_drift_56 : decode cX9_drift 56 = .ok (.invokestatic 172, 3) := by decide +kernel
theorem dX9_drift_59 : decode cX9_drift 59 = .ok (.ireturn, 1) := by decide +kernel
theorem dX9_undo_0 : decode cX9_undo 0 = .ok (.iload_n 1, 1) := by decide +kernel
theorem dX9_undo_1 : decode cX9_undo 1 = .ok (.iconst 1, 1) := by decide +kernel
theorem dX9_undo_2 : decode cX9_undo 2 = .ok (.bipush 20, 2) := by decide +kernel
theorem dX9_undo_4 : decode cX9_undo 4 = .ok (.invokestatic 54, 3) := by decide +kernel
theorem dX9_undo_7 : decode cX9_undo 7 = .ok (.ifCond .ne 6, 3) := by decide +kernel
theorem dX9_undo_10 : decode cX9_undo 10 = .ok (.ldc 61, 2) := by decide +kernel
theorem dX9_undo_12 : decode cX9_undo 12 = .ok (.ireturn, 1) := by decide +kernel
theorem dX9_undo_13 : decode cX9_undo 13 = .ok (.iload_n 1, 1) := by decide +kernel
theorem dX9_undo_14 : decode cX9_undo 14 = .ok (.aload_n 0, 1) := by decide +kernel
theorem dX9_undo_15 : decode cX9_undo 15 = .ok (.getfield 119, 3) := by decide +kernel
theorem dX9_undo_18 : decode cX9_undo 18 = .ok (.if_icmp .le 6, 3) := by decide +kernel
theorem dX9_undo_21 : decode cX9_undo 21 = .ok (.ldc 230, 2) := by decide +kernel
theorem dX9_undo_23 : decode cX9_undo 23 = .ok (.ireturn, 1) := by decide +kernel
theorem dX9_undo_24 : decode cX9_undo 24 = .ok (.aload_n 0, 1) := by decide +kernel
theorem dX9_undo_25 : decode cX9_undo 25 = .ok (.getfield 7, 3) := by decide +kernel
theorem dX9_undo_28 : decode cX9_undo 28 = .ok (.bipush 66, 2) := by decide +kernel
theorem dX9_undo_30 : decode cX9_undo 30 = .ok (.iaload, 1) := by decide +kernel
theorem dX9_undo_31 : decode cX9_undo 31 = .ok (.istore_n 2, 1) := by decide +kernel
theorem dX9_undo_32 : decode cX9_undo 32 = .ok (.aload_n 0, 1) := by decide +kernel
theorem dX9_undo_33 : decode cX9_undo 33 = .ok (.dup, 1) := by decide +kernel
theorem dX9_undo_34 : decode cX9_undo 34 = .ok (.getfield 119, 3) := by decide +kernel
theorem dX9_undo_37 : decode cX9_undo 37 = .ok (.iload_n 1, 1) := by decide +kernel
theorem dX9_undo_38 : decode cX9_undo 38 = .ok (.isub, 1) := by decide +kernel
theorem dX9_undo_39 : decode cX9_undo 39 = .ok (.putfield 119, 3) := by decide +kernel
theorem dX9_undo_42 : decode cX9_undo 42 = .ok (.aload_n 0, 1) := by decide +kernel
theorem dX9_undo_43 : decode cX9_undo 43 = .ok (.bipush 67, 2) := by decide +kernel
theorem dX9_undo_45 : decode cX9_undo 45 = .ok (.bipush 67, 2) := by decide +kernel
theorem dX9_undo_47 : decode cX9_undo 47 = .ok (.aload_n 0, 1) := by decide +kernel
theorem dX9_undo_48 : decode cX9_undo 48 = .ok (.getfield 119, 3) := by decide +kernel
theorem dX9_undo_51 : decode cX9_undo 51 = .ok (.imul, 1) := by decide +kernel
theorem dX9_undo_52 : decode cX9_undo 52 = .ok (.iadd, 1) := by decide +kernel
theorem dX9_undo_53 : decode cX9_undo 53 = .ok (.iconst 0, 1) := by decide +kernel
theorem dX9_undo_54 : decode cX9_undo 54 = .ok (.invokevirtual 116, 3) := by decide +kernel
theorem dX9_undo_57 : decode cX9_undo 57 = .ok (.aload_n 0, 1) := by decide +kernel
theorem dX9_undo_58 : decode cX9_undo 58 = .ok (.getfield 7, 3) := by decide +kernel
theorem dX9_undo_61 : decode cX9_undo 61 = .ok (.bipush 66, 2) := by decide +kernel
theorem dX9_undo_63 : decode cX9_undo 63 = .ok (.iload_n 2, 1) := by decide +kernel
theorem dX9_undo_64 : decode cX9_undo 64 = .ok (.iastore, 1) := by decide +kernel
theorem dX9_undo_65 : decode cX9_undo 65 = .ok (.aload_n 0, 1) := by decide +kernel
theorem dX9_undo_66 : decode cX9_undo 66 = .ok (.getfield 119, 3) := by decide +kernel
theorem dX9_undo_69 : decode cX9_undo 69 = .ok (.ireturn, 1) := by decide +kernel
theorem dX9_otherwise_0 : decode cX9_otherwise 0 = .ok (.aload_n 0, 1) := by decide +kernel
theorem dX9_otherwise_1 : decode cX9_otherwise 1 = .ok (.iload_n 1, 1) := by decide +kernel
theorem dX9_otherwise_2 : decode cX9_otherwise 2 = .ok (.invokevirtual 202, 3) := by decide +kernel
theorem dX9_otherwise_5 : decode cX9_otherwise 5 = .ok (.ifCond .eq 11, 3) := by decide +kernel
theorem dX9_otherwise_8 : decode cX9_otherwise 8 = .ok (.aload_n 0, 1) := by decide +kernel
theorem dX9_otherwise_9 : decode cX9_otherwise 9 = .ok (.iload_n 2, 1) := by decide +kernel
theorem dX9_otherwise_10 : decode cX9_otherwise 10 = .ok (.invokevirtual 216, 3) := by decide +kernel
theorem dX9_otherwise_13 : decode cX9_otherwise 13 = .ok (.ifCond .ne 6, 3) := by decide +kernel
theorem dX9_otherwise_16 : decode cX9_otherwise 16 = .ok (.ldc 206, 2) := by decide +kernel
theorem dX9_otherwise_18 : decode cX9_otherwise 18 = .ok (.ireturn, 1) := by decide +kernel
theorem dX9_otherwise_19 : decode cX9_otherwise 19 = .ok (.aload_n 0, 1) := by decide +kernel
theorem dX9_otherwise_20 : decode cX9_otherwise 20 = .ok (.iconst 0, 1) := by decide +kernel
theorem dX9_otherwise_21 : decode cX9_otherwise 21 = .ok (.sipush 1541, 3) := by decide +kernel
theorem dX9_otherwise_24 : decode cX9_otherwise 24 = .ok (.invokevirtual 116, 3) := by decide +kernel
theorem dX9_otherwise_27 : decode cX9_otherwise 27 = .ok (.aload_n 0, 1) := by decide +kernel
theorem dX9_otherwise_28 : decode cX9_otherwise 28 = .ok (.getfield 7, 3) := by decide +kernel
theorem dX9_otherwise_31 : decode cX9_otherwise 31 = .ok (.sipush 1589, 3) := by decide +kernel
theorem dX9_otherwise_34 : decode cX9_otherwise 34 = .ok (.iload_n 1, 1) := by decide +kernel
theorem dX9_otherwise_35 : decode cX9_otherwise 35 = .ok (.iadd, 1) := by decide +kernel
theorem dX9_otherwise_36 : decode cX9_otherwise 36 = .ok (.iconst 1, 1) := by decide +kernel
theorem dX9_otherwise_37 : decode cX9_otherwise 37 = .ok (.iastore, 1) := by decide +kernel
theorem dX9_otherwise_38 : decode cX9_otherwise 38 = .ok (.aload_n 0, 1) := by decide +kernel
theorem dX9_otherwise_39 : decode cX9_otherwise 39 = .ok (.getfield 7, 3) := by decide +kernel
theorem dX9_otherwise_42 : decode cX9_otherwise 42 = .ok (.sipush 1541, 3) := by decide +kernel
theorem dX9_otherwise_45 : decode cX9_otherwise 45 = .ok (.bipush 8, 2) := by decide +kernel
theorem dX9_otherwise_47 : decode cX9_otherwise 47 = .ok (.iload_n 1, 1) := by decide +kernel
theorem dX9_otherwise_48 : decode cX9_otherwise 48 = .ok (.imul, 1) := by decide +kernel
theorem dX9_otherwise_49 : decode cX9_otherwise 49 = .ok (.iadd, 1) := by decide +kernel
theorem dX9_otherwise_50 : decode cX9_otherwise 50 = .ok (.iload_n 2, 1) := by decide +kernel
theorem dX9_otherwise_51 : decode cX9_otherwise 51 = .ok (.iastore, 1) := by decide +kernel
theorem dX9_otherwise_52 : decode cX9_otherwise 52 = .ok (.aload_n 0, 1) := by decide +kernel
theorem dX9_otherwise_53 : decode cX9_otherwise 53 = .ok (.sipush 1541, 3) := by decide +kernel
theorem dX9_otherwise_56 : decode cX9_otherwise 56 = .ok (.invokevirtual 187, 3) := by decide +kernel
theorem dX9_otherwise_59 : decode cX9_otherwise 59 = .ok (.aload_n 0, 1) := by decide +kernel
theorem dX9_otherwise_60 : decode cX9_otherwise 60 = .ok (.getfield 20, 3) := by decide +kernel
theorem dX9_otherwise_63 : decode cX9_otherwise 63 = .ok (.iload_n 1, 1) := by decide +kernel
theorem dX9_otherwise_64 : decode cX9_otherwise 64 = .ok (.iaload, 1) := by decide +kernel
theorem dX9_otherwise_65 : decode cX9_otherwise 65 = .ok (.ireturn, 1) := by decide +kernel
theorem dX9_nextLots_0 : decode cX9_nextLots 0 = .ok (.aload_n 0, 1) := by decide +kernel
theorem dX9_nextLots_1 : decode cX9_nextLots 1 = .ok (.getfield 51, 3) := by decide +kernel
theorem dX9_nextLots_4 : decode cX9_nextLots 4 = .ok (.iconst 2, 1) := by decide +kernel
theorem dX9_nextLots_5 : decode cX9_nextLots 5 = .ok (.isub, 1) := by decide +kernel
theorem dX9_nextLots_6 : decode cX9_nextLots 6 = .ok (.istore_n 1, 1) := by decide +kernel
theorem dX9_nextLots_7 : decode cX9_nextLots 7 = .ok (.iload_n 1, 1) := by decide +kernel
theorem dX9_nextLots_8 : decode cX9_nextLots 8 = .ok (.ifCond .lt 34, 3) := by decide +kernel
theorem dX9_nextLots_11 : decode cX9_nextLots 11 = .ok (.aload_n 0, 1) := by decide +kernel
theorem dX9_nextLots_12 : decode cX9_nextLots 12 = .ok (.getfield 7, 3) := by decide +kernel
theorem dX9_nextLots_15 : decode cX9_nextLots 15 = .ok (.sipush 1601, 3) := by decide +kernel
theorem dX9_nextLots_18 : decode cX9_nextLots 18 = .ok (.iload_n 1, 1) := by decide +kernel
theorem dX9_nextLots_19 : decode cX9_nextLots 19 = .ok (.iadd, 1) := by decide +kernel
theorem dX9_nextLots_20 : decode cX9_nextLots 20 = .ok (.iaload, 1) := by decide +kernel
theorem dX9_nextLots_21 : decode cX9_nextLots 21 = .ok (.aload_n 0, 1) := by decide +kernel
theorem dX9_nextLots_22 : decode cX9_nextLots 22 = .ok (.getfield 7, 3) := by decide +kernel
theorem dX9_nextLots_25 : decode cX9_nextLots 25 = .ok (.sipush 1601, 3) := by decide +kernel
theorem dX9_nextLots_28 : decode cX9_nextLots 28 = .ok (.iload_n 1, 1) := by decide +kernel
theorem dX9_nextLots_29 : decode cX9_nextLots 29 = .ok (.iadd, 1) := by decide +kernel
theorem dX9_nextLots_30 : decode cX9_nextLots 30 = .ok (.iconst 1, 1) := by decide +kernel
theorem dX9_nextLots_31 : decode cX9_nextLots 31 = .ok (.iadd, 1) := by decide +kernel
theorem dX9_nextLots_32 : decode cX9_nextLots 32 = .ok (.iaload, 1) := by decide +kernel
theorem dX9_nextLots_33 : decode cX9_nextLots 33 = .ok (.if_icmp .le 9, 3) := by decide +kernel
theorem dX9_nextLots_36 : decode cX9_nextLots 36 = .ok (.iinc 1 (-1), 3) := by decide +kernel
theorem dX9_nextLots_39 : decode cX9_nextLots 39 = .ok (.goto (-32), 3) := by decide +kernel
theorem dX9_nextLots_42 : decode cX9_nextLots 42 = .ok (.iload_n 1, 1) := by decide +kernel
theorem dX9_nextLots_43 : decode cX9_nextLots 43 = .ok (.ifCond .ge 5, 3) := by decide +kernel
theorem dX9_nextLots_46 : decode cX9_nextLots 46 = .ok (.iconst 0, 1) := by decide +kernel
theorem dX9_nextLots_47 : decode cX9_nextLots 47 = .ok (.ireturn, 1) := by decide +kernel
theorem dX9_nextLots_48 : decode cX9_nextLots 48 = .ok (.aload_n 0, 1) := by decide +kernel
theorem dX9_nextLots_49 : decode cX9_nextLots 49 = .ok (.getfield 51, 3) := by decide +kernel
theorem dX9_nextLots_52 : decode cX9_nextLots 52 = .ok (.iconst 1, 1) := by decide +kernel
theorem dX9_nextLots_53 : decode cX9_nextLots 53 = .ok (.isub, 1) := by decide +kernel
theorem dX9_nextLots_54 : decode cX9_nextLots 54 = .ok (.istore_n 2, 1) := by decide +kernel
theorem dX9_nextLots_55 : decode cX9_nextLots 55 = .ok (.aload_n 0, 1) := by decide +kernel
theorem dX9_nextLots_56 : decode cX9_nextLots 56 = .ok (.getfield 7, 3) := by decide +kernel
theorem dX9_nextLots_59 : decode cX9_nextLots 59 = .ok (.sipush 1601, 3) := by decide +kernel
theorem dX9_nextLots_62 : decode cX9_nextLots 62 = .ok (.iload_n 2, 1) := by decide +kernel
theorem dX9_nextLots_63 : decode cX9_nextLots 63 = .ok (.iadd, 1) := by decide +kernel
theorem dX9_nextLots_64 : decode cX9_nextLots 64 = .ok (.iaload, 1) := by decide +kernel
theorem dX9_nextLots_65 : decode cX9_nextLots 65 = .ok (.aload_n 0, 1) := by decide +kernel
theorem dX9_nextLots_66 : decode cX9_nextLots 66 = .ok (.getfield 7, 3) := by decide +kernel
theorem dX9_nextLots_69 : decode cX9_nextLots 69 = .ok (.sipush 1601, 3) := by decide +kernel
theorem dX9_nextLots_72 : decode cX9_nextLots 72 = .ok (.iload_n 1, 1) := by decide +kernel
theorem dX9_nextLots_73 : decode cX9_nextLots 73 = .ok (.iadd, 1) := by decide +kernel
theorem dX9_nextLots_74 : decode cX9_nextLots 74 = .ok (.iaload, 1) := by decide +kernel
theorem dX9_nextLots_75 : decode cX9_nextLots 75 = .ok (.if_icmp .ge 9, 3) := by decide +kernel
theorem dX9_nextLots_78 : decode cX9_nextLots 78 = .ok (.iinc 2 (-1), 3) := by decide +kernel
theorem dX9_nextLots_81 : decode cX9_nextLots 81 = .ok (.goto (-26), 3) := by decide +kernel
theorem dX9_nextLots_84 : decode cX9_nextLots 84 = .ok (.aload_n 0, 1) := by decide +kernel
theorem dX9_nextLots_85 : decode cX9_nextLots 85 = .ok (.iload_n 1, 1) := by decide +kernel
theorem dX9_nextLots_86 : decode cX9_nextLots 86 = .ok (.iload_n 2, 1) := by decide +kernel
theorem dX9_nextLots_87 : decode cX9_nextLots 87 = .ok (.invokevirtual 250, 3) := by decide +kernel
theorem dX9_nextLots_90 : decode cX9_nextLots 90 = .ok (.iload_n 1, 1) := by decide +kernel
theorem dX9_nextLots_91 : decode cX9_nextLots 91 = .ok (.iconst 1, 1) := by decide +kernel
theorem dX9_nextLots_92 : decode cX9_nextLots 92 = .ok (.iadd, 1) := by decide +kernel
theorem dX9_nextLots_93 : decode cX9_nextLots 93 = .ok (.istore_n 3, 1) := by decide +kernel
theorem dX9_nextLots_94 : decode cX9_nextLots 94 = .ok (.aload_n 0, 1) := by decide +kernel
theorem dX9_nextLots_95 : decode cX9_nextLots 95 = .ok (.getfield 51, 3) := by decide +kernel
theorem dX9_nextLots_98 : decode cX9_nextLots 98 = .ok (.iconst 1, 1) := by decide +kernel
theorem dX9_nextLots_99 : decode cX9_nextLots 99 = .ok (.isub, 1) := by decide +kernel
theorem dX9_nextLots_100 : decode cX9_nextLots 100 = .ok (.istore 4, 2) := by decide +kernel
theorem dX9_nextLots_102 : decode cX9_nextLots 102 = .ok (.iload_n 3, 1) := by decide +kernel
theorem dX9_nextLots_103 : decode cX9_nextLots 103 = .ok (.iload 4, 2) := by decide +kernel
theorem dX9_nextLots_105 : decode cX9_nextLots 105 = .ok (.if_icmp .ge 19, 3) := by decide +kernel
theorem dX9_nextLots_108 : decode cX9_nextLots 108 = .ok (.aload_n 0, 1) := by decide +kernel
theorem dX9_nextLots_109 : decode cX9_nextLots 109 = .ok (.iload_n 3, 1) := by decide +kernel
theorem dX9_nextLots_110 : decode cX9_nextLots 110 = .ok (.iload 4, 2) := by decide +kernel
theorem dX9_nextLots_112 : decode cX9_nextLots 112 = .ok (.invokevirtual 250, 3) := by decide +kernel
theorem dX9_nextLots_115 : decode cX9_nextLots 115 = .ok (.iinc 3 1, 3) := by decide +kernel
theorem dX9_nextLots_118 : decode cX9_nextLots 118 = .ok (.iinc 4 (-1), 3) := by decide +kernel
theorem dX9_nextLots_121 : decode cX9_nextLots 121 = .ok (.goto (-19), 3) := by decide +kernel
theorem dX9_nextLots_124 : decode cX9_nextLots 124 = .ok (.iconst 1, 1) := by decide +kernel
theorem dX9_nextLots_125 : decode cX9_nextLots 125 = .ok (.ireturn, 1) := by decide +kernel
theorem dX9_swap_0 : decode cX9_swap 0 = .ok (.aload_n 0, 1) := by decide +kernel
theorem dX9_swap_1 : decode cX9_swap 1 = .ok (.getfield 7, 3) := by decide +kernel
theorem dX9_swap_4 : decode cX9_swap 4 = .ok (.sipush 1601, 3) := by decide +kernel
theorem dX9_swap_7 : decode cX9_swap 7 = .ok (.iload_n 1, 1) := by decide +kernel
theorem dX9_swap_8 : decode cX9_swap 8 = .ok (.iadd, 1) := by decide +kernel
theorem dX9_swap_9 : decode cX9_swap 9 = .ok (.iaload, 1) := by decide +kernel
theorem dX9_swap_10 : decode cX9_swap 10 = .ok (.istore_n 3, 1) := by decide +kernel
theorem dX9_swap_11 : decode cX9_swap 11 = .ok (.aload_n 0, 1) := by decide +kernel
theorem dX9_swap_12 : decode cX9_swap 12 = .ok (.getfield 7, 3) := by decide +kernel
theorem dX9_swap_15 : decode cX9_swap 15 = .ok (.sipush 1601, 3) := by decide +kernel
theorem dX9_swap_18 : decode cX9_swap 18 = .ok (.iload_n 1, 1) := by decide +kernel
theorem dX9_swap_19 : decode cX9_swap 19 = .ok (.iadd, 1) := by decide +kernel
theorem dX9_swap_20 : decode cX9_swap 20 = .ok (.aload_n 0, 1) := by decide +kernel
theorem dX9_swap_21 : decode cX9_swap 21 = .ok (.getfield 7, 3) := by decide +kernel
theorem dX9_swap_24 : decode cX9_swap 24 = .ok (.sipush 1601, 3) := by decide +kernel
theorem dX9_swap_27 : decode cX9_swap 27 = .ok (.iload_n 2, 1) := by decide +kernel
theorem dX9_swap_28 : decode cX9_swap 28 = .ok (.iadd, 1) := by decide +kernel
theorem dX9_swap_29 : decode cX9_swap 29 = .ok (.iaload, 1) := by decide +kernel
theorem dX9_swap_30 : decode cX9_swap 30 = .ok (.iastore, 1) := by decide +kernel
theorem dX9_swap_31 : decode cX9_swap 31 = .ok (.aload_n 0, 1) := by decide +kernel
theorem dX9_swap_32 : decode cX9_swap 32 = .ok (.getfield 7, 3) := by decide +kernel
theorem dX9_swap_35 : decode cX9_swap 35 = .ok (.sipush 1601, 3) := by decide +kernel
theorem dX9_swap_38 : decode cX9_swap 38 = .ok (.iload_n 2, 1) := by decide +kernel
theorem dX9_swap_39 : decode cX9_swap 39 = .ok (.iadd, 1) := by decide +kernel
theorem dX9_swap_40 : decode cX9_swap 40 = .ok (.iload_n 3, 1) := by decide +kernel
theorem dX9_swap_41 : decode cX9_swap 41 = .ok (.iastore, 1) := by decide +kernel
theorem dX9_swap_42 : decode cX9_swap 42 = .ok (.return_, 1) := by decide +kernel
theorem dX9_odds_0 : decode cX9_odds 0 = .ok (.aload_n 0, 1) := by decide +kernel
theorem dX9_odds_1 : decode cX9_odds 1 = .ok (.iload_n 1, 1) := by decide +kernel
theorem dX9_odds_2 : decode cX9_odds 2 = .ok (.invokevirtual 202, 3) := by decide +kernel
theorem dX9_odds_5 : decode cX9_odds 5 = .ok (.ifCond .eq 16, 3) := by decide +kernel
theorem dX9_odds_8 : decode cX9_odds 8 = .ok (.iload_n 2, 1) := by decide +kernel
theorem dX9_odds_9 : decode cX9_odds 9 = .ok (.iconst (-1), 1) := by decide +kernel
theorem dX9_odds_10 : decode cX9_odds 10 = .ok (.if_icmp .eq 14, 3) := by decide +kernel
theorem dX9_odds_13 : decode cX9_odds 13 = .ok (.aload_n 0, 1) := by decide +kernel
theorem dX9_odds_14 : decode cX9_odds 14 = .ok (.iload_n 2, 1) := by decide +kernel
theorem dX9_odds_15 : decode cX9_odds 15 = .ok (.invokevirtual 216, 3) := by decide +kernel
theorem dX9_odds_18 : decode cX9_odds 18 = .ok (.ifCond .ne 6, 3) := by decide +kernel
theorem dX9_odds_21 : decode cX9_odds 21 = .ok (.ldc 206, 2) := by decide +kernel
theorem dX9_odds_23 : decode cX9_odds 23 = .ok (.ireturn, 1) := by decide +kernel
theorem dX9_odds_24 : decode cX9_odds 24 = .ok (.aload_n 0, 1) := by decide +kernel
theorem dX9_odds_25 : decode cX9_odds 25 = .ok (.iconst 0, 1) := by decide +kernel
theorem dX9_odds_26 : decode cX9_odds 26 = .ok (.sipush 1541, 3) := by decide +kernel
theorem dX9_odds_29 : decode cX9_odds 29 = .ok (.invokevirtual 116, 3) := by decide +kernel
theorem dX9_odds_32 : decode cX9_odds 32 = .ok (.aload_n 0, 1) := by decide +kernel
theorem dX9_odds_33 : decode cX9_odds 33 = .ok (.sipush 1541, 3) := by decide +kernel
theorem dX9_odds_36 : decode cX9_odds 36 = .ok (.invokevirtual 47, 3) := by decide +kernel
theorem dX9_odds_39 : decode cX9_odds 39 = .ok (.iconst 0, 1) := by decide +kernel
theorem dX9_odds_40 : decode cX9_odds 40 = .ok (.istore_n 3, 1) := by decide +kernel
theorem dX9_odds_41 : decode cX9_odds 41 = .ok (.iconst 1, 1) := by decide +kernel
theorem dX9_odds_42 : decode cX9_odds 42 = .ok (.istore 4, 2) := by decide +kernel
theorem dX9_odds_44 : decode cX9_odds 44 = .ok (.iload 4, 2) := by decide +kernel
theorem dX9_odds_46 : decode cX9_odds 46 = .ok (.ifCond .eq 37, 3) := by decide +kernel
theorem dX9_odds_49 : decode cX9_odds 49 = .ok (.aload_n 0, 1) := by decide +kernel
theorem dX9_odds_50 : decode cX9_odds 50 = .ok (.sipush 1541, 3) := by decide +kernel
theorem dX9_odds_53 : decode cX9_odds 53 = .ok (.invokevirtual 187, 3) := by decide +kernel
theorem dX9_odds_56 : decode cX9_odds 56 = .ok (.iload_n 3, 1) := by decide +kernel
theorem dX9_odds_57 : decode cX9_odds 57 = .ok (.aload_n 0, 1) := by decide +kernel
theorem dX9_odds_58 : decode cX9_odds 58 = .ok (.getfield 20, 3) := by decide +kernel
theorem dX9_odds_61 : decode cX9_odds 61 = .ok (.iload_n 1, 1) := by decide +kernel
theorem dX9_odds_62 : decode cX9_odds 62 = .ok (.iaload, 1) := by decide +kernel
theorem dX9_odds_63 : decode cX9_odds 63 = .ok (.iload_n 2, 1) := by decide +kernel
theorem dX9_odds_64 : decode cX9_odds 64 = .ok (.if_icmp .ne 7, 3) := by decide +kernel
theorem dX9_odds_67 : decode cX9_odds 67 = .ok (.iconst 1, 1) := by decide +kernel
theorem dX9_odds_68 : decode cX9_odds 68 = .ok (.goto 4, 3) := by decide +kernel
theorem dX9_odds_71 : decode cX9_odds 71 = .ok (.iconst 0, 1) := by decide +kernel
theorem dX9_odds_72 : decode cX9_odds 72 = .ok (.iadd, 1) := by decide +kernel
theorem dX9_odds_73 : decode cX9_odds 73 = .ok (.istore_n 3, 1) := by decide +kernel
theorem dX9_odds_74 : decode cX9_odds 74 = .ok (.aload_n 0, 1) := by decide +kernel
theorem dX9_odds_75 : decode cX9_odds 75 = .ok (.invokevirtual 253, 3) := by decide +kernel
theorem dX9_odds_78 : decode cX9_odds 78 = .ok (.istore 4, 2) := by decide +kernel
theorem dX9_odds_80 : decode cX9_odds 80 = .ok (.goto (-36), 3) := by decide +kernel
theorem dX9_odds_83 : decode cX9_odds 83 = .ok (.iload_n 3, 1) := by decide +kernel
theorem dX9_odds_84 : decode cX9_odds 84 = .ok (.ireturn, 1) := by decide +kernel
theorem dX9_quiet_0 : decode cX9_quiet 0 = .ok (.iload_n 1, 1) := by decide +kernel
theorem dX9_quiet_1 : decode cX9_quiet 1 = .ok (.iconst 0, 1) := by decide +kernel
theorem dX9_quiet_2 : decode cX9_quiet 2 = .ok (.bipush 60, 2) := by decide +kernel
theorem dX9_quiet_4 : decode cX9_quiet 4 = .ok (.invokestatic 54, 3) := by decide +kernel
theorem dX9_quiet_7 : decode cX9_quiet 7 = .ok (.ifCond .eq 13, 3) := by decide +kernel
theorem dX9_quiet_10 : decode cX9_quiet 10 = .ok (.iload_n 2, 1) := by decide +kernel
theorem dX9_quiet_11 : decode cX9_quiet 11 = .ok (.iconst 0, 1) := by decide +kernel
theorem dX9_quiet_12 : decode cX9_quiet 12 = .ok (.bipush 100, 2) := by decide +kernel
theorem dX9_quiet_14 : decode cX9_quiet 14 = .ok (.invokestatic 54, 3) := by decide +kernel
theorem dX9_quiet_17 : decode cX9_quiet 17 = .ok (.ifCond .ne 6, 3) := by decide +kernel
theorem dX9_quiet_20 : decode cX9_quiet 20 = .ok (.ldc 61, 2) := by decide +kernel
theorem dX9_quiet_22 : decode cX9_quiet 22 = .ok (.ireturn, 1) := by decide +kernel
theorem dX9_quiet_23 : decode cX9_quiet 23 = .ok (.ldc2_w 256, 3) := by decide +kernel
theorem dX9_quiet_26 : decode cX9_quiet 26 = .ok (.lstore_n 3, 1) := by decide +kernel
theorem dX9_quiet_27 : decode cX9_quiet 27 = .ok (.iconst 0, 1) := by decide +kernel
theorem dX9_quiet_28 : decode cX9_quiet 28 = .ok (.istore 5, 2) := by decide +kernel
theorem dX9_quiet_30 : decode cX9_quiet 30 = .ok (.iload 5, 2) := by decide +kernel
theorem dX9_quiet_32 : decode cX9_quiet 32 = .ok (.iload_n 1, 1) := by decide +kernel
theorem dX9_quiet_33 : decode cX9_quiet 33 = .ok (.if_icmp .ge 18, 3) := by decide +kernel
theorem dX9_quiet_36 : decode cX9_quiet 36 = .ok (.lload_n 3, 1) := by decide +kernel
theorem dX9_quiet_37 : decode cX9_quiet 37 = .ok (.iload_n 2, 1) := by decide +kernel
theorem dX9_quiet_38 : decode cX9_quiet 38 = .ok (.i2l, 1) := by decide +kernel
theorem dX9_quiet_39 : decode cX9_quiet 39 = .ok (.lmul, 1) := by decide +kernel
theorem dX9_quiet_40 : decode cX9_quiet 40 = .ok (.ldc2_w 258, 3) := by decide +kernel
theorem dX9_quiet_43 : decode cX9_quiet 43 = .ok (.ldiv, 1) := by decide +kernel
theorem dX9_quiet_44 : decode cX9_quiet 44 = .ok (.lstore_n 3, 1) := by decide +kernel
theorem dX9_quiet_45 : decode cX9_quiet 45 = .ok (.iinc 5 1, 3) := by decide +kernel
theorem dX9_quiet_48 : decode cX9_quiet 48 = .ok (.goto (-18), 3) := by decide +kernel
theorem dX9_quiet_51 : decode cX9_quiet 51 = .ok (.lload_n 3, 1) := by decide +kernel
theorem dX9_quiet_52 : decode cX9_quiet 52 = .ok (.l2i, 1) := by decide +kernel
theorem dX9_quiet_53 : decode cX9_quiet 53 = .ok (.ireturn, 1) := by decide +kernel
theorem dX9_isRoomOrNone_0 : decode cX9_isRoomOrNone 0 = .ok (.iload_n 1, 1) := by decide +kernel
theorem dX9_isRoomOrNone_1 : decode cX9_isRoomOrNone 1 = .ok (.iconst (-1), 1) := by decide +kernel
theorem dX9_isRoomOrNone_2 : decode cX9_isRoomOrNone 2 = .ok (.if_icmp .eq 11, 3) := by decide +kernel
theorem dX9_isRoomOrNone_5 : decode cX9_isRoomOrNone 5 = .ok (.aload_n 0, 1) := by decide +kernel
theorem dX9_isRoomOrNone_6 : decode cX9_isRoomOrNone 6 = .ok (.iload_n 1, 1) := by decide +kernel
theorem dX9_isRoomOrNone_7 : decode cX9_isRoomOrNone 7 = .ok (.invokevirtual 216, 3) := by decide +kernel
theorem dX9_isRoomOrNone_10 : decode cX9_isRoomOrNone 10 = .ok (.ifCond .eq 7, 3) := by decide +kernel
theorem dX9_isRoomOrNone_13 : decode cX9_isRoomOrNone 13 = .ok (.iconst 1, 1) := by decide +kernel
theorem dX9_isRoomOrNone_14 : decode cX9_isRoomOrNone 14 = .ok (.goto 4, 3) := by decide +kernel
theorem dX9_isRoomOrNone_17 : decode cX9_isRoomOrNone 17 = .ok (.iconst 0, 1) := by decide +kernel
theorem dX9_isRoomOrNone_18 : decode cX9_isRoomOrNone 18 = .ok (.ireturn, 1) := by decide +kernel
theorem dX9_see_0 : decode cX9_see 0 = .ok (.aload_n 0, 1) := by decide +kernel
theorem dX9_see_1 : decode cX9_see 1 = .ok (.iload_n 1, 1) := by decide +kernel
theorem dX9_see_2 : decode cX9_see 2 = .ok (.invokevirtual 260, 3) := by decide +kernel
theorem dX9_see_5 : decode cX9_see 5 = .ok (.ifCond .ne 6, 3) := by decide +kernel
theorem dX9_see_8 : decode cX9_see 8 = .ok (.ldc 206, 2) := by decide +kernel
theorem dX9_see_10 : decode cX9_see 10 = .ok (.ireturn, 1) := by decide +kernel
theorem dX9_see_11 : decode cX9_see 11 = .ok (.aload_n 0, 1) := by decide +kernel
theorem dX9_see_12 : decode cX9_see 12 = .ok (.getfield 125, 3) := by decide +kernel
theorem dX9_see_15 : decode cX9_see 15 = .ok (.bipush 6, 2) := by decide +kernel
theorem dX9_see_17 : decode cX9_see 17 = .ok (.if_icmp .ne 6, 3) := by decide +kernel
theorem dX9_see_20 : decode cX9_see 20 = .ok (.ldc 65, 2) := by decide +kernel
theorem dX9_see_22 : decode cX9_see 22 = .ok (.ireturn, 1) := by decide +kernel
theorem dX9_see_23 : decode cX9_see 23 = .ok (.aload_n 0, 1) := by decide +kernel
theorem dX9_see_24 : decode cX9_see 24 = .ok (.getfield 32, 3) := by decide +kernel
theorem dX9_see_27 : decode cX9_see 27 = .ok (.aload_n 0, 1) := by decide +kernel
theorem dX9_see_28 : decode cX9_see 28 = .ok (.getfield 125, 3) := by decide +kernel
theorem dX9_see_31 : decode cX9_see 31 = .ok (.iload_n 1, 1) := by decide +kernel
theorem dX9_see_32 : decode cX9_see 32 = .ok (.iastore, 1) := by decide +kernel
theorem dX9_see_33 : decode cX9_see 33 = .ok (.aload_n 0, 1) := by decide +kernel
theorem dX9_see_34 : decode cX9_see 34 = .ok (.getfield 35, 3) := by decide +kernel
theorem dX9_see_37 : decode cX9_see 37 = .ok (.aload_n 0, 1) := by decide +kernel
theorem dX9_see_38 : decode cX9_see 38 = .ok (.getfield 125, 3) := by decide +kernel
theorem dX9_see_41 : decode cX9_see 41 = .ok (.iload_n 2, 1) := by decide +kernel
theorem dX9_see_42 : decode cX9_see 42 = .ok (.ifCond .eq 7, 3) := by decide +kernel
theorem dX9_see_45 : decode cX9_see 45 = .ok (.iconst 1, 1) := by decide +kernel
theorem dX9_see_46 : decode cX9_see 46 = .ok (.goto 4, 3) := by decide +kernel
theorem dX9_see_49 : decode cX9_see 49 = .ok (.iconst 0, 1) := by decide +kernel
theorem dX9_see_50 : decode cX9_see 50 = .ok (.iastore, 1) := by decide +kernel
theorem dX9_see_51 : decode cX9_see 51 = .ok (.aload_n 0, 1) := by decide +kernel
theorem dX9_see_52 : decode cX9_see 52 = .ok (.dup, 1) := by decide +kernel
theorem dX9_see_53 : decode cX9_see 53 = .ok (.getfield 125, 3) := by decide +kernel
theorem dX9_see_56 : decode cX9_see 56 = .ok (.iconst 1, 1) := by decide +kernel
theorem dX9_see_57 : decode cX9_see 57 = .ok (.iadd, 1) := by decide +kernel
theorem dX9_see_58 : decode cX9_see 58 = .ok (.putfield 125, 3) := by decide +kernel
theorem dX9_see_61 : decode cX9_see 61 = .ok (.aload_n 0, 1) := by decide +kernel
theorem dX9_see_62 : decode cX9_see 62 = .ok (.getfield 125, 3) := by decide +kernel
theorem dX9_see_65 : decode cX9_see 65 = .ok (.ireturn, 1) := by decide +kernel
theorem dX9_couldBe_0 : decode cX9_couldBe 0 = .ok (.aload_n 0, 1) := by decide +kernel
theorem dX9_couldBe_1 : decode cX9_couldBe 1 = .ok (.iconst 0, 1) := by decide +kernel
theorem dX9_couldBe_2 : decode cX9_couldBe 2 = .ok (.invokevirtual 187, 3) := by decide +kernel
theorem dX9_couldBe_5 : decode cX9_couldBe 5 = .ok (.iconst 0, 1) := by decide +kernel
theorem dX9_couldBe_6 : decode cX9_couldBe 6 = .ok (.istore_n 1, 1) := by decide +kernel
theorem dX9_couldBe_7 : decode cX9_couldBe 7 = .ok (.iconst 0, 1) := by decide +kernel
theorem dX9_couldBe_8 : decode cX9_couldBe 8 = .ok (.istore_n 2, 1) := by decide +kernel
theorem dX9_couldBe_9 : decode cX9_couldBe 9 = .ok (.iload_n 2, 1) := by decide +kernel
theorem dX9_couldBe_10 : decode cX9_couldBe 10 = .ok (.aload_n 0, 1) := by decide +kernel
theorem dX9_couldBe_11 : decode cX9_couldBe 11 = .ok (.getfield 51, 3) := by decide +kernel
theorem dX9_couldBe_14 : decode cX9_couldBe 14 = .ok (.if_icmp .ge 93, 3) := by decide +kernel
theorem dX9_couldBe_17 : decode cX9_couldBe 17 = .ok (.iconst 1, 1) := by decide +kernel
theorem dX9_couldBe_18 : decode cX9_couldBe 18 = .ok (.istore_n 3, 1) := by decide +kernel
theorem dX9_couldBe_19 : decode cX9_couldBe 19 = .ok (.iconst 0, 1) := by decide +kernel
theorem dX9_couldBe_20 : decode cX9_couldBe 20 = .ok (.istore 4, 2) := by decide +kernel
theorem dX9_couldBe_22 : decode cX9_couldBe 22 = .ok (.iload 4, 2) := by decide +kernel
theorem dX9_couldBe_24 : decode cX9_couldBe 24 = .ok (.aload_n 0, 1) := by decide +kernel
theorem dX9_couldBe_25 : decode cX9_couldBe 25 = .ok (.getfield 125, 3) := by decide +kernel
theorem dX9_couldBe_28 : decode cX9_couldBe 28 = .ok (.if_icmp .ge 59, 3) := by decide +kernel
theorem dX9_couldBe_31 : decode cX9_couldBe 31 = .ok (.iload_n 3, 1) := by decide +kernel
theorem dX9_couldBe_32 : decode cX9_couldBe 32 = .ok (.ifCond .eq 47, 3) := by decide +kernel
theorem dX9_couldBe_35 : decode cX9_couldBe 35 = .ok (.aload_n 0, 1) := by decide +kernel
theorem dX9_couldBe_36 : decode cX9_couldBe 36 = .ok (.getfield 20, 3) := by decide +kernel
theorem dX9_couldBe_39 : decode cX9_couldBe 39 = .ok (.iload_n 2, 1) := by decide +kernel
theorem dX9_couldBe_40 : decode cX9_couldBe 40 = .ok (.iaload, 1) := by decide +kernel
theorem dX9_couldBe_41 : decode cX9_couldBe 41 = .ok (.aload_n 0, 1) := by decide +kernel
theorem dX9_couldBe_42 : decode cX9_couldBe 42 = .ok (.getfield 32, 3) := by decide +kernel
theorem dX9_couldBe_45 : decode cX9_couldBe 45 = .ok (.iload 4, 2) := by decide +kernel
theorem dX9_couldBe_47 : decode cX9_couldBe 47 = .ok (.iaload, 1) := by decide +kernel
theorem dX9_couldBe_48 : decode cX9_couldBe 48 = .ok (.if_icmp .ne 7, 3) := by decide +kernel
theorem dX9_couldBe_51 : decode cX9_couldBe 51 = .ok (.iconst 1, 1) := by decide +kernel
theorem dX9_couldBe_52 : decode cX9_couldBe 52 = .ok (.goto 4, 3) := by decide +kernel
theorem dX9_couldBe_55 : decode cX9_couldBe 55 = .ok (.iconst 0, 1) := by decide +kernel
theorem dX9_couldBe_56 : decode cX9_couldBe 56 = .ok (.aload_n 0, 1) := by decide +kernel
theorem dX9_couldBe_57 : decode cX9_couldBe 57 = .ok (.getfield 35, 3) := by decide +kernel
theorem dX9_couldBe_60 : decode cX9_couldBe 60 = .ok (.iload 4, 2) := by decide +kernel
theorem dX9_couldBe_62 : decode cX9_couldBe 62 = .ok (.iaload, 1) := by decide +kernel
theorem dX9_couldBe_63 : decode cX9_couldBe 63 = .ok (.iconst 1, 1) := by decide +kernel
theorem dX9_couldBe_64 : decode cX9_couldBe 64 = .ok (.if_icmp .ne 7, 3) := by decide +kernel
theorem dX9_couldBe_67 : decode cX9_couldBe 67 = .ok (.iconst 1, 1) := by decide +kernel
theorem dX9_couldBe_68 : decode cX9_couldBe 68 = .ok (.goto 4, 3) := by decide +kernel
theorem dX9_couldBe_71 : decode cX9_couldBe 71 = .ok (.iconst 0, 1) := by decide +kernel
theorem dX9_couldBe_72 : decode cX9_couldBe 72 = .ok (.if_icmp .ne 7, 3) := by decide +kernel
theorem dX9_couldBe_75 : decode cX9_couldBe 75 = .ok (.iconst 1, 1) := by decide +kernel
theorem dX9_couldBe_76 : decode cX9_couldBe 76 = .ok (.goto 4, 3) := by decide +kernel
theorem dX9_couldBe_79 : decode cX9_couldBe 79 = .ok (.iconst 0, 1) := by decide +kernel
theorem dX9_couldBe_80 : decode cX9_couldBe 80 = .ok (.istore_n 3, 1) := by decide +kernel
theorem dX9_couldBe_81 : decode cX9_couldBe 81 = .ok (.iinc 4 1, 3) := by decide +kernel
theorem dX9_couldBe_84 : decode cX9_couldBe 84 = .ok (.goto (-62), 3) := by decide +kernel
theorem dX9_couldBe_87 : decode cX9_couldBe 87 = .ok (.iload_n 1, 1) := by decide +kernel
theorem dX9_couldBe_88 : decode cX9_couldBe 88 = .ok (.iload_n 3, 1) := by decide +kernel
theorem dX9_couldBe_89 : decode cX9_couldBe 89 = .ok (.ifCond .eq 9, 3) := by decide +kernel
theorem dX9_couldBe_92 : decode cX9_couldBe 92 = .ok (.iconst 1, 1) := by decide +kernel
theorem dX9_couldBe_93 : decode cX9_couldBe 93 = .ok (.iload_n 2, 1) := by decide +kernel
theorem dX9_couldBe_94 : decode cX9_couldBe 94 = .ok (.ishl, 1) := by decide +kernel
theorem dX9_couldBe_95 : decode cX9_couldBe 95 = .ok (.goto 4, 3) := by decide +kernel
theorem dX9_couldBe_98 : decode cX9_couldBe 98 = .ok (.iconst 0, 1) := by decide +kernel
theorem dX9_couldBe_99 : decode cX9_couldBe 99 = .ok (.ior, 1) := by decide +kernel
theorem dX9_couldBe_100 : decode cX9_couldBe 100 = .ok (.istore_n 1, 1) := by decide +kernel
theorem dX9_couldBe_101 : decode cX9_couldBe 101 = .ok (.iinc 2 1, 3) := by decide +kernel
theorem dX9_couldBe_104 : decode cX9_couldBe 104 = .ok (.goto (-95), 3) := by decide +kernel
theorem dX9_couldBe_107 : decode cX9_couldBe 107 = .ok (.iload_n 1, 1) := by decide +kernel
theorem dX9_couldBe_108 : decode cX9_couldBe 108 = .ok (.ireturn, 1) := by decide +kernel
theorem dX9_ask_0 : decode cX9_ask 0 = .ok (.aload_n 0, 1) := by decide +kernel
theorem dX9_ask_1 : decode cX9_ask 1 = .ok (.invokevirtual 263, 3) := by decide +kernel
theorem dX9_ask_4 : decode cX9_ask 4 = .ok (.istore_n 1, 1) := by decide +kernel
theorem dX9_ask_5 : decode cX9_ask 5 = .ok (.iconst (-1), 1) := by decide +kernel
theorem dX9_ask_6 : decode cX9_ask 6 = .ok (.istore_n 2, 1) := by decide +kernel
theorem dX9_ask_7 : decode cX9_ask 7 = .ok (.iload_n 1, 1) := by decide +kernel
theorem dX9_ask_8 : decode cX9_ask 8 = .ok (.invokestatic 172, 3) := by decide +kernel
theorem dX9_ask_11 : decode cX9_ask 11 = .ok (.istore_n 3, 1) := by decide +kernel
theorem dX9_ask_12 : decode cX9_ask 12 = .ok (.iconst 0, 1) := by decide +kernel
theorem dX9_ask_13 : decode cX9_ask 13 = .ok (.istore 4, 2) := by decide +kernel
theorem dX9_ask_15 : decode cX9_ask 15 = .ok (.iload 4, 2) := by decide +kernel
theorem dX9_ask_17 : decode cX9_ask 17 = .ok (.aload_n 0, 1) := by decide +kernel
theorem dX9_ask_18 : decode cX9_ask 18 = .ok (.getfield 58, 3) := by decide +kernel
theorem dX9_ask_21 : decode cX9_ask 21 = .ok (.if_icmp .ge 113, 3) := by decide +kernel
theorem dX9_ask_24 : decode cX9_ask 24 = .ok (.iconst 0, 1) := by decide +kernel
theorem dX9_ask_25 : decode cX9_ask 25 = .ok (.istore 5, 2) := by decide +kernel
theorem dX9_ask_27 : decode cX9_ask 27 = .ok (.iconst 0, 1) := by decide +kernel
theorem dX9_ask_28 : decode cX9_ask 28 = .ok (.istore 6, 2) := by decide +kernel
theorem dX9_ask_30 : decode cX9_ask 30 = .ok (.iload 6, 2) := by decide +kernel
theorem dX9_ask_32 : decode cX9_ask 32 = .ok (.aload_n 0, 1) := by decide +kernel
theorem dX9_ask_33 : decode cX9_ask 33 = .ok (.getfield 51, 3) := by decide +kernel
theorem dX9_ask_36 : decode cX9_ask 36 = .ok (.if_icmp .ge 40, 3) := by decide +kernel
theorem dX9_ask_39 : decode cX9_ask 39 = .ok (.iload 5, 2) := by decide +kernel
theorem dX9_ask_41 : decode cX9_ask 41 = .ok (.iload_n 1, 1) := by decide +kernel
theorem dX9_ask_42 : decode cX9_ask 42 = .ok (.iload 6, 2) := by decide +kernel
theorem dX9_ask_44 : decode cX9_ask 44 = .ok (.invokestatic 134, 3) := by decide +kernel
theorem dX9_ask_47 : decode cX9_ask 47 = .ok (.ifCond .eq 19, 3) := by decide +kernel
theorem dX9_ask_50 : decode cX9_ask 50 = .ok (.aload_n 0, 1) := by decide +kernel
theorem dX9_ask_51 : decode cX9_ask 51 = .ok (.getfield 20, 3) := by decide +kernel
theorem dX9_ask_54 : decode cX9_ask 54 = .ok (.iload 6, 2) := by decide +kernel
theorem dX9_ask_56 : decode cX9_ask 56 = .ok (.iaload, 1) := by decide +kernel
theorem dX9_ask_57 : decode cX9_ask 57 = .ok (.iload 4, 2) := by decide +kernel
theorem dX9_ask_59 : decode cX9_ask 59 = .ok (.if_icmp .ne 7, 3) := by decide +kernel
theorem dX9_ask_62 : decode cX9_ask 62 = .ok (.iconst 1, 1) := by decide +kernel
theorem dX9_ask_63 : decode cX9_ask 63 = .ok (.goto 4, 3) := by decide +kernel
theorem dX9_ask_66 : decode cX9_ask 66 = .ok (.iconst 0, 1) := by decide +kernel
theorem dX9_ask_67 : decode cX9_ask 67 = .ok (.iadd, 1) := by decide +kernel
theorem dX9_ask_68 : decode cX9_ask 68 = .ok (.istore 5, 2) := by decide +kernel
theorem dX9_ask_70 : decode cX9_ask 70 = .ok (.iinc 6 1, 3) := by decide +kernel
theorem dX9_ask_73 : decode cX9_ask 73 = .ok (.goto (-43), 3) := by decide +kernel
theorem dX9_ask_76 : decode cX9_ask 76 = .ok (.iload 5, 2) := by decide +kernel
theorem dX9_ask_78 : decode cX9_ask 78 = .ok (.iload_n 1, 1) := by decide +kernel
theorem dX9_ask_79 : decode cX9_ask 79 = .ok (.invokestatic 172, 3) := by decide +kernel
theorem dX9_ask_82 : decode cX9_ask 82 = .ok (.iload 5, 2) := by decide +kernel
theorem dX9_ask_84 : decode cX9_ask 84 = .ok (.isub, 1) := by decide +kernel
theorem dX9_ask_85 : decode cX9_ask 85 = .ok (.if_icmp .le 8, 3) := by decide +kernel
theorem dX9_ask_88 : decode cX9_ask 88 = .ok (.iload 5, 2) := by decide +kernel
theorem dX9_ask_90 : decode cX9_ask 90 = .ok (.goto 10, 3) := by decide +kernel
theorem dX9_ask_93 : decode cX9_ask 93 = .ok (.iload_n 1, 1) := by decide +kernel
theorem dX9_ask_94 : decode cX9_ask 94 = .ok (.invokestatic 172, 3) := by decide +kernel
theorem dX9_ask_97 : decode cX9_ask 97 = .ok (.iload 5, 2) := by decide +kernel
theorem dX9_ask_99 : decode cX9_ask 99 = .ok (.isub, 1) := by decide +kernel
theorem dX9_ask_100 : decode cX9_ask 100 = .ok (.istore 6, 2) := by decide +kernel
theorem dX9_ask_102 : decode cX9_ask 102 = .ok (.iload 6, 2) := by decide +kernel
theorem dX9_ask_104 : decode cX9_ask 104 = .ok (.iload_n 3, 1) := by decide +kernel
theorem dX9_ask_105 : decode cX9_ask 105 = .ok (.if_icmp .ge 8, 3) := by decide +kernel
theorem dX9_ask_108 : decode cX9_ask 108 = .ok (.iload 4, 2) := by decide +kernel
theorem dX9_ask_110 : decode cX9_ask 110 = .ok (.goto 4, 3) := by decide +kernel
theorem dX9_ask_113 : decode cX9_ask 113 = .ok (.iload_n 2, 1) := by decide +kernel
theorem dX9_ask_114 : decode cX9_ask 114 = .ok (.istore_n 2, 1) := by decide +kernel
theorem dX9_ask_115 : decode cX9_ask 115 = .ok (.iload 6, 2) := by decide +kernel
theorem dX9_ask_117 : decode cX9_ask 117 = .ok (.iload_n 3, 1) := by decide +kernel
theorem dX9_ask_118 : decode cX9_ask 118 = .ok (.if_icmp .ge 8, 3) := by decide +kernel
theorem dX9_ask_121 : decode cX9_ask 121 = .ok (.iload 6, 2) := by decide +kernel
theorem dX9_ask_123 : decode cX9_ask 123 = .ok (.goto 4, 3) := by decide +kernel
theorem dX9_ask_126 : decode cX9_ask 126 = .ok (.iload_n 3, 1) := by decide +kernel
theorem dX9_ask_127 : decode cX9_ask 127 = .ok (.istore_n 3, 1) := by decide +kernel
theorem dX9_ask_128 : decode cX9_ask 128 = .ok (.iinc 4 1, 3) := by decide +kernel
theorem dX9_ask_131 : decode cX9_ask 131 = .ok (.goto (-116), 3) := by decide +kernel
theorem dX9_ask_134 : decode cX9_ask 134 = .ok (.iload_n 2, 1) := by decide +kernel
theorem dX9_ask_135 : decode cX9_ask 135 = .ok (.ireturn, 1) := by decide +kernel
theorem dX9_write_0 : decode cX9_write 0 = .ok (.aload_n 0, 1) := by decide +kernel
theorem dX9_write_1 : decode cX9_write 1 = .ok (.iload_n 1, 1) := by decide +kernel
theorem dX9_write_2 : decode cX9_write 2 = .ok (.invokevirtual 202, 3) := by decide +kernel
theorem dX9_write_5 : decode cX9_write 5 = .ok (.ifCond .eq 11, 3) := by decide +kernel
theorem dX9_write_8 : decode cX9_write 8 = .ok (.aload_n 0, 1) := by decide +kernel
theorem dX9_write_9 : decode cX9_write 9 = .ok (.iload_n 2, 1) := by decide +kernel
theorem dX9_write_10 : decode cX9_write 10 = .ok (.invokevirtual 260, 3) := by decide +kernel
theorem dX9_write_13 : decode cX9_write 13 = .ok (.ifCond .ne 6, 3) := by decide +kernel
theorem dX9_write_16 : decode cX9_write 16 = .ok (.ldc 206, 2) := by decide +kernel
theorem dX9_write_18 : decode cX9_write 18 = .ok (.ireturn, 1) := by decide +kernel
theorem dX9_write_19 : decode cX9_write 19 = .ok (.aload_n 0, 1) := by decide +kernel
theorem dX9_write_20 : decode cX9_write 20 = .ok (.getfield 128, 3) := by decide +kernel
theorem dX9_write_23 : decode cX9_write 23 = .ok (.bipush 20, 2) := by decide +kernel
theorem dX9_write_25 : decode cX9_write 25 = .ok (.if_icmp .ne 6, 3) := by decide +kernel
theorem dX9_write_28 : decode cX9_write 28 = .ok (.ldc 65, 2) := by decide +kernel
theorem dX9_write_30 : decode cX9_write 30 = .ok (.ireturn, 1) := by decide +kernel
theorem dX9_write_31 : decode cX9_write 31 = .ok (.aload_n 0, 1) := by decide +kernel
theorem dX9_write_32 : decode cX9_write 32 = .ok (.getfield 38, 3) := by decide +kernel
theorem dX9_write_35 : decode cX9_write 35 = .ok (.aload_n 0, 1) := by decide +kernel
theorem dX9_write_36 : decode cX9_write 36 = .ok (.getfield 128, 3) := by decide +kernel
theorem dX9_write_39 : decode cX9_write 39 = .ok (.iload_n 1, 1) := by decide +kernel
theorem dX9_write_40 : decode cX9_write 40 = .ok (.iastore, 1) := by decide +kernel
theorem dX9_write_41 : decode cX9_write 41 = .ok (.aload_n 0, 1) := by decide +kernel
theorem dX9_write_42 : decode cX9_write 42 = .ok (.getfield 41, 3) := by decide +kernel
theorem dX9_write_45 : decode cX9_write 45 = .ok (.aload_n 0, 1) := by decide +kernel
theorem dX9_write_46 : decode cX9_write 46 = .ok (.getfield 128, 3) := by decide +kernel
theorem dX9_write_49 : decode cX9_write 49 = .ok (.iload_n 2, 1) := by decide +kernel
theorem dX9_write_50 : decode cX9_write 50 = .ok (.iastore, 1) := by decide +kernel
theorem dX9_write_51 : decode cX9_write 51 = .ok (.aload_n 0, 1) := by decide +kernel
theorem dX9_write_52 : decode cX9_write 52 = .ok (.dup, 1) := by decide +kernel
theorem dX9_write_53 : decode cX9_write 53 = .ok (.getfield 128, 3) := by decide +kernel
theorem dX9_write_56 : decode cX9_write 56 = .ok (.iconst 1, 1) := by decide +kernel
theorem dX9_write_57 : decode cX9_write 57 = .ok (.iadd, 1) := by decide +kernel
theorem dX9_write_58 : decode cX9_write 58 = .ok (.putfield 128, 3) := by decide +kernel
theorem dX9_write_61 : decode cX9_write 61 = .ok (.aload_n 0, 1) := by decide +kernel
theorem dX9_write_62 : decode cX9_write 62 = .ok (.getfield 128, 3) := by decide +kernel
theorem dX9_write_65 : decode cX9_write 65 = .ok (.ireturn, 1) := by decide +kernel
theorem dX9_judge_0 : decode cX9_judge 0 = .ok (.aload_n 0, 1) := by decide +kernel
theorem dX9_judge_1 : decode cX9_judge 1 = .ok (.iconst 0, 1) := by decide +kernel
end
section
theorem dX9_judge_2 : decode cX9_judge 2 = .ok (.invokevirtual 187, 3) := by decide +kernel
theorem dX9_judge_5 : decode cX9_judge 5 = .ok (.iconst 0, 1) := by decide +kernel
theorem dX9_judge_6 : decode cX9_judge 6 = .ok (.istore_n 1, 1) := by decide +kernel
theorem dX9_judge_7 : decode cX9_judge 7 = .ok (.iload_n 1, 1) := by decide +kernel
theorem dX9_judge_8 : decode cX9_judge 8 = .ok (.aload_n 0, 1) := by decide +kernel
theorem dX9_judge_9 : decode cX9_judge 9 = .ok (.getfield 128, 3) := by decide +kernel
theorem dX9_judge_12 : decode cX9_judge 12 = .ok (.if_icmp .ge 31, 3) := by decide +kernel
theorem dX9_judge_15 : decode cX9_judge 15 = .ok (.aload_n 0, 1) := by decide +kernel
theorem dX9_judge_16 : decode cX9_judge 16 = .ok (.getfield 20, 3) := by decide +kernel
theorem dX9_judge_19 : decode cX9_judge 19 = .ok (.aload_n 0, 1) := by decide +kernel
theorem dX9_judge_20 : decode cX9_judge 20 = .ok (.getfield 38, 3) := by decide +kernel
theorem dX9_judge_23 : decode cX9_judge 23 = .ok (.iload_n 1, 1) := by decide +kernel
theorem dX9_judge_24 : decode cX9_judge 24 = .ok (.iaload, 1) := by decide +kernel
theorem dX9_judge_25 : decode cX9_judge 25 = .ok (.iaload, 1) := by decide +kernel
theorem dX9_judge_26 : decode cX9_judge 26 = .ok (.aload_n 0, 1) := by decide +kernel
theorem dX9_judge_27 : decode cX9_judge 27 = .ok (.getfield 41, 3) := by decide +kernel
theorem dX9_judge_30 : decode cX9_judge 30 = .ok (.iload_n 1, 1) := by decide +kernel
theorem dX9_judge_31 : decode cX9_judge 31 = .ok (.iaload, 1) := by decide +kernel
theorem dX9_judge_32 : decode cX9_judge 32 = .ok (.if_icmp .eq 5, 3) := by decide +kernel
theorem dX9_judge_35 : decode cX9_judge 35 = .ok (.iload_n 1, 1) := by decide +kernel
theorem dX9_judge_36 : decode cX9_judge 36 = .ok (.ireturn, 1) := by decide +kernel
theorem dX9_judge_37 : decode cX9_judge 37 = .ok (.iinc 1 1, 3) := by decide +kernel
theorem dX9_judge_40 : decode cX9_judge 40 = .ok (.goto (-33), 3) := by decide +kernel
theorem dX9_judge_43 : decode cX9_judge 43 = .ok (.iconst (-1), 1) := by decide +kernel
theorem dX9_judge_44 : decode cX9_judge 44 = .ok (.ireturn, 1) := by decide +kernel
theorem dX9_tear_0 : decode cX9_tear 0 = .ok (.aload_n 0, 1) := by decide +kernel
theorem dX9_tear_1 : decode cX9_tear 1 = .ok (.getfield 125, 3) := by decide +kernel
theorem dX9_tear_4 : decode cX9_tear 4 = .ok (.aload_n 0, 1) := by decide +kernel
theorem dX9_tear_5 : decode cX9_tear 5 = .ok (.getfield 128, 3) := by decide +kernel
theorem dX9_tear_8 : decode cX9_tear 8 = .ok (.iadd, 1) := by decide +kernel
theorem dX9_tear_9 : decode cX9_tear 9 = .ok (.istore_n 1, 1) := by decide +kernel
theorem dX9_tear_10 : decode cX9_tear 10 = .ok (.aload_n 0, 1) := by decide +kernel
theorem dX9_tear_11 : decode cX9_tear 11 = .ok (.iconst 0, 1) := by decide +kernel
theorem dX9_tear_12 : decode cX9_tear 12 = .ok (.putfield 125, 3) := by decide +kernel
theorem dX9_tear_15 : decode cX9_tear 15 = .ok (.aload_n 0, 1) := by decide +kernel
theorem dX9_tear_16 : decode cX9_tear 16 = .ok (.iconst 0, 1) := by decide +kernel
theorem dX9_tear_17 : decode cX9_tear 17 = .ok (.putfield 128, 3) := by decide +kernel
theorem dX9_tear_20 : decode cX9_tear 20 = .ok (.iload_n 1, 1) := by decide +kernel
theorem dX9_tear_21 : decode cX9_tear 21 = .ok (.ireturn, 1) := by decide +kernel
theorem dX9_seed_0 : decode cX9_seed 0 = .ok (.iload_n 1, 1) := by decide +kernel
theorem dX9_seed_1 : decode cX9_seed 1 = .ok (.ifCond .ge 6, 3) := by decide +kernel
theorem dX9_seed_4 : decode cX9_seed 4 = .ok (.ldc 61, 2) := by decide +kernel
theorem dX9_seed_6 : decode cX9_seed 6 = .ok (.ireturn, 1) := by decide +kernel
theorem dX9_seed_7 : decode cX9_seed 7 = .ok (.aload_n 0, 1) := by decide +kernel
theorem dX9_seed_8 : decode cX9_seed 8 = .ok (.getfield 7, 3) := by decide +kernel
theorem dX9_seed_11 : decode cX9_seed 11 = .ok (.bipush 66, 2) := by decide +kernel
theorem dX9_seed_13 : decode cX9_seed 13 = .ok (.iaload, 1) := by decide +kernel
theorem dX9_seed_14 : decode cX9_seed 14 = .ok (.istore_n 2, 1) := by decide +kernel
theorem dX9_seed_15 : decode cX9_seed 15 = .ok (.aload_n 0, 1) := by decide +kernel
theorem dX9_seed_16 : decode cX9_seed 16 = .ok (.getfield 7, 3) := by decide +kernel
theorem dX9_seed_19 : decode cX9_seed 19 = .ok (.bipush 66, 2) := by decide +kernel
theorem dX9_seed_21 : decode cX9_seed 21 = .ok (.iload_n 1, 1) := by decide +kernel
theorem dX9_seed_22 : decode cX9_seed 22 = .ok (.iastore, 1) := by decide +kernel
theorem dX9_seed_23 : decode cX9_seed 23 = .ok (.iload_n 2, 1) := by decide +kernel
theorem dX9_seed_24 : decode cX9_seed 24 = .ok (.ireturn, 1) := by decide +kernel
theorem dX9_keep_0 : decode cX9_keep 0 = .ok (.iload_n 1, 1) := by decide +kernel
theorem dX9_keep_1 : decode cX9_keep 1 = .ok (.iconst 0, 1) := by decide +kernel
theorem dX9_keep_2 : decode cX9_keep 2 = .ok (.iconst 1, 1) := by decide +kernel
theorem dX9_keep_3 : decode cX9_keep 3 = .ok (.invokestatic 54, 3) := by decide +kernel
theorem dX9_keep_6 : decode cX9_keep 6 = .ok (.ifCond .ne 6, 3) := by decide +kernel
theorem dX9_keep_9 : decode cX9_keep 9 = .ok (.ldc 206, 2) := by decide +kernel
theorem dX9_keep_11 : decode cX9_keep 11 = .ok (.ireturn, 1) := by decide +kernel
theorem dX9_keep_12 : decode cX9_keep 12 = .ok (.aload_n 0, 1) := by decide +kernel
theorem dX9_keep_13 : decode cX9_keep 13 = .ok (.iconst 0, 1) := by decide +kernel
theorem dX9_keep_14 : decode cX9_keep 14 = .ok (.sipush 1407, 3) := by decide +kernel
theorem dX9_keep_17 : decode cX9_keep 17 = .ok (.bipush 67, 2) := by decide +kernel
theorem dX9_keep_19 : decode cX9_keep 19 = .ok (.iload_n 1, 1) := by decide +kernel
theorem dX9_keep_20 : decode cX9_keep 20 = .ok (.imul, 1) := by decide +kernel
theorem dX9_keep_21 : decode cX9_keep 21 = .ok (.iadd, 1) := by decide +kernel
theorem dX9_keep_22 : decode cX9_keep 22 = .ok (.invokevirtual 116, 3) := by decide +kernel
theorem dX9_keep_25 : decode cX9_keep 25 = .ok (.aload_n 0, 1) := by decide +kernel
theorem dX9_keep_26 : decode cX9_keep 26 = .ok (.dup, 1) := by decide +kernel
theorem dX9_keep_27 : decode cX9_keep 27 = .ok (.getfield 122, 3) := by decide +kernel
theorem dX9_keep_30 : decode cX9_keep 30 = .ok (.iconst 1, 1) := by decide +kernel
theorem dX9_keep_31 : decode cX9_keep 31 = .ok (.iload_n 1, 1) := by decide +kernel
theorem dX9_keep_32 : decode cX9_keep 32 = .ok (.ishl, 1) := by decide +kernel
theorem dX9_keep_33 : decode cX9_keep 33 = .ok (.ior, 1) := by decide +kernel
theorem dX9_keep_34 : decode cX9_keep 34 = .ok (.putfield 122, 3) := by decide +kernel
theorem dX9_keep_37 : decode cX9_keep 37 = .ok (.aload_n 0, 1) := by decide +kernel
theorem dX9_keep_38 : decode cX9_keep 38 = .ok (.iconst 0, 1) := by decide +kernel
theorem dX9_keep_39 : decode cX9_keep 39 = .ok (.putfield 119, 3) := by decide +kernel
theorem dX9_keep_42 : decode cX9_keep 42 = .ok (.iconst 1, 1) := by decide +kernel
theorem dX9_keep_43 : decode cX9_keep 43 = .ok (.ireturn, 1) := by decide +kernel
theorem dX9_goBack_0 : decode cX9_goBack 0 = .ok (.iload_n 1, 1) := by decide +kernel
theorem dX9_goBack_1 : decode cX9_goBack 1 = .ok (.iconst 0, 1) := by decide +kernel
theorem dX9_goBack_2 : decode cX9_goBack 2 = .ok (.iconst 1, 1) := by decide +kernel
theorem dX9_goBack_3 : decode cX9_goBack 3 = .ok (.invokestatic 54, 3) := by decide +kernel
theorem dX9_goBack_6 : decode cX9_goBack 6 = .ok (.ifCond .ne 6, 3) := by decide +kernel
theorem dX9_goBack_9 : decode cX9_goBack 9 = .ok (.ldc 206, 2) := by decide +kernel
theorem dX9_goBack_11 : decode cX9_goBack 11 = .ok (.ireturn, 1) := by decide +kernel
theorem dX9_goBack_12 : decode cX9_goBack 12 = .ok (.aload_n 0, 1) := by decide +kernel
theorem dX9_goBack_13 : decode cX9_goBack 13 = .ok (.getfield 122, 3) := by decide +kernel
theorem dX9_goBack_16 : decode cX9_goBack 16 = .ok (.iload_n 1, 1) := by decide +kernel
theorem dX9_goBack_17 : decode cX9_goBack 17 = .ok (.invokestatic 134, 3) := by decide +kernel
theorem dX9_goBack_20 : decode cX9_goBack 20 = .ok (.ifCond .ne 6, 3) := by decide +kernel
theorem dX9_goBack_23 : decode cX9_goBack 23 = .ok (.ldc 230, 2) := by decide +kernel
theorem dX9_goBack_25 : decode cX9_goBack 25 = .ok (.ireturn, 1) := by decide +kernel
theorem dX9_goBack_26 : decode cX9_goBack 26 = .ok (.aload_n 0, 1) := by decide +kernel
theorem dX9_goBack_27 : decode cX9_goBack 27 = .ok (.sipush 1407, 3) := by decide +kernel
theorem dX9_goBack_30 : decode cX9_goBack 30 = .ok (.bipush 67, 2) := by decide +kernel
theorem dX9_goBack_32 : decode cX9_goBack 32 = .ok (.iload_n 1, 1) := by decide +kernel
theorem dX9_goBack_33 : decode cX9_goBack 33 = .ok (.imul, 1) := by decide +kernel
theorem dX9_goBack_34 : decode cX9_goBack 34 = .ok (.iadd, 1) := by decide +kernel
theorem dX9_goBack_35 : decode cX9_goBack 35 = .ok (.iconst 0, 1) := by decide +kernel
theorem dX9_goBack_36 : decode cX9_goBack 36 = .ok (.invokevirtual 116, 3) := by decide +kernel
theorem dX9_goBack_39 : decode cX9_goBack 39 = .ok (.aload_n 0, 1) := by decide +kernel
theorem dX9_goBack_40 : decode cX9_goBack 40 = .ok (.iconst 0, 1) := by decide +kernel
theorem dX9_goBack_41 : decode cX9_goBack 41 = .ok (.putfield 119, 3) := by decide +kernel
theorem dX9_goBack_44 : decode cX9_goBack 44 = .ok (.iconst 1, 1) := by decide +kernel
theorem dX9_goBack_45 : decode cX9_goBack 45 = .ok (.ireturn, 1) := by decide +kernel
theorem dL_law_0 : decode cL_law 0 = .ok (.new 7, 3) := by decide +kernel
theorem dL_law_3 : decode cL_law 3 = .ok (.dup, 1) := by decide +kernel
theorem dL_law_4 : decode cL_law 4 = .ok (.invokespecial 9, 3) := by decide +kernel
theorem dL_law_7 : decode cL_law 7 = .ok (.astore_n 1, 1) := by decide +kernel
theorem dL_law_8 : decode cL_law 8 = .ok (.new 10, 3) := by decide +kernel
theorem dL_law_11 : decode cL_law 11 = .ok (.dup, 1) := by decide +kernel
theorem dL_law_12 : decode cL_law 12 = .ok (.invokespecial 12, 3) := by decide +kernel
theorem dL_law_15 : decode cL_law 15 = .ok (.astore_n 2, 1) := by decide +kernel
theorem dL_law_16 : decode cL_law 16 = .ok (.iconst 0, 1) := by decide +kernel
theorem dL_law_17 : decode cL_law 17 = .ok (.istore_n 3, 1) := by decide +kernel
theorem dL_law_18 : decode cL_law 18 = .ok (.iload_n 3, 1) := by decide +kernel
theorem dL_law_19 : decode cL_law 19 = .ok (.aload_n 0, 1) := by decide +kernel
theorem dL_law_20 : decode cL_law 20 = .ok (.arraylength, 1) := by decide +kernel
theorem dL_law_21 : decode cL_law 21 = .ok (.iconst 4, 1) := by decide +kernel
theorem dL_law_22 : decode cL_law 22 = .ok (.isub, 1) := by decide +kernel
theorem dL_law_23 : decode cL_law 23 = .ok (.if_icmp .gt 826, 3) := by decide +kernel
theorem dL_law_26 : decode cL_law 26 = .ok (.aload_n 0, 1) := by decide +kernel
theorem dL_law_27 : decode cL_law 27 = .ok (.iload_n 3, 1) := by decide +kernel
theorem dL_law_28 : decode cL_law 28 = .ok (.iaload, 1) := by decide +kernel
theorem dL_law_29 : decode cL_law 29 = .ok (.bipush 31, 2) := by decide +kernel
theorem dL_law_31 : decode cL_law 31 = .ok (.iand, 1) := by decide +kernel
theorem dL_law_32 : decode cL_law 32 = .ok (.tableswitch 811 0 26 #[124, 147, 160, 173, 196, 229, 262, 295, 338, 371, 404, 427, 440, 463, 486, 509, 542, 575, 608, 657, 670, 683, 716, 729, 742, 765, 788], 124) := by decide +kernel
theorem dL_law_156 : decode cL_law 156 = .ok (.aload_n 1, 1) := by decide +kernel
theorem dL_law_157 : decode cL_law 157 = .ok (.aload_n 0, 1) := by decide +kernel
theorem dL_law_158 : decode cL_law 158 = .ok (.iload_n 3, 1) := by decide +kernel
theorem dL_law_159 : decode cL_law 159 = .ok (.iconst 1, 1) := by decide +kernel
theorem dL_law_160 : decode cL_law 160 = .ok (.iadd, 1) := by decide +kernel
theorem dL_law_161 : decode cL_law 161 = .ok (.iaload, 1) := by decide +kernel
theorem dL_law_162 : decode cL_law 162 = .ok (.invokevirtual 13, 3) := by decide +kernel
theorem dL_law_165 : decode cL_law 165 = .ok (.aload_n 2, 1) := by decide +kernel
theorem dL_law_166 : decode cL_law 166 = .ok (.aload_n 0, 1) := by decide +kernel
theorem dL_law_167 : decode cL_law 167 = .ok (.iload_n 3, 1) := by decide +kernel
theorem dL_law_168 : decode cL_law 168 = .ok (.iconst 1, 1) := by decide +kernel
theorem dL_law_169 : decode cL_law 169 = .ok (.iadd, 1) := by decide +kernel
theorem dL_law_170 : decode cL_law 170 = .ok (.iaload, 1) := by decide +kernel
theorem dL_law_171 : decode cL_law 171 = .ok (.invokevirtual 17, 3) := by decide +kernel
theorem dL_law_174 : decode cL_law 174 = .ok (.if_icmp .eq 669, 3) := by decide +kernel
theorem dL_law_177 : decode cL_law 177 = .ok (.iconst 0, 1) := by decide +kernel
theorem dL_law_178 : decode cL_law 178 = .ok (.ireturn, 1) := by decide +kernel
theorem dL_law_179 : decode cL_law 179 = .ok (.aload_n 1, 1) := by decide +kernel
theorem dL_law_180 : decode cL_law 180 = .ok (.invokevirtual 18, 3) := by decide +kernel
theorem dL_law_183 : decode cL_law 183 = .ok (.aload_n 2, 1) := by decide +kernel
theorem dL_law_184 : decode cL_law 184 = .ok (.invokevirtual 22, 3) := by decide +kernel
theorem dL_law_187 : decode cL_law 187 = .ok (.if_icmp .eq 656, 3) := by decide +kernel
theorem dL_law_190 : decode cL_law 190 = .ok (.iconst 0, 1) := by decide +kernel
theorem dL_law_191 : decode cL_law 191 = .ok (.ireturn, 1) := by decide +kernel
theorem dL_law_192 : decode cL_law 192 = .ok (.aload_n 1, 1) := by decide +kernel
theorem dL_law_193 : decode cL_law 193 = .ok (.invokevirtual 23, 3) := by decide +kernel
theorem dL_law_196 : decode cL_law 196 = .ok (.aload_n 2, 1) := by decide +kernel
theorem dL_law_197 : decode cL_law 197 = .ok (.invokevirtual 26, 3) := by decide +kernel
theorem dL_law_200 : decode cL_law 200 = .ok (.if_icmp .eq 643, 3) := by decide +kernel
theorem dL_law_203 : decode cL_law 203 = .ok (.iconst 0, 1) := by decide +kernel
theorem dL_law_204 : decode cL_law 204 = .ok (.ireturn, 1) := by decide +kernel
theorem dL_law_205 : decode cL_law 205 = .ok (.aload_n 1, 1) := by decide +kernel
theorem dL_law_206 : decode cL_law 206 = .ok (.aload_n 0, 1) := by decide +kernel
theorem dL_law_207 : decode cL_law 207 = .ok (.iload_n 3, 1) := by decide +kernel
theorem dL_law_208 : decode cL_law 208 = .ok (.iconst 1, 1) := by decide +kernel
theorem dL_law_209 : decode cL_law 209 = .ok (.iadd, 1) := by decide +kernel
theorem dL_law_210 : decode cL_law 210 = .ok (.iaload, 1) := by decide +kernel
theorem dL_law_211 : decode cL_law 211 = .ok (.invokevirtual 27, 3) := by decide +kernel
theorem dL_law_214 : decode cL_law 214 = .ok (.aload_n 2, 1) := by decide +kernel
theorem dL_law_215 : decode cL_law 215 = .ok (.aload_n 0, 1) := by decide +kernel
theorem dL_law_216 : decode cL_law 216 = .ok (.iload_n 3, 1) := by decide +kernel
theorem dL_law_217 : decode cL_law 217 = .ok (.iconst 1, 1) := by decide +kernel
theorem dL_law_218 : decode cL_law 218 = .ok (.iadd, 1) := by decide +kernel
theorem dL_law_219 : decode cL_law 219 = .ok (.iaload, 1) := by decide +kernel
theorem dL_law_220 : decode cL_law 220 = .ok (.invokevirtual 30, 3) := by decide +kernel
theorem dL_law_223 : decode cL_law 223 = .ok (.if_icmp .eq 620, 3) := by decide +kernel
theorem dL_law_226 : decode cL_law 226 = .ok (.iconst 0, 1) := by decide +kernel
theorem dL_law_227 : decode cL_law 227 = .ok (.ireturn, 1) := by decide +kernel
theorem dL_law_228 : decode cL_law 228 = .ok (.aload_n 1, 1) := by decide +kernel
theorem dL_law_229 : decode cL_law 229 = .ok (.aload_n 0, 1) := by decide +kernel
theorem dL_law_230 : decode cL_law 230 = .ok (.iload_n 3, 1) := by decide +kernel
theorem dL_law_231 : decode cL_law 231 = .ok (.iconst 1, 1) := by decide +kernel
theorem dL_law_232 : decode cL_law 232 = .ok (.iadd, 1) := by decide +kernel
theorem dL_law_233 : decode cL_law 233 = .ok (.iaload, 1) := by decide +kernel
theorem dL_law_234 : decode cL_law 234 = .ok (.aload_n 0, 1) := by decide +kernel
theorem dL_law_235 : decode cL_law 235 = .ok (.iload_n 3, 1) := by decide +kernel
theorem dL_law_236 : decode cL_law 236 = .ok (.iconst 2, 1) := by decide +kernel
theorem dL_law_237 : decode cL_law 237 = .ok (.iadd, 1) := by decide +kernel
theorem dL_law_238 : decode cL_law 238 = .ok (.iaload, 1) := by decide +kernel
theorem dL_law_239 : decode cL_law 239 = .ok (.invokevirtual 31, 3) := by decide +kernel
theorem dL_law_242 : decode cL_law 242 = .ok (.aload_n 2, 1) := by decide +kernel
theorem dL_law_243 : decode cL_law 243 = .ok (.aload_n 0, 1) := by decide +kernel
theorem dL_law_244 : decode cL_law 244 = .ok (.iload_n 3, 1) := by decide +kernel
theorem dL_law_245 : decode cL_law 245 = .ok (.iconst 1, 1) := by decide +kernel
theorem dL_law_246 : decode cL_law 246 = .ok (.iadd, 1) := by decide +kernel
theorem dL_law_247 : decode cL_law 247 = .ok (.iaload, 1) := by decide +kernel
theorem dL_law_248 : decode cL_law 248 = .ok (.aload_n 0, 1) := by decide +kernel
theorem dL_law_249 : decode cL_law 249 = .ok (.iload_n 3, 1) := by decide +kernel
theorem dL_law_250 : decode cL_law 250 = .ok (.iconst 2, 1) := by decide +kernel
theorem dL_law_251 : decode cL_law 251 = .ok (.iadd, 1) := by decide +kernel
theorem dL_law_252 : decode cL_law 252 = .ok (.iaload, 1) := by decide +kernel
theorem dL_law_253 : decode cL_law 253 = .ok (.invokevirtual 35, 3) := by decide +kernel
theorem dL_law_256 : decode cL_law 256 = .ok (.if_icmp .eq 587, 3) := by decide +kernel
theorem dL_law_259 : decode cL_law 259 = .ok (.iconst 0, 1) := by decide +kernel
theorem dL_law_260 : decode cL_law 260 = .ok (.ireturn, 1) := by decide +kernel
theorem dL_law_261 : decode cL_law 261 = .ok (.aload_n 1, 1) := by decide +kernel
theorem dL_law_262 : decode cL_law 262 = .ok (.aload_n 0, 1) := by decide +kernel
theorem dL_law_263 : decode cL_law 263 = .ok (.iload_n 3, 1) := by decide +kernel
theorem dL_law_264 : decode cL_law 264 = .ok (.iconst 1, 1) := by decide +kernel
theorem dL_law_265 : decode cL_law 265 = .ok (.iadd, 1) := by decide +kernel
theorem dL_law_266 : decode cL_law 266 = .ok (.iaload, 1) := by decide +kernel
theorem dL_law_267 : decode cL_law 267 = .ok (.aload_n 0, 1) := by decide +kernel
theorem dL_law_268 : decode cL_law 268 = .ok (.iload_n 3, 1) := by decide +kernel
theorem dL_law_269 : decode cL_law 269 = .ok (.iconst 2, 1) := by decide +kernel
theorem dL_law_270 : decode cL_law 270 = .ok (.iadd, 1) := by decide +kernel
theorem dL_law_271 : decode cL_law 271 = .ok (.iaload, 1) := by decide +kernel
theorem dL_law_272 : decode cL_law 272 = .ok (.invokevirtual 36, 3) := by decide +kernel
theorem dL_law_275 : decode cL_law 275 = .ok (.aload_n 2, 1) := by decide +kernel
theorem dL_law_276 : decode cL_law 276 = .ok (.aload_n 0, 1) := by decide +kernel
theorem dL_law_277 : decode cL_law 277 = .ok (.iload_n 3, 1) := by decide +kernel
theorem dL_law_278 : decode cL_law 278 = .ok (.iconst 1, 1) := by decide +kernel
theorem dL_law_279 : decode cL_law 279 = .ok (.iadd, 1) := by decide +kernel
theorem dL_law_280 : decode cL_law 280 = .ok (.iaload, 1) := by decide +kernel
theorem dL_law_281 : decode cL_law 281 = .ok (.aload_n 0, 1) := by decide +kernel
theorem dL_law_282 : decode cL_law 282 = .ok (.iload_n 3, 1) := by decide +kernel
theorem dL_law_283 : decode cL_law 283 = .ok (.iconst 2, 1) := by decide +kernel
theorem dL_law_284 : decode cL_law 284 = .ok (.iadd, 1) := by decide +kernel
theorem dL_law_285 : decode cL_law 285 = .ok (.iaload, 1) := by decide +kernel
theorem dL_law_286 : decode cL_law 286 = .ok (.invokevirtual 39, 3) := by decide +kernel
theorem dL_law_289 : decode cL_law 289 = .ok (.if_icmp .eq 554, 3) := by decide +kernel
theorem dL_law_292 : decode cL_law 292 = .ok (.iconst 0, 1) := by decide +kernel
theorem dL_law_293 : decode cL_law 293 = .ok (.ireturn, 1) := by decide +kernel
theorem dL_law_294 : decode cL_law 294 = .ok (.aload_n 1, 1) := by decide +kernel
theorem dL_law_295 : decode cL_law 295 = .ok (.aload_n 0, 1) := by decide +kernel
theorem dL_law_296 : decode cL_law 296 = .ok (.iload_n 3, 1) := by decide +kernel
theorem dL_law_297 : decode cL_law 297 = .ok (.iconst 1, 1) := by decide +kernel
theorem dL_law_298 : decode cL_law 298 = .ok (.iadd, 1) := by decide +kernel
theorem dL_law_299 : decode cL_law 299 = .ok (.iaload, 1) := by decide +kernel
theorem dL_law_300 : decode cL_law 300 = .ok (.aload_n 0, 1) := by decide +kernel
theorem dL_law_301 : decode cL_law 301 = .ok (.iload_n 3, 1) := by decide +kernel
theorem dL_law_302 : decode cL_law 302 = .ok (.iconst 2, 1) := by decide +kernel
theorem dL_law_303 : decode cL_law 303 = .ok (.iadd, 1) := by decide +kernel
theorem dL_law_304 : decode cL_law 304 = .ok (.iaload, 1) := by decide +kernel
theorem dL_law_305 : decode cL_law 305 = .ok (.invokevirtual 40, 3) := by decide +kernel
theorem dL_law_308 : decode cL_law 308 = .ok (.aload_n 2, 1) := by decide +kernel
theorem dL_law_309 : decode cL_law 309 = .ok (.aload_n 0, 1) := by decide +kernel
theorem dL_law_310 : decode cL_law 310 = .ok (.iload_n 3, 1) := by decide +kernel
theorem dL_law_311 : decode cL_law 311 = .ok (.iconst 1, 1) := by decide +kernel
theorem dL_law_312 : decode cL_law 312 = .ok (.iadd, 1) := by decide +kernel
theorem dL_law_313 : decode cL_law 313 = .ok (.iaload, 1) := by decide +kernel
theorem dL_law_314 : decode cL_law 314 = .ok (.aload_n 0, 1) := by decide +kernel
theorem dL_law_315 : decode cL_law 315 = .ok (.iload_n 3, 1) := by decide +kernel
theorem dL_law_316 : decode cL_law 316 = .ok (.iconst 2, 1) := by decide +kernel
theorem dL_law_317 : decode cL_law 317 = .ok (.iadd, 1) := by decide +kernel
theorem dL_law_318 : decode cL_law 318 = .ok (.iaload, 1) := by decide +kernel
theorem dL_law_319 : decode cL_law 319 = .ok (.invokevirtual 43, 3) := by decide +kernel
theorem dL_law_322 : decode cL_law 322 = .ok (.if_icmp .eq 521, 3) := by decide +kernel
theorem dL_law_325 : decode cL_law 325 = .ok (.iconst 0, 1) := by decide +kernel
theorem dL_law_326 : decode cL_law 326 = .ok (.ireturn, 1) := by decide +kernel
theorem dL_law_327 : decode cL_law 327 = .ok (.aload_n 1, 1) := by decide +kernel
theorem dL_law_328 : decode cL_law 328 = .ok (.aload_n 0, 1) := by decide +kernel
theorem dL_law_329 : decode cL_law 329 = .ok (.iload_n 3, 1) := by decide +kernel
theorem dL_law_330 : decode cL_law 330 = .ok (.iconst 1, 1) := by decide +kernel
theorem dL_law_331 : decode cL_law 331 = .ok (.iadd, 1) := by decide +kernel
theorem dL_law_332 : decode cL_law 332 = .ok (.iaload, 1) := by decide +kernel
theorem dL_law_333 : decode cL_law 333 = .ok (.aload_n 0, 1) := by decide +kernel
theorem dL_law_334 : decode cL_law 334 = .ok (.iload_n 3, 1) := by decide +kernel
theorem dL_law_335 : decode cL_law 335 = .ok (.iconst 2, 1) := by decide +kernel
theorem dL_law_336 : decode cL_law 336 = .ok (.iadd, 1) := by decide +kernel
theorem dL_law_337 : decode cL_law 337 = .ok (.iaload, 1) := by decide +kernel
theorem dL_law_338 : decode cL_law 338 = .ok (.aload_n 0, 1) := by decide +kernel
theorem dL_law_339 : decode cL_law 339 = .ok (.iload_n 3, 1) := by decide +kernel
theorem dL_law_340 : decode cL_law 340 = .ok (.iconst 3, 1) := by decide +kernel
theorem dL_law_341 : decode cL_law 341 = .ok (.iadd, 1) := by decide +kernel
theorem dL_law_342 : decode cL_law 342 = .ok (.iaload, 1) := by decide +kernel
theorem dL_law_343 : decode cL_law 343 = .ok (.invokevirtual 44, 3) := by decide +kernel
theorem dL_law_346 : decode cL_law 346 = .ok (.aload_n 2, 1) := by decide +kernel
theorem dL_law_347 : decode cL_law 347 = .ok (.aload_n 0, 1) := by decide +kernel
theorem dL_law_348 : decode cL_law 348 = .ok (.iload_n 3, 1) := by decide +kernel
theorem dL_law_349 : decode cL_law 349 = .ok (.iconst 1, 1) := by decide +kernel
theorem dL_law_350 : decode cL_law 350 = .ok (.iadd, 1) := by decide +kernel
theorem dL_law_351 : decode cL_law 351 = .ok (.iaload, 1) := by decide +kernel
theorem dL_law_352 : decode cL_law 352 = .ok (.aload_n 0, 1) := by decide +kernel
theorem dL_law_353 : decode cL_law 353 = .ok (.iload_n 3, 1) := by decide +kernel
theorem dL_law_354 : decode cL_law 354 = .ok (.iconst 2, 1) := by decide +kernel
theorem dL_law_355 : decode cL_law 355 = .ok (.iadd, 1) := by decide +kernel
theorem dL_law_356 : decode cL_law 356 = .ok (.iaload, 1) := by decide +kernel
theorem dL_law_357 : decode cL_law 357 = .ok (.aload_n 0, 1) := by decide +kernel
theorem dL_law_358 : decode cL_law 358 = .ok (.iload_n 3, 1) := by decide +kernel
theorem dL_law_359 : decode cL_law 359 = .ok (.iconst 3, 1) := by decide +kernel
theorem dL_law_360 : decode cL_law 360 = .ok (.iadd, 1) := by decide +kernel
theorem dL_law_361 : decode cL_law 361 = .ok (.iaload, 1) := by decide +kernel
theorem dL_law_362 : decode cL_law 362 = .ok (.invokevirtual 48, 3) := by decide +kernel
theorem dL_law_365 : decode cL_law 365 = .ok (.if_icmp .eq 478, 3) := by decide +kernel
theorem dL_law_368 : decode cL_law 368 = .ok (.iconst 0, 1) := by decide +kernel
theorem dL_law_369 : decode cL_law 369 = .ok (.ireturn, 1) := by decide +kernel
theorem dL_law_370 : decode cL_law 370 = .ok (.aload_n 1, 1) := by decide +kernel
theorem dL_law_371 : decode cL_law 371 = .ok (.aload_n 0, 1) := by decide +kernel
theorem dL_law_372 : decode cL_law 372 = .ok (.iload_n 3, 1) := by decide +kernel
theorem dL_law_373 : decode cL_law 373 = .ok (.iconst 1, 1) := by decide +kernel
theorem dL_law_374 : decode cL_law 374 = .ok (.iadd, 1) := by decide +kernel
theorem dL_law_375 : decode cL_law 375 = .ok (.iaload, 1) := by decide +kernel
theorem dL_law_376 : decode cL_law 376 = .ok (.aload_n 0, 1) := by decide +kernel
theorem dL_law_377 : decode cL_law 377 = .ok (.iload_n 3, 1) := by decide +kernel
theorem dL_law_378 : decode cL_law 378 = .ok (.iconst 2, 1) := by decide +kernel
theorem dL_law_379 : decode cL_law 379 = .ok (.iadd, 1) := by decide +kernel
theorem dL_law_380 : decode cL_law 380 = .ok (.iaload, 1) := by decide +kernel
theorem dL_law_381 : decode cL_law 381 = .ok (.invokevirtual 49, 3) := by decide +kernel
theorem dL_law_384 : decode cL_law 384 = .ok (.aload_n 2, 1) := by decide +kernel
theorem dL_law_385 : decode cL_law 385 = .ok (.aload_n 0, 1) := by decide +kernel
theorem dL_law_386 : decode cL_law 386 = .ok (.iload_n 3, 1) := by decide +kernel
theorem dL_law_387 : decode cL_law 387 = .ok (.iconst 1, 1) := by decide +kernel
theorem dL_law_388 : decode cL_law 388 = .ok (.iadd, 1) := by decide +kernel
theorem dL_law_389 : decode cL_law 389 = .ok (.iaload, 1) := by decide +kernel
theorem dL_law_390 : decode cL_law 390 = .ok (.aload_n 0, 1) := by decide +kernel
theorem dL_law_391 : decode cL_law 391 = .ok (.iload_n 3, 1) := by decide +kernel
theorem dL_law_392 : decode cL_law 392 = .ok (.iconst 2, 1) := by decide +kernel
theorem dL_law_393 : decode cL_law 393 = .ok (.iadd, 1) := by decide +kernel
theorem dL_law_394 : decode cL_law 394 = .ok (.iaload, 1) := by decide +kernel
theorem dL_law_395 : decode cL_law 395 = .ok (.invokevirtual 52, 3) := by decide +kernel
theorem dL_law_398 : decode cL_law 398 = .ok (.if_icmp .eq 445, 3) := by decide +kernel
theorem dL_law_401 : decode cL_law 401 = .ok (.iconst 0, 1) := by decide +kernel
theorem dL_law_402 : decode cL_law 402 = .ok (.ireturn, 1) := by decide +kernel
theorem dL_law_403 : decode cL_law 403 = .ok (.aload_n 1, 1) := by decide +kernel
theorem dL_law_404 : decode cL_law 404 = .ok (.aload_n 0, 1) := by decide +kernel
theorem dL_law_405 : decode cL_law 405 = .ok (.iload_n 3, 1) := by decide +kernel
theorem dL_law_406 : decode cL_law 406 = .ok (.iconst 1, 1) := by decide +kernel
theorem dL_law_407 : decode cL_law 407 = .ok (.iadd, 1) := by decide +kernel
theorem dL_law_408 : decode cL_law 408 = .ok (.iaload, 1) := by decide +kernel
theorem dL_law_409 : decode cL_law 409 = .ok (.aload_n 0, 1) := by decide +kernel
theorem dL_law_410 : decode cL_law 410 = .ok (.iload_n 3, 1) := by decide +kernel
theorem dL_law_411 : decode cL_law 411 = .ok (.iconst 2, 1) := by decide +kernel
theorem dL_law_412 : decode cL_law 412 = .ok (.iadd, 1) := by decide +kernel
theorem dL_law_413 : decode cL_law 413 = .ok (.iaload, 1) := by decide +kernel
theorem dL_law_414 : decode cL_law 414 = .ok (.invokevirtual 53, 3) := by decide +kernel
theorem dL_law_417 : decode cL_law 417 = .ok (.aload_n 2, 1) := by decide +kernel
theorem dL_law_418 : decode cL_law 418 = .ok (.aload_n 0, 1) := by decide +kernel
theorem dL_law_419 : decode cL_law 419 = .ok (.iload_n 3, 1) := by decide +kernel
theorem dL_law_420 : decode cL_law 420 = .ok (.iconst 1, 1) := by decide +kernel
theorem dL_law_421 : decode cL_law 421 = .ok (.iadd, 1) := by decide +kernel
theorem dL_law_422 : decode cL_law 422 = .ok (.iaload, 1) := by decide +kernel
theorem dL_law_423 : decode cL_law 423 = .ok (.aload_n 0, 1) := by decide +kernel
theorem dL_law_424 : decode cL_law 424 = .ok (.iload_n 3, 1) := by decide +kernel
theorem dL_law_425 : decode cL_law 425 = .ok (.iconst 2, 1) := by decide +kernel
theorem dL_law_426 : decode cL_law 426 = .ok (.iadd, 1) := by decide +kernel
theorem dL_law_427 : decode cL_law 427 = .ok (.iaload, 1) := by decide +kernel
theorem dL_law_428 : decode cL_law 428 = .ok (.invokevirtual 56, 3) := by decide +kernel
theorem dL_law_431 : decode cL_law 431 = .ok (.if_icmp .eq 412, 3) := by decide +kernel
theorem dL_law_434 : decode cL_law 434 = .ok (.iconst 0, 1) := by decide +kernel
theorem dL_law_435 : decode cL_law 435 = .ok (.ireturn, 1) := by decide +kernel
theorem dL_law_436 : decode cL_law 436 = .ok (.aload_n 1, 1) := by decide +kernel
theorem dL_law_437 : decode cL_law 437 = .ok (.aload_n 0, 1) := by decide +kernel
theorem dL_law_438 : decode cL_law 438 = .ok (.iload_n 3, 1) := by decide +kernel
theorem dL_law_439 : decode cL_law 439 = .ok (.iconst 1, 1) := by decide +kernel
theorem dL_law_440 : decode cL_law 440 = .ok (.iadd, 1) := by decide +kernel
theorem dL_law_441 : decode cL_law 441 = .ok (.iaload, 1) := by decide +kernel
theorem dL_law_442 : decode cL_law 442 = .ok (.invokevirtual 57, 3) := by decide +kernel
theorem dL_law_445 : decode cL_law 445 = .ok (.aload_n 2, 1) := by decide +kernel
theorem dL_law_446 : decode cL_law 446 = .ok (.aload_n 0, 1) := by decide +kernel
theorem dL_law_447 : decode cL_law 447 = .ok (.iload_n 3, 1) := by decide +kernel
theorem dL_law_448 : decode cL_law 448 = .ok (.iconst 1, 1) := by decide +kernel
theorem dL_law_449 : decode cL_law 449 = .ok (.iadd, 1) := by decide +kernel
theorem dL_law_450 : decode cL_law 450 = .ok (.iaload, 1) := by decide +kernel
theorem dL_law_451 : decode cL_law 451 = .ok (.invokevirtual 60, 3) := by decide +kernel
theorem dL_law_454 : decode cL_law 454 = .ok (.if_icmp .eq 389, 3) := by decide +kernel
theorem dL_law_457 : decode cL_law 457 = .ok (.iconst 0, 1) := by decide +kernel
theorem dL_law_458 : decode cL_law 458 = .ok (.ireturn, 1) := by decide +kernel
theorem dL_law_459 : decode cL_law 459 = .ok (.aload_n 1, 1) := by decide +kernel
theorem dL_law_460 : decode cL_law 460 = .ok (.invokevirtual 61, 3) := by decide +kernel
theorem dL_law_463 : decode cL_law 463 = .ok (.aload_n 2, 1) := by decide +kernel
theorem dL_law_464 : decode cL_law 464 = .ok (.invokevirtual 64, 3) := by decide +kernel
theorem dL_law_467 : decode cL_law 467 = .ok (.if_icmp .eq 376, 3) := by decide +kernel
theorem dL_law_470 : decode cL_law 470 = .ok (.iconst 0, 1) := by decide +kernel
theorem dL_law_471 : decode cL_law 471 = .ok (.ireturn, 1) := by decide +kernel
theorem dL_law_472 : decode cL_law 472 = .ok (.aload_n 1, 1) := by decide +kernel
theorem dL_law_473 : decode cL_law 473 = .ok (.aload_n 0, 1) := by decide +kernel
theorem dL_law_474 : decode cL_law 474 = .ok (.iload_n 3, 1) := by decide +kernel
theorem dL_law_475 : decode cL_law 475 = .ok (.iconst 1, 1) := by decide +kernel
theorem dL_law_476 : decode cL_law 476 = .ok (.iadd, 1) := by decide +kernel
theorem dL_law_477 : decode cL_law 477 = .ok (.iaload, 1) := by decide +kernel
theorem dL_law_478 : decode cL_law 478 = .ok (.invokevirtual 65, 3) := by decide +kernel
theorem dL_law_481 : decode cL_law 481 = .ok (.aload_n 2, 1) := by decide +kernel
theorem dL_law_482 : decode cL_law 482 = .ok (.aload_n 0, 1) := by decide +kernel
theorem dL_law_483 : decode cL_law 483 = .ok (.iload_n 3, 1) := by decide +kernel
theorem dL_law_484 : decode cL_law 484 = .ok (.iconst 1, 1) := by decide +kernel
theorem dL_law_485 : decode cL_law 485 = .ok (.iadd, 1) := by decide +kernel
theorem dL_law_486 : decode cL_law 486 = .ok (.iaload, 1) := by decide +kernel
theorem dL_law_487 : decode cL_law 487 = .ok (.invokevirtual 68, 3) := by decide +kernel
theorem dL_law_490 : decode cL_law 490 = .ok (.if_icmp .eq 353, 3) := by decide +kernel
theorem dL_law_493 : decode cL_law 493 = .ok (.iconst 0, 1) := by decide +kernel
theorem dL_law_494 : decode cL_law 494 = .ok (.ireturn, 1) := by decide +kernel
theorem dL_law_495 : decode cL_law 495 = .ok (.aload_n 1, 1) := by decide +kernel
theorem dL_law_496 : decode cL_law 496 = .ok (.aload_n 0, 1) := by decide +kernel
theorem dL_law_497 : decode cL_law 497 = .ok (.iload_n 3, 1) := by decide +kernel
theorem dL_law_498 : decode cL_law 498 = .ok (.iconst 1, 1) := by decide +kernel
theorem dL_law_499 : decode cL_law 499 = .ok (.iadd, 1) := by decide +kernel
theorem dL_law_500 : decode cL_law 500 = .ok (.iaload, 1) := by decide +kernel
theorem dL_law_501 : decode cL_law 501 = .ok (.invokevirtual 69, 3) := by decide +kernel
theorem dL_law_504 : decode cL_law 504 = .ok (.aload_n 2, 1) := by decide +kernel
theorem dL_law_505 : decode cL_law 505 = .ok (.aload_n 0, 1) := by decide +kernel
theorem dL_law_506 : decode cL_law 506 = .ok (.iload_n 3, 1) := by decide +kernel
theorem dL_law_507 : decode cL_law 507 = .ok (.iconst 1, 1) := by decide +kernel
theorem dL_law_508 : decode cL_law 508 = .ok (.iadd, 1) := by decide +kernel
theorem dL_law_509 : decode cL_law 509 = .ok (.iaload, 1) := by decide +kernel
theorem dL_law_510 : decode cL_law 510 = .ok (.invokevirtual 72, 3) := by decide +kernel
theorem dL_law_513 : decode cL_law 513 = .ok (.if_icmp .eq 330, 3) := by decide +kernel
theorem dL_law_516 : decode cL_law 516 = .ok (.iconst 0, 1) := by decide +kernel
theorem dL_law_517 : decode cL_law 517 = .ok (.ireturn, 1) := by decide +kernel
theorem dL_law_518 : decode cL_law 518 = .ok (.aload_n 1, 1) := by decide +kernel
theorem dL_law_519 : decode cL_law 519 = .ok (.aload_n 0, 1) := by decide +kernel
theorem dL_law_520 : decode cL_law 520 = .ok (.iload_n 3, 1) := by decide +kernel
theorem dL_law_521 : decode cL_law 521 = .ok (.iconst 1, 1) := by decide +kernel
theorem dL_law_522 : decode cL_law 522 = .ok (.iadd, 1) := by decide +kernel
theorem dL_law_523 : decode cL_law 523 = .ok (.iaload, 1) := by decide +kernel
theorem dL_law_524 : decode cL_law 524 = .ok (.invokevirtual 73, 3) := by decide +kernel
theorem dL_law_527 : decode cL_law 527 = .ok (.aload_n 2, 1) := by decide +kernel
theorem dL_law_528 : decode cL_law 528 = .ok (.aload_n 0, 1) := by decide +kernel
theorem dL_law_529 : decode cL_law 529 = .ok (.iload_n 3, 1) := by decide +kernel
theorem dL_law_530 : decode cL_law 530 = .ok (.iconst 1, 1) := by decide +kernel
theorem dL_law_531 : decode cL_law 531 = .ok (.iadd, 1) := by decide +kernel
theorem dL_law_532 : decode cL_law 532 = .ok (.iaload, 1) := by decide +kernel
theorem dL_law_533 : decode cL_law 533 = .ok (.invokevirtual 76, 3) := by decide +kernel
theorem dL_law_536 : decode cL_law 536 = .ok (.if_icmp .eq 307, 3) := by decide +kernel
theorem dL_law_539 : decode cL_law 539 = .ok (.iconst 0, 1) := by decide +kernel
theorem dL_law_540 : decode cL_law 540 = .ok (.ireturn, 1) := by decide +kernel
theorem dL_law_541 : decode cL_law 541 = .ok (.aload_n 1, 1) := by decide +kernel
theorem dL_law_542 : decode cL_law 542 = .ok (.aload_n 0, 1) := by decide +kernel
theorem dL_law_543 : decode cL_law 543 = .ok (.iload_n 3, 1) := by decide +kernel
theorem dL_law_544 : decode cL_law 544 = .ok (.iconst 1, 1) := by decide +kernel
theorem dL_law_545 : decode cL_law 545 = .ok (.iadd, 1) := by decide +kernel
theorem dL_law_546 : decode cL_law 546 = .ok (.iaload, 1) := by decide +kernel
theorem dL_law_547 : decode cL_law 547 = .ok (.aload_n 0, 1) := by decide +kernel
theorem dL_law_548 : decode cL_law 548 = .ok (.iload_n 3, 1) := by decide +kernel
theorem dL_law_549 : decode cL_law 549 = .ok (.iconst 2, 1) := by decide +kernel
theorem dL_law_550 : decode cL_law 550 = .ok (.iadd, 1) := by decide +kernel
theorem dL_law_551 : decode cL_law 551 = .ok (.iaload, 1) := by decide +kernel
theorem dL_law_552 : decode cL_law 552 = .ok (.invokevirtual 77, 3) := by decide +kernel
theorem dL_law_555 : decode cL_law 555 = .ok (.aload_n 2, 1) := by decide +kernel
theorem dL_law_556 : decode cL_law 556 = .ok (.aload_n 0, 1) := by decide +kernel
theorem dL_law_557 : decode cL_law 557 = .ok (.iload_n 3, 1) := by decide +kernel
theorem dL_law_558 : decode cL_law 558 = .ok (.iconst 1, 1) := by decide +kernel
theorem dL_law_559 : decode cL_law 559 = .ok (.iadd, 1) := by decide +kernel
theorem dL_law_560 : decode cL_law 560 = .ok (.iaload, 1) := by decide +kernel
theorem dL_law_561 : decode cL_law 561 = .ok (.aload_n 0, 1) := by decide +kernel
theorem dL_law_562 : decode cL_law 562 = .ok (.iload_n 3, 1) := by decide +kernel
theorem dL_law_563 : decode cL_law 563 = .ok (.iconst 2, 1) := by decide +kernel
theorem dL_law_564 : decode cL_law 564 = .ok (.iadd, 1) := by decide +kernel
theorem dL_law_565 : decode cL_law 565 = .ok (.iaload, 1) := by decide +kernel
theorem dL_law_566 : decode cL_law 566 = .ok (.invokevirtual 80, 3) := by decide +kernel
theorem dL_law_569 : decode cL_law 569 = .ok (.if_icmp .eq 274, 3) := by decide +kernel
theorem dL_law_572 : decode cL_law 572 = .ok (.iconst 0, 1) := by decide +kernel
theorem dL_law_573 : decode cL_law 573 = .ok (.ireturn, 1) := by decide +kernel
theorem dL_law_574 : decode cL_law 574 = .ok (.aload_n 1, 1) := by decide +kernel
theorem dL_law_575 : decode cL_law 575 = .ok (.aload_n 0, 1) := by decide +kernel
theorem dL_law_576 : decode cL_law 576 = .ok (.iload_n 3, 1) := by decide +kernel
theorem dL_law_577 : decode cL_law 577 = .ok (.iconst 1, 1) := by decide +kernel
theorem dL_law_578 : decode cL_law 578 = .ok (.iadd, 1) := by decide +kernel
theorem dL_law_579 : decode cL_law 579 = .ok (.iaload, 1) := by decide +kernel
theorem dL_law_580 : decode cL_law 580 = .ok (.aload_n 0, 1) := by decide +kernel
theorem dL_law_581 : decode cL_law 581 = .ok (.iload_n 3, 1) := by decide +kernel
theorem dL_law_582 : decode cL_law 582 = .ok (.iconst 2, 1) := by decide +kernel
theorem dL_law_583 : decode cL_law 583 = .ok (.iadd, 1) := by decide +kernel
theorem dL_law_584 : decode cL_law 584 = .ok (.iaload, 1) := by decide +kernel
theorem dL_law_585 : decode cL_law 585 = .ok (.invokevirtual 81, 3) := by decide +kernel
theorem dL_law_588 : decode cL_law 588 = .ok (.aload_n 2, 1) := by decide +kernel
theorem dL_law_589 : decode cL_law 589 = .ok (.aload_n 0, 1) := by decide +kernel
theorem dL_law_590 : decode cL_law 590 = .ok (.iload_n 3, 1) := by decide +kernel
theorem dL_law_591 : decode cL_law 591 = .ok (.iconst 1, 1) := by decide +kernel
theorem dL_law_592 : decode cL_law 592 = .ok (.iadd, 1) := by decide +kernel
theorem dL_law_593 : decode cL_law 593 = .ok (.iaload, 1) := by decide +kernel
theorem dL_law_594 : decode cL_law 594 = .ok (.aload_n 0, 1) := by decide +kernel
theorem dL_law_595 : decode cL_law 595 = .ok (.iload_n 3, 1) := by decide +kernel
theorem dL_law_596 : decode cL_law 596 = .ok (.iconst 2, 1) := by decide +kernel
theorem dL_law_597 : decode cL_law 597 = .ok (.iadd, 1) := by decide +kernel
theorem dL_law_598 : decode cL_law 598 = .ok (.iaload, 1) := by decide +kernel
theorem dL_law_599 : decode cL_law 599 = .ok (.invokevirtual 84, 3) := by decide +kernel
theorem dL_law_602 : decode cL_law 602 = .ok (.if_icmp .eq 241, 3) := by decide +kernel
theorem dL_law_605 : decode cL_law 605 = .ok (.iconst 0, 1) := by decide +kernel
theorem dL_law_606 : decode cL_law 606 = .ok (.ireturn, 1) := by decide +kernel
theorem dL_law_607 : decode cL_law 607 = .ok (.aload_n 1, 1) := by decide +kernel
theorem dL_law_608 : decode cL_law 608 = .ok (.aload_n 0, 1) := by decide +kernel
theorem dL_law_609 : decode cL_law 609 = .ok (.iload_n 3, 1) := by decide +kernel
theorem dL_law_610 : decode cL_law 610 = .ok (.iconst 1, 1) := by decide +kernel
theorem dL_law_611 : decode cL_law 611 = .ok (.iadd, 1) := by decide +kernel
theorem dL_law_612 : decode cL_law 612 = .ok (.iaload, 1) := by decide +kernel
theorem dL_law_613 : decode cL_law 613 = .ok (.aload_n 0, 1) := by decide +kernel
theorem dL_law_614 : decode cL_law 614 = .ok (.iload_n 3, 1) := by decide +kernel
theorem dL_law_615 : decode cL_law 615 = .ok (.iconst 2, 1) := by decide +kernel
theorem dL_law_616 : decode cL_law 616 = .ok (.iadd, 1) := by decide +kernel
theorem dL_law_617 : decode cL_law 617 = .ok (.iaload, 1) := by decide +kernel
theorem dL_law_618 : decode cL_law 618 = .ok (.invokevirtual 85, 3) := by decide +kernel
theorem dL_law_621 : decode cL_law 621 = .ok (.aload_n 2, 1) := by decide +kernel
theorem dL_law_622 : decode cL_law 622 = .ok (.aload_n 0, 1) := by decide +kernel
theorem dL_law_623 : decode cL_law 623 = .ok (.iload_n 3, 1) := by decide +kernel
theorem dL_law_624 : decode cL_law 624 = .ok (.iconst 1, 1) := by decide +kernel
theorem dL_law_625 : decode cL_law 625 = .ok (.iadd, 1) := by decide +kernel
theorem dL_law_626 : decode cL_law 626 = .ok (.iaload, 1) := by decide +kernel
theorem dL_law_627 : decode cL_law 627 = .ok (.aload_n 0, 1) := by decide +kernel
theorem dL_law_628 : decode cL_law 628 = .ok (.iload_n 3, 1) := by decide +kernel
theorem dL_law_629 : decode cL_law 629 = .ok (.iconst 2, 1) := by decide +kernel
theorem dL_law_630 : decode cL_law 630 = .ok (.iadd, 1) := by decide +kernel
theorem dL_law_631 : decode cL_law 631 = .ok (.iaload, 1) := by decide +kernel
theorem dL_law_632 : decode cL_law 632 = .ok (.invokevirtual 88, 3) := by decide +kernel
theorem dL_law_635 : decode cL_law 635 = .ok (.if_icmp .eq 208, 3) := by decide +kernel
theorem dL_law_638 : decode cL_law 638 = .ok (.iconst 0, 1) := by decide +kernel
theorem dL_law_639 : decode cL_law 639 = .ok (.ireturn, 1) := by decide +kernel
theorem dL_law_640 : decode cL_law 640 = .ok (.aload_n 1, 1) := by decide +kernel
theorem dL_law_641 : decode cL_law 641 = .ok (.aload_n 0, 1) := by decide +kernel
theorem dL_law_642 : decode cL_law 642 = .ok (.iload_n 3, 1) := by decide +kernel
theorem dL_law_643 : decode cL_law 643 = .ok (.iconst 1, 1) := by decide +kernel
theorem dL_law_644 : decode cL_law 644 = .ok (.iadd, 1) := by decide +kernel
theorem dL_law_645 : decode cL_law 645 = .ok (.iaload, 1) := by decide +kernel
theorem dL_law_646 : decode cL_law 646 = .ok (.aload_n 0, 1) := by decide +kernel
theorem dL_law_647 : decode cL_law 647 = .ok (.iload_n 3, 1) := by decide +kernel
theorem dL_law_648 : decode cL_law 648 = .ok (.iconst 2, 1) := by decide +kernel
theorem dL_law_649 : decode cL_law 649 = .ok (.iadd, 1) := by decide +kernel
theorem dL_law_650 : decode cL_law 650 = .ok (.iaload, 1) := by decide +kernel
theorem dL_law_651 : decode cL_law 651 = .ok (.ifCond .eq 7, 3) := by decide +kernel
theorem dL_law_654 : decode cL_law 654 = .ok (.iconst 1, 1) := by decide +kernel
theorem dL_law_655 : decode cL_law 655 = .ok (.goto 4, 3) := by decide +kernel
theorem dL_law_658 : decode cL_law 658 = .ok (.iconst 0, 1) := by decide +kernel
theorem dL_law_659 : decode cL_law 659 = .ok (.invokevirtual 89, 3) := by decide +kernel
theorem dL_law_662 : decode cL_law 662 = .ok (.aload_n 2, 1) := by decide +kernel
theorem dL_law_663 : decode cL_law 663 = .ok (.aload_n 0, 1) := by decide +kernel
theorem dL_law_664 : decode cL_law 664 = .ok (.iload_n 3, 1) := by decide +kernel
theorem dL_law_665 : decode cL_law 665 = .ok (.iconst 1, 1) := by decide +kernel
theorem dL_law_666 : decode cL_law 666 = .ok (.iadd, 1) := by decide +kernel
theorem dL_law_667 : decode cL_law 667 = .ok (.iaload, 1) := by decide +kernel
theorem dL_law_668 : decode cL_law 668 = .ok (.aload_n 0, 1) := by decide +kernel
theorem dL_law_669 : decode cL_law 669 = .ok (.iload_n 3, 1) := by decide +kernel
theorem dL_law_670 : decode cL_law 670 = .ok (.iconst 2, 1) := by decide +kernel
theorem dL_law_671 : decode cL_law 671 = .ok (.iadd, 1) := by decide +kernel
theorem dL_law_672 : decode cL_law 672 = .ok (.iaload, 1) := by decide +kernel
theorem dL_law_673 : decode cL_law 673 = .ok (.ifCond .eq 7, 3) := by decide +kernel
theorem dL_law_676 : decode cL_law 676 = .ok (.iconst 1, 1) := by decide +kernel
theorem dL_law_677 : decode cL_law 677 = .ok (.goto 4, 3) := by decide +kernel
theorem dL_law_680 : decode cL_law 680 = .ok (.iconst 0, 1) := by decide +kernel
theorem dL_law_681 : decode cL_law 681 = .ok (.invokevirtual 93, 3) := by decide +kernel
theorem dL_law_684 : decode cL_law 684 = .ok (.if_icmp .eq 159, 3) := by decide +kernel
theorem dL_law_687 : decode cL_law 687 = .ok (.iconst 0, 1) := by decide +kernel
theorem dL_law_688 : decode cL_law 688 = .ok (.ireturn, 1) := by decide +kernel
theorem dL_law_689 : decode cL_law 689 = .ok (.aload_n 1, 1) := by decide +kernel
theorem dL_law_690 : decode cL_law 690 = .ok (.invokevirtual 94, 3) := by decide +kernel
theorem dL_law_693 : decode cL_law 693 = .ok (.aload_n 2, 1) := by decide +kernel
theorem dL_law_694 : decode cL_law 694 = .ok (.invokevirtual 97, 3) := by decide +kernel
theorem dL_law_697 : decode cL_law 697 = .ok (.if_icmp .eq 146, 3) := by decide +kernel
theorem dL_law_700 : decode cL_law 700 = .ok (.iconst 0, 1) := by decide +kernel
theorem dL_law_701 : decode cL_law 701 = .ok (.ireturn, 1) := by decide +kernel
theorem dL_law_702 : decode cL_law 702 = .ok (.aload_n 1, 1) := by decide +kernel
theorem dL_law_703 : decode cL_law 703 = .ok (.invokevirtual 98, 3) := by decide +kernel
theorem dL_law_706 : decode cL_law 706 = .ok (.aload_n 2, 1) := by decide +kernel
theorem dL_law_707 : decode cL_law 707 = .ok (.invokevirtual 101, 3) := by decide +kernel
theorem dL_law_710 : decode cL_law 710 = .ok (.if_icmp .eq 133, 3) := by decide +kernel
theorem dL_law_713 : decode cL_law 713 = .ok (.iconst 0, 1) := by decide +kernel
theorem dL_law_714 : decode cL_law 714 = .ok (.ireturn, 1) := by decide +kernel
theorem dL_law_715 : decode cL_law 715 = .ok (.aload_n 1, 1) := by decide +kernel
theorem dL_law_716 : decode cL_law 716 = .ok (.aload_n 0, 1) := by decide +kernel
theorem dL_law_717 : decode cL_law 717 = .ok (.iload_n 3, 1) := by decide +kernel
theorem dL_law_718 : decode cL_law 718 = .ok (.iconst 1, 1) := by decide +kernel
theorem dL_law_719 : decode cL_law 719 = .ok (.iadd, 1) := by decide +kernel
theorem dL_law_720 : decode cL_law 720 = .ok (.iaload, 1) := by decide +kernel
theorem dL_law_721 : decode cL_law 721 = .ok (.aload_n 0, 1) := by decide +kernel
theorem dL_law_722 : decode cL_law 722 = .ok (.iload_n 3, 1) := by decide +kernel
theorem dL_law_723 : decode cL_law 723 = .ok (.iconst 2, 1) := by decide +kernel
theorem dL_law_724 : decode cL_law 724 = .ok (.iadd, 1) := by decide +kernel
theorem dL_law_725 : decode cL_law 725 = .ok (.iaload, 1) := by decide +kernel
theorem dL_law_726 : decode cL_law 726 = .ok (.invokevirtual 102, 3) := by decide +kernel
theorem dL_law_729 : decode cL_law 729 = .ok (.aload_n 2, 1) := by decide +kernel
theorem dL_law_730 : decode cL_law 730 = .ok (.aload_n 0, 1) := by decide +kernel
theorem dL_law_731 : decode cL_law 731 = .ok (.iload_n 3, 1) := by decide +kernel
theorem dL_law_732 : decode cL_law 732 = .ok (.iconst 1, 1) := by decide +kernel
theorem dL_law_733 : decode cL_law 733 = .ok (.iadd, 1) := by decide +kernel
theorem dL_law_734 : decode cL_law 734 = .ok (.iaload, 1) := by decide +kernel
theorem dL_law_735 : decode cL_law 735 = .ok (.aload_n 0, 1) := by decide +kernel
theorem dL_law_736 : decode cL_law 736 = .ok (.iload_n 3, 1) := by decide +kernel
theorem dL_law_737 : decode cL_law 737 = .ok (.iconst 2, 1) := by decide +kernel
theorem dL_law_738 : decode cL_law 738 = .ok (.iadd, 1) := by decide +kernel
theorem dL_law_739 : decode cL_law 739 = .ok (.iaload, 1) := by decide +kernel
theorem dL_law_740 : decode cL_law 740 = .ok (.invokevirtual 105, 3) := by decide +kernel
theorem dL_law_743 : decode cL_law 743 = .ok (.if_icmp .eq 100, 3) := by decide +kernel
theorem dL_law_746 : decode cL_law 746 = .ok (.iconst 0, 1) := by decide +kernel
theorem dL_law_747 : decode cL_law 747 = .ok (.ireturn, 1) := by decide +kernel
theorem dL_law_748 : decode cL_law 748 = .ok (.aload_n 1, 1) := by decide +kernel
theorem dL_law_749 : decode cL_law 749 = .ok (.invokevirtual 106, 3) := by decide +kernel
theorem dL_law_752 : decode cL_law 752 = .ok (.aload_n 2, 1) := by decide +kernel
theorem dL_law_753 : decode cL_law 753 = .ok (.invokevirtual 109, 3) := by decide +kernel
theorem dL_law_756 : decode cL_law 756 = .ok (.if_icmp .eq 87, 3) := by decide +kernel
theorem dL_law_759 : decode cL_law 759 = .ok (.iconst 0, 1) := by decide +kernel
theorem dL_law_760 : decode cL_law 760 = .ok (.ireturn, 1) := by decide +kernel
theorem dL_law_761 : decode cL_law 761 = .ok (.aload_n 1, 1) := by decide +kernel
theorem dL_law_762 : decode cL_law 762 = .ok (.invokevirtual 110, 3) := by decide +kernel
theorem dL_law_765 : decode cL_law 765 = .ok (.aload_n 2, 1) := by decide +kernel
theorem dL_law_766 : decode cL_law 766 = .ok (.invokevirtual 113, 3) := by decide +kernel
theorem dL_law_769 : decode cL_law 769 = .ok (.if_icmp .eq 74, 3) := by decide +kernel
theorem dL_law_772 : decode cL_law 772 = .ok (.iconst 0, 1) := by decide +kernel
theorem dL_law_773 : decode cL_law 773 = .ok (.ireturn, 1) := by decide +kernel
theorem dL_law_774 : decode cL_law 774 = .ok (.aload_n 1, 1) := by decide +kernel
theorem dL_law_775 : decode cL_law 775 = .ok (.aload_n 0, 1) := by decide +kernel
theorem dL_law_776 : decode cL_law 776 = .ok (.iload_n 3, 1) := by decide +kernel
theorem dL_law_777 : decode cL_law 777 = .ok (.iconst 1, 1) := by decide +kernel
theorem dL_law_778 : decode cL_law 778 = .ok (.iadd, 1) := by decide +kernel
theorem dL_law_779 : decode cL_law 779 = .ok (.iaload, 1) := by decide +kernel
theorem dL_law_780 : decode cL_law 780 = .ok (.invokevirtual 114, 3) := by decide +kernel
theorem dL_law_783 : decode cL_law 783 = .ok (.aload_n 2, 1) := by decide +kernel
theorem dL_law_784 : decode cL_law 784 = .ok (.aload_n 0, 1) := by decide +kernel
theorem dL_law_785 : decode cL_law 785 = .ok (.iload_n 3, 1) := by decide +kernel
theorem dL_law_786 : decode cL_law 786 = .ok (.iconst 1, 1) := by decide +kernel
theorem dL_law_787 : decode cL_law 787 = .ok (.iadd, 1) := by decide +kernel
theorem dL_law_788 : decode cL_law 788 = .ok (.iaload, 1) := by decide +kernel
theorem dL_law_789 : decode cL_law 789 = .ok (.invokevirtual 117, 3) := by decide +kernel
theorem dL_law_792 : decode cL_law 792 = .ok (.if_icmp .eq 51, 3) := by decide +kernel
theorem dL_law_795 : decode cL_law 795 = .ok (.iconst 0, 1) := by decide +kernel
theorem dL_law_796 : decode cL_law 796 = .ok (.ireturn, 1) := by decide +kernel
theorem dL_law_797 : decode cL_law 797 = .ok (.aload_n 1, 1) := by decide +kernel
theorem dL_law_798 : decode cL_law 798 = .ok (.aload_n 0, 1) := by decide +kernel
theorem dL_law_799 : decode cL_law 799 = .ok (.iload_n 3, 1) := by decide +kernel
theorem dL_law_800 : decode cL_law 800 = .ok (.iconst 1, 1) := by decide +kernel
theorem dL_law_801 : decode cL_law 801 = .ok (.iadd, 1) := by decide +kernel
theorem dL_law_802 : decode cL_law 802 = .ok (.iaload, 1) := by decide +kernel
theorem dL_law_803 : decode cL_law 803 = .ok (.invokevirtual 118, 3) := by decide +kernel
theorem dL_law_806 : decode cL_law 806 = .ok (.aload_n 2, 1) := by decide +kernel
theorem dL_law_807 : decode cL_law 807 = .ok (.aload_n 0, 1) := by decide +kernel
theorem dL_law_808 : decode cL_law 808 = .ok (.iload_n 3, 1) := by decide +kernel
theorem dL_law_809 : decode cL_law 809 = .ok (.iconst 1, 1) := by decide +kernel
theorem dL_law_810 : decode cL_law 810 = .ok (.iadd, 1) := by decide +kernel
theorem dL_law_811 : decode cL_law 811 = .ok (.iaload, 1) := by decide +kernel
theorem dL_law_812 : decode cL_law 812 = .ok (.invokevirtual 121, 3) := by decide +kernel
theorem dL_law_815 : decode cL_law 815 = .ok (.if_icmp .eq 28, 3) := by decide +kernel
theorem dL_law_818 : decode cL_law 818 = .ok (.iconst 0, 1) := by decide +kernel
theorem dL_law_819 : decode cL_law 819 = .ok (.ireturn, 1) := by decide +kernel
theorem dL_law_820 : decode cL_law 820 = .ok (.aload_n 1, 1) := by decide +kernel
theorem dL_law_821 : decode cL_law 821 = .ok (.aload_n 0, 1) := by decide +kernel
theorem dL_law_822 : decode cL_law 822 = .ok (.iload_n 3, 1) := by decide +kernel
theorem dL_law_823 : decode cL_law 823 = .ok (.iconst 1, 1) := by decide +kernel
theorem dL_law_824 : decode cL_law 824 = .ok (.iadd, 1) := by decide +kernel
theorem dL_law_825 : decode cL_law 825 = .ok (.iaload, 1) := by decide +kernel
theorem dL_law_826 : decode cL_law 826 = .ok (.invokevirtual 122, 3) := by decide +kernel
theorem dL_law_829 : decode cL_law 829 = .ok (.aload_n 2, 1) := by decide +kernel
theorem dL_law_830 : decode cL_law 830 = .ok (.aload_n 0, 1) := by decide +kernel
theorem dL_law_831 : decode cL_law 831 = .ok (.iload_n 3, 1) := by decide +kernel
theorem dL_law_832 : decode cL_law 832 = .ok (.iconst 1, 1) := by decide +kernel
theorem dL_law_833 : decode cL_law 833 = .ok (.iadd, 1) := by decide +kernel
theorem dL_law_834 : decode cL_law 834 = .ok (.iaload, 1) := by decide +kernel
theorem dL_law_835 : decode cL_law 835 = .ok (.invokevirtual 125, 3) := by decide +kernel
theorem dL_law_838 : decode cL_law 838 = .ok (.if_icmp .eq 5, 3) := by decide +kernel
theorem dL_law_841 : decode cL_law 841 = .ok (.iconst 0, 1) := by decide +kernel
theorem dL_law_842 : decode cL_law 842 = .ok (.ireturn, 1) := by decide +kernel
theorem dL_law_843 : decode cL_law 843 = .ok (.iinc 3 4, 3) := by decide +kernel
theorem dL_law_846 : decode cL_law 846 = .ok (.goto (-828), 3) := by decide +kernel
theorem dL_law_849 : decode cL_law 849 = .ok (.iconst 1, 1) := by decide +kernel
theorem dL_law_850 : decode cL_law 850 = .ok (.ireturn, 1) := by decide +kernel
end
section
/-- links of nest mates: who calls, by which entry, whom, the nest's host -/
def nwL : List (String × Nat × MethodName × String) := [("RoomRings", 9, ⟨"RoomRings$Text", "<init>", "()V"⟩, "RoomRings"), ("RoomRings", 18, ⟨"RoomRings$House", "<init>", "()V"⟩, "RoomRings"), ("RoomRings", 28, ⟨"RoomRings$Dealing", "<init>", "()V"⟩, "RoomRings"), ("RoomRings", 35, ⟨"RoomRings$Bartering", "<init>", "()V"⟩, "RoomRings"), ("RoomRings$Past", 17, ⟨"RoomRings$House", "<init>", "()V"⟩, "RoomRings"), ("RoomRings", 49, ⟨"RoomRings$Notebook", "<init>", "()V"⟩, "RoomRings"), ("RoomRings", 56, ⟨"RoomRings$Dice", "<init>", "()V"⟩, "RoomRings"), ("RoomRings", 67, ⟨"RoomRings$Image", "<init>", "()V"⟩, "RoomRings"), ("RoomRings$Image", 9, ⟨"RoomRings$House", "<init>", "()V"⟩, "RoomRings"), ("RoomRings$Text", 23, ⟨"RoomRings", "put", "([III)V"⟩, "RoomRings"), ("RoomRings$Text", 104, ⟨"RoomRings", "at", "([II)I"⟩, "RoomRings"), ("RoomRings$House", 37, ⟨"RoomRings", "put", "([III)V"⟩, "RoomRings"), ("RoomRings$House", 51, ⟨"RoomRings", "at", "([II)I"⟩, "RoomRings"), ("RoomRings$Dealing", 33, ⟨"RoomRings", "firstOnes", "(I)I"⟩, "RoomRings"), ("RoomRings$Dealing", 67, ⟨"RoomRings", "holds", "(II)Z"⟩, "RoomRings"), ("RoomRings$House", 55, ⟨"RoomRings", "holds", "(II)Z"⟩, "RoomRings"), ("RoomRings$Dealing", 74, ⟨"RoomRings", "put", "([III)V"⟩, "RoomRings"), ("RoomRings$Dealing", 63, ⟨"RoomRings", "with", "(II)I"⟩, "RoomRings"), ("RoomRings$Dealing", 82, ⟨"RoomRings", "without", "(II)I"⟩, "RoomRings"), ("RoomRings$Dealing", 59, ⟨"RoomRings", "at", "([II)I"⟩, "RoomRings"), ("RoomRings$House", 62, ⟨"RoomRings", "firstOnes", "(I)I"⟩, "RoomRings"), ("RoomRings$House", 59, ⟨"RoomRings", "with", "(II)I"⟩, "RoomRings"), ("RoomRings$Bartering", 25, ⟨"RoomRings", "with", "(II)I"⟩, "RoomRings"), ("RoomRings$Bartering", 33, ⟨"RoomRings", "put", "([III)V"⟩, "RoomRings"), ("RoomRings$Bartering", 55, ⟨"RoomRings", "holds", "(II)Z"⟩, "RoomRings"), ("RoomRings$Bartering", 59, ⟨"RoomRings", "at", "([II)I"⟩, "RoomRings"), ("RoomRings$Bartering", 63, ⟨"RoomRings", "without", "(II)I"⟩, "RoomRings"), ("RoomRings$House", 85, ⟨"RoomRings", "without", "(II)I"⟩, "RoomRings"), ("RoomRings$Notebook", 32, ⟨"RoomRings", "put", "([III)V"⟩, "RoomRings"), ("RoomRings$Notebook", 50, ⟨"RoomRings", "at", "([II)I"⟩, "RoomRings"), ("RoomRings$Notebook", 46, ⟨"RoomRings", "with", "(II)I"⟩, "RoomRings")]
def nwC (q : String × Nat × MethodName × String) : Cond := .methodLinkNest q.1 q.2.1 q.2.2.1 q.2.2.2
end
section
/-! THE SMALL HEAP: cells by their place; the machine's heap holds the cell k at the address b + k. Its rows are exact: a method's contract speaks of the small heap alone. -/
abbrev MV : Type := Int32 ⊕ Option Nat
abbrev ME : Type := (Nat × List MV) ⊕ ((Nat × (Nat → Int32)) ⊕ (Bool × Nat × (Nat → Option Nat)))
abbrev HP : Type := List ME
abbrev GT : Type := va_G × ClassId × ClassId × ClassId
def FU : Nat := 4000
/-- a cell is an object of that kind -/
def ck {α : Type} (h : HP) (a ci : Nat) (x : Option α) : Option α := match h[a]? with
  | some (.inl o) => if o.1 = ci then x else none
  | _ => none
def gI (h : HP) (a ci k : Nat) : Option Int32 := match h[a]? with
  | some (.inl o) => if o.1 = ci then (match o.2[k]? with | some (.inl x) => some x | _ => none) else none
  | _ => none
def gR (h : HP) (a ci k : Nat) : Option Nat := match h[a]? with
  | some (.inl o) => if o.1 = ci then (match o.2[k]? with | some (.inr (some x)) => some x | _ => none) else none
  | _ => none
def pF (h : HP) (a ci k : Nat) (v : MV) : Option HP := match h[a]? with
  | some (.inl o) => if o.1 = ci ∧ k < o.2.length then some (h.set a (.inl (ci, o.2.set k v))) else none
  | _ => none
abbrev pI (h : HP) (a ci k : Nat) (x : Int32) : Option HP := pF h a ci k (.inl x)
abbrev pR (h : HP) (a ci k : Nat) (r : Nat) : Option HP := pF h a ci k (.inr (some r))
def ald (h : HP) (a : Nat) (i : Int32) : Option Int32 := match h[a]? with
  | some (.inr (.inl r)) => if i < 0 ∨ r.1 ≤ i.toNatClampNeg then none else some (r.2 i.toNatClampNeg)
  | _ => none
def ast (h : HP) (a : Nat) (i x : Int32) : Option HP := match h[a]? with
  | some (.inr (.inl r)) => if i < 0 ∨ r.1 ≤ i.toNatClampNeg then none else some (h.set a (.inr (.inl (r.1, upd r.2 i.toNatClampNeg x))))
  | _ => none
def alen (h : HP) (a : Nat) : Option Int32 := match h[a]? with
  | some (.inr (.inl r)) => some (Int32.ofNat r.1)
  | some (.inr (.inr r)) => some (Int32.ofNat r.2.1)
  | _ => none
def qld (h : HP) (a : Nat) (i : Int32) : Option Nat := match h[a]? with
  | some (.inr (.inr r)) => if i < 0 ∨ r.2.1 ≤ i.toNatClampNeg then none else r.2.2 i.toNatClampNeg
  | _ => none
/-- a row of references: w false: of houses (kind 3), true: of images (kind 4) -/
def qst (h : HP) (a : Nat) (i : Int32) (x : Nat) : Option HP := match h[a]? with
  | some (.inr (.inr r)) => if i < 0 ∨ r.2.1 ≤ i.toNatClampNeg then none else ck h x (if r.1 then 4 else 3) (some (h.set a (.inr (.inr (r.1, r.2.1, va_up r.2.2 i.toNatClampNeg (some x))))))
  | _ => none
def cpy (h : HP) (a : Nat) (sp : Int32) (a2 : Nat) (dp n : Int32) : Option HP := match h[a]?, h[a2]? with
  | some (.inr (.inl r)), some (.inr (.inl t)) => if sp < 0 ∨ dp < 0 ∨ n < 0 ∨ r.1 < sp.toNatClampNeg + n.toNatClampNeg ∨ t.1 < dp.toNatClampNeg + n.toNatClampNeg then none else some (h.set a2 (.inr (.inl (t.1, va_cpy r.2 t.2 sp.toNatClampNeg dp.toNatClampNeg n.toNatClampNeg))))
  | _, _ => none
def om {α : Type} (o : Option Nat) (A : α) (B : Nat → α) : α := match o with
  | none => A
  | some r => B r
theorem om_n {α : Type} {A : Option α} {B : Nat → Option α} {r : α} (h : om none A B = some r) : A = some r := h
theorem om_s {α : Type} {A : Option α} {B : Nat → Option α} {r : α} {k : Nat} (h : om (some k) A B = some r) : B k = some r := h
theorem ob {α β : Type} {x : Option α} {f : α → Option β} {r : β} (h : x.bind f = some r) : ∃ a, x = some a ∧ f a = some r := Option.bind_eq_some_iff.mp h
theorem ip {α : Type} {c : Prop} [Decidable c] {A B : Option α} {r : α} (h : (if c then A else B) = some r) (hc : c) : A = some r := by rw [if_pos hc] at h; exact h
theorem im {α : Type} {c : Prop} [Decidable c] {A B : Option α} {r : α} (h : (if c then A else B) = some r) (hc : ¬ c) : B = some r := by rw [if_neg hc] at h; exact h
theorem ig {α : Type} {c : Prop} [Decidable c] {A : Option α} {r : α} (h : (if c then A else none) = some r) : c ∧ A = some r := by
  by_cases hc : c
  · rw [if_pos hc] at h; exact ⟨hc, h⟩
  · rw [if_neg hc] at h; cases h
theorem ign {α : Type} {c : Prop} [Decidable c] {A : Option α} {r : α} (h : (if c then none else A) = some r) : ¬ c ∧ A = some r := by
  by_cases hc : c
  · rw [if_pos hc] at h; cases h
  · rw [if_neg hc] at h; exact ⟨hc, h⟩
theorem nn {α : Type} {o : α} {P : Prop} (h : none = some o) : P := nomatch h
theorem ck_spec {α : Type} {h : HP} {a ci : Nat} {x : Option α} {r : α} (hg : ck h a ci x = some r) : (∃ fs, h[a]? = some (.inl (ci, fs))) ∧ x = some r := by
  unfold ck at hg
  split at hg
  · rename_i o ho
    obtain ⟨h1, h2⟩ := ig hg
    exact ⟨⟨o.2, by rw [ho, ← h1]⟩, h2⟩
  · cases hg
theorem gI_spec {h : HP} {a ci k : Nat} {v : Int32} (hg : gI h a ci k = some v) : ∃ fs, h[a]? = some (.inl (ci, fs)) ∧ fs[k]? = some (.inl v) := by
  unfold gI at hg
  split at hg
  · rename_i o ho
    obtain ⟨h1, h2⟩ := ig hg
    refine ⟨o.2, by rw [ho, ← h1], ?_⟩
    split at h2
    · rename_i x hx
      cases h2
      exact hx
    · cases h2
  · cases hg
theorem gR_spec {h : HP} {a ci k v : Nat} (hg : gR h a ci k = some v) : ∃ fs, h[a]? = some (.inl (ci, fs)) ∧ fs[k]? = some (.inr (some v)) := by
  unfold gR at hg
  split at hg
  · rename_i o ho
    obtain ⟨h1, h2⟩ := ig hg
    refine ⟨o.2, by rw [ho, ← h1], ?_⟩
    split at h2
    · rename_i x hx
      cases h2
      exact hx
    · cases h2
  · cases hg
theorem pF_spec {h h' : HP} {a ci k : Nat} {v : MV} (hg : pF h a ci k v = some h') : ∃ fs, h[a]? = some (.inl (ci, fs)) ∧ k < fs.length ∧ h' = h.set a (.inl (ci, fs.set k v)) := by
  unfold pF at hg
  split at hg
  · rename_i o ho
    obtain ⟨⟨h1, h2⟩, h3⟩ := ig hg
    exact ⟨o.2, by rw [ho, ← h1], h2, (Option.some.inj h3).symm⟩
  · cases hg
theorem ald_spec {h : HP} {a : Nat} {i v : Int32} (hg : ald h a i = some v) : ∃ r, h[a]? = some (.inr (.inl r)) ∧ vp_in i r.1 ∧ v = r.2 i.toNatClampNeg := by
  unfold ald at hg
  split at hg
  · rename_i r hr
    obtain ⟨h1, h2⟩ := ign hg
    exact ⟨r, hr, h1, (Option.some.inj h2).symm⟩
  · cases hg
theorem ast_spec {h h' : HP} {a : Nat} {i x : Int32} (hg : ast h a i x = some h') : ∃ r, h[a]? = some (.inr (.inl r)) ∧ vp_in i r.1 ∧ h' = h.set a (.inr (.inl (r.1, upd r.2 i.toNatClampNeg x))) := by
  unfold ast at hg
  split at hg
  · rename_i r hr
    obtain ⟨h1, h2⟩ := ign hg
    exact ⟨r, hr, h1, (Option.some.inj h2).symm⟩
  · cases hg
theorem qld_spec {h : HP} {a v : Nat} {i : Int32} (hg : qld h a i = some v) : ∃ r, h[a]? = some (.inr (.inr r)) ∧ vp_in i r.2.1 ∧ r.2.2 i.toNatClampNeg = some v := by
  unfold qld at hg
  split at hg
  · rename_i r hr
    obtain ⟨h1, h2⟩ := ign hg
    exact ⟨r, hr, h1, h2⟩
  · cases hg
theorem qst_spec {h h' : HP} {a x : Nat} {i : Int32} (hg : qst h a i x = some h') : ∃ r fs, h[a]? = some (.inr (.inr r)) ∧ vp_in i r.2.1 ∧ h[x]? = some (.inl (if r.1 then 4 else 3, fs)) ∧ h' = h.set a (.inr (.inr (r.1, r.2.1, va_up r.2.2 i.toNatClampNeg (some x)))) := by
  unfold qst at hg
  split at hg
  · rename_i r hr
    obtain ⟨h1, h2⟩ := ign hg
    obtain ⟨⟨fs, h3⟩, h4⟩ := ck_spec h2
    exact ⟨r, fs, hr, h1, h3, (Option.some.inj h4).symm⟩
  · cases hg
theorem cpy_spec {h h' : HP} {a a2 : Nat} {sp dp n : Int32} (hg : cpy h a sp a2 dp n = some h') : ∃ r t, h[a]? = some (.inr (.inl r)) ∧ h[a2]? = some (.inr (.inl t)) ∧ ¬ sp < 0 ∧ ¬ dp < 0 ∧ ¬ n < 0 ∧ sp.toNatClampNeg + n.toNatClampNeg ≤ r.1 ∧ dp.toNatClampNeg + n.toNatClampNeg ≤ t.1 ∧ h' = h.set a2 (.inr (.inl (t.1, va_cpy r.2 t.2 sp.toNatClampNeg dp.toNatClampNeg n.toNatClampNeg))) := by
  unfold cpy at hg
  split at hg
  · rename_i r t hr ht
    obtain ⟨h1, h2⟩ := ign hg
    simp only [not_or] at h1
    obtain ⟨k1, k2, k3, k4, k5⟩ := h1
    exact ⟨r, t, hr, ht, k1, k2, k3, Nat.not_lt.mp k4, Nat.not_lt.mp k5, (Option.some.inj h2).symm⟩
  · cases hg
/-! the machine's heap holds it -/
def rv (b : Nat) (v : MV) : Value := match v with
  | .inl x => .int x
  | .inr o => va_rf (o.map (fun k => b + k))
def re (G : GT) (b : Nat) (e : ME) : va_E := match e with
  | .inl o => .inr (o.1, o.2.map (rv b))
  | .inr (.inl a) => .inl (G.2.1, a.1, .inl a.2)
  | .inr (.inr q) => .inl (if q.1 then G.2.2.2 else G.2.2.1, q.2.1, .inr (.inr (.inr (.inr (fun j => (q.2.2 j).map (fun k => b + k))))))
def rwW (G : GT) (b : Nat) (h : HP) : va_W := h.mapIdx (fun k e => (b + k, re G b e))
theorem rw_get {G : GT} {b : Nat} {h : HP} (k : Nat) : (rwW G b h)[k]? = (h[k]?).map (fun e => (b + k, re G b e)) := by
  simp [rwW, List.getElem?_mapIdx]
theorem rw_len {G : GT} {b : Nat} {h : HP} : (rwW G b h).length = h.length := by simp [rwW]
theorem rw_at {G : GT} {b : Nat} {h : HP} {k : Nat} {e : ME} (hk : h[k]? = some e) : (rwW G b h)[k]? = some (b + k, re G b e) := by rw [rw_get, hk]; rfl
theorem rw_set {G : GT} {b : Nat} {h : HP} (k : Nat) (e : ME) : rwW G b (h.set k e) = (rwW G b h).set k (b + k, re G b e) := by
  apply List.ext_getElem?
  intro i
  rw [rw_get, List.getElem?_set, List.getElem?_set, rw_len, rw_get]
  by_cases hk : k = i
  · subst hk
    by_cases hl : k < h.length
    · simp [hl]
    · simp [hl]
  · simp [hk]
theorem rw_push {G : GT} {b : Nat} {h : HP} (e : ME) : rwW G b (h ++ [e]) = rwW G b h ++ [(b + h.length, re G b e)] := by
  simp [rwW, List.mapIdx_append]
def AB (b : Nat) : Nat → Prop := fun q => b ≤ q
theorem rw_D {G : GT} {b : Nat} {h : HP} : va_D (AB b) (rwW G b h) := by
  refine ⟨fun i j x y hx hy hxy => ?_, fun k q hk => ?_⟩
  · rw [rw_get] at hx hy
    obtain ⟨e1, -, rfl⟩ := Option.map_eq_some_iff.mp hx
    obtain ⟨e2, -, rfl⟩ := Option.map_eq_some_iff.mp hy
    have : b + i = b + j := hxy
    omega
  · rw [rw_get] at hk
    obtain ⟨e1, -, rfl⟩ := Option.map_eq_some_iff.mp hk
    exact Nat.le_add_right b k
/-- z: the machine's heap ends where the small heap ends (wanted where cells are made) -/
def RH (G : GT) (b : Nat) (z : Prop) (h : HP) (H : Heap) : Prop := va_P G.1 vwCl (rwW G b h) H ∧ (z → H.size = b + h.length)
abbrev RT (G : GT) : List (ClassId × FieldType) := [(G.2.1, .int), (G.2.2.1, .object RX3), (G.2.2.2, .object RX4)]
def RK (G : GT) (U : State) : Prop := va_K G.1 vwCl (RT G) U ∧ (∀ q ∈ nwL, va_Nw (nwC q) U) ∧ va_AO RX3 U ∧ va_AO RX4 U
def ST (G : GT) (b : Nat) (z : Prop) (s : State) (h : HP) (H : Heap) (locs : List Loc) : Prop := RH G b z h H ∧ va_S (AB b) s.heap H locs
/-- the words that every method's contract takes: all of the tables that a call keeps -/
def tg : List Cond := lw_tbl.filter goodWord
theorem tg_good : GoodIn tg tg := fun w h => ⟨h, good_of_word (List.mem_filter.mp h).2⟩
theorem tg_in {w : Cond} (i : Nat) (h : lw_tbl[i]? = some w) (hg : goodWord w = true) : w ∈ tg := List.mem_filter.mpr ⟨List.mem_of_getElem? h, hg⟩
theorem tg_code {w : Cond} (h : w ∈ tg) : GoodIn tg (w :: tg) := fun v hv => (List.mem_cons.mp hv).elim (fun e => by rw [e]; exact tg_good w h) (tg_good v)
/-- what a method's body stands on -/
def CX (own : String) (cc : ByteArray) (nL : Nat) (rt : Option FieldType) (p : Program) (s : State) (m : MethodId) (args : Array Value) (meth : Method) (c : Code) (G : GT) (b : Nat) : Prop :=
  p.tables.exec = Jvm.exec ∧ c.code = cc ∧ c.maxLocals = nL ∧ s.vm.findClass own = some m.cls ∧ (∀ w ∈ tg, w.before args s = true) ∧ meth.sig.returnType = rt ∧ meth.locks = false ∧ RK G s ∧ b ≤ s.heap.size
/-- a field by its link: kind ci, place k -/
def FL (own : String) (index ci k : Nat) : Prop := ∃ (C : String) (T : u_T) (N : Nat), vwCl[ci]? = some (C, T, N) ∧ (∀ w ∈ u_ws C T N, w ∈ tg) ∧ k < N ∧ Cond.fieldLink own index (T k).1 (T k).2.1 (T k).2.2.1 ∈ tg
def FP (own : String) (index ci k : Nat) (fin : Bool) (ty : FieldType) : Prop := ∃ (C : String) (T : u_T) (N : Nat) (ty0 : Nat → FieldType), vwCl[ci]? = some (C, T, N) ∧ (∀ w ∈ u_ws C T N, w ∈ tg) ∧ k < N ∧ Cond.fieldLink own index (T k).1 (T k).2.1 (T k).2.2.1 ∈ tg ∧ (∀ k, k < N → parseFieldDescriptor (T k).2.2.1 = some (ty0 k)) ∧ (∀ a, a < N → ∀ b, b < N → a ≠ b → (T a).2.1 ≠ (T b).2.1) ∧ (T k).2.2.2 = fin ∧ (fin = true → (T k).1 = own) ∧ parseFieldDescriptor (T k).2.2.1 = some ty
/-- a contract's end: the answer, the small heap behind it -/
def QQ (G : GT) (b : Nat) (z : Prop) (ro : Option Value) (h' : HP) : Array Value → State → Outcome → State → Prop := fun _ st oc t => (oc = .returned ro ∧ RH G b z h' t.heap) ∧ va_F (AB b) st t
abbrev PP (G : GT) (b : Nat) (z : Prop) (h : HP) : State → Prop := fun U => RH G b z h U.heap ∧ RK G U ∧ b ≤ U.heap.size
section RR
variable {p : Program} {l : Launch} {e : Env} {R : Room} {s : State} {m : MethodId} {args : Array Value} {below : List Frame} {meth : Method} {c : Code} {H : Heap} {locs : List Loc} {cells slots : Nat} {Q : State → Prop} {pc : Nat} {ls : Array Slot} {rest : List Value} {G : GT} {b : Nat} {z : Prop} {own : String} {cc : ByteArray} {nL : Nat} {rt : Option FieldType} {h : HP}
theorem r_getI (X : CX own cc nL rt p s m args meth c G b) (S : ST G b z s h H locs) {a ci k index : Nat} {v : Int32} (hF : FL own index ci k) (hg : gI h a ci k = some v) (hdg : decode cc pc = .ok (.getfield index, 3)) (kk : W p l e R s m args below meth c H locs cells slots Q (F0 m (pc + 3) ls (.int v :: rest))) : W p l e R s m args below meth c H locs cells slots Q (F0 m pc ls (.ref (b + a) :: rest)) := by
  obtain ⟨hx, hb, hml, hown, hts, hr, hlk, ⟨hK, -, -, -⟩, hbs⟩ := X
  obtain ⟨C, T, N, f1, f2, f3, f4⟩ := hF
  obtain ⟨fs, h1, h2⟩ := gI_spec hg
  exact va_get hx hb hts f2 hown hK S.1.1 a (rw_at h1) f1 k f3 (hts _ f4) (fun _ h9 => h9) (v := .int v) (by rw [List.getElem?_map, h2]; rfl) hdg kk
theorem r_getR (X : CX own cc nL rt p s m args meth c G b) (S : ST G b z s h H locs) {a ci k index v : Nat} (hF : FL own index ci k) (hg : gR h a ci k = some v) (hdg : decode cc pc = .ok (.getfield index, 3)) (kk : W p l e R s m args below meth c H locs cells slots Q (F0 m (pc + 3) ls (.ref (b + v) :: rest))) : W p l e R s m args below meth c H locs cells slots Q (F0 m pc ls (.ref (b + a) :: rest)) := by
  obtain ⟨hx, hb, hml, hown, hts, hr, hlk, ⟨hK, -, -, -⟩, hbs⟩ := X
  obtain ⟨C, T, N, f1, f2, f3, f4⟩ := hF
  obtain ⟨fs, h1, h2⟩ := gR_spec hg
  exact va_get hx hb hts f2 hown hK S.1.1 a (rw_at h1) f1 k f3 (hts _ f4) (fun _ h9 => h9) (v := .ref (b + v)) (by rw [List.getElem?_map, h2]; rfl) hdg kk
theorem RH.set {H1 : Heap} {a : Nat} {e1 : ME} (S : RH G b z h H) (hP : va_P G.1 vwCl ((rwW G b h).set a (b + a, re G b e1)) H1) (hz : H1.size = H.size) : RH G b z (h.set a e1) H1 := by
  refine ⟨by rw [rw_set]; exact hP, fun hh => ?_⟩
  rw [hz, S.2 hh, List.length_set]
theorem RH.set0 {H1 : Heap} {a : Nat} {e1 : ME} (hP : va_P G.1 vwCl ((rwW G b h).set a (b + a, re G b e1)) H1) : RH G b False (h.set a e1) H1 := ⟨by rw [rw_set]; exact hP, fun hh => hh.elim⟩
theorem r_put (X : CX own cc nL rt p s m args meth c G b) (S : ST G b z s h H locs) {a ci k index : Nat} {w : MV} {v : Value} {h' : HP} {fin : Bool} {ty : FieldType} (hF : FP own index ci k fin ty) (hnm : fin = true → meth.name = "<init>") (hv : rv b w = v) (hn : narrow ty v = v) (hfit : fits ty v = true) (hg : pF h a ci k w = some h') (hdg : decode cc pc = .ok (.putfield index, 3)) (kk : ∀ (H1 : Heap) (locs1 : List Loc), ST G b z s h' H1 locs1 → W p l e R s m args below meth c H1 locs1 cells slots Q (F0 m (pc + 3) ls rest)) : W p l e R s m args below meth c H locs cells slots Q (F0 m pc ls (v :: .ref (b + a) :: rest)) := by
  obtain ⟨hx, hb, hml, hown, hts, hr, hlk, ⟨hK, -, -, -⟩, hbs⟩ := X
  obtain ⟨C, T, N, ty0, f1, f2, f3, f4, f5, f6, f7, f8, f9⟩ := hF
  obtain ⟨fs, h1, h2, rfl⟩ := pF_spec hg
  have hap := va_apart (own := own) hts f2 ty0 f5 f6 hK f1
  have hat := rw_at (G := G) (b := b) h1
  obtain ⟨r, g1, cell, q1, q2, q3, q4⟩ := S.1.1 a _ hat
  have hr : r = (C, T, N) := Option.some.inj (g1.symm.trans f1)
  subst hr
  obtain ⟨hS, hfc, kC, hkC, hkind⟩ := hK.1 ci _ f1
  obtain ⟨cf, kf, fi, f, hi, hsl⟩ := hS k f3
  have hlay := hts _ (f2 _ (u_in_lay f3))
  have hst := (u_facts hfc hkC (u_lays hts f2 f3) hi).1
  have hl : k < (fs.map (rv b)).length := by rw [List.length_map]; exact h2
  have hmap : (fs.set k w).map (rv b) = (fs.map (rv b)).set k v := by rw [← hv, List.map_set]
  cases fin with
  | false =>
    unfold u_lay at hlay
    rw [if_neg (by rw [f7]; decide)] at hlay
    have h6 := u_store hfc hkC hkind hlay hi f9 hn hfit
    refine W.putK hx hb (f := f) ⟨hown, hts _ f4, ⟨_, _, _, hi⟩, hst⟩ (by rw [q2]; exact h6) q1 q3 (by rw [hsl]; exact k2_hasslot (q4 k f3)) rfl rfl hdg fun H' e1 e2 e3 => ?_
    rw [hsl] at e1 ⊢
    refine kk H' _ ⟨S.1.set ?_ e2, S.2.put e2 e3 (rw_D.2 a _ hat)⟩
    show va_P G.1 vwCl ((rwW G b h).set a (b + a, .inr (ci, (fs.set k w).map (rv b)))) H'
    rw [hmap]
    exact S.1.1.set rw_D hat ⟨_, f1, t_OB.to (V := updV (vp_V (fs.map (rv b))) k v) ⟨_, e1, q2, q3, t_set q4 hap f3 v⟩ (fun j _ => vp_updV_set hl v j)⟩ e3
  | true =>
    unfold u_lay at hlay
    rw [if_pos f7] at hlay
    have hcf : m.cls = cf := by
      obtain ⟨_, _, c', _, _, _, -, -, hf', -, -, -, hown2, -⟩ := Cond.laysFinal_spec hlay
      have e1 : c' = cf := by have := hi.symm.trans hf'; simp at this; exact this.1.symm
      rw [f8 rfl] at hown2
      rw [← e1]; exact Option.some.inj (hown.symm.trans hown2)
    have h6 := u_fits hfc hkC hkind (Or.inr hlay) hi f9 hn hfit
    refine W.putFinK hx hb hown (hts _ f4) hi hst hcf (hnm rfl) (by rw [q2]; exact h6) q1 q3 (by rw [hsl]; exact k2_hasslot (q4 k f3)) rfl rfl hdg fun H' e1 e2 e3 => ?_
    rw [hsl] at e1 ⊢
    refine kk H' _ ⟨S.1.set ?_ e2, S.2.put e2 e3 (rw_D.2 a _ hat)⟩
    show va_P G.1 vwCl ((rwW G b h).set a (b + a, .inr (ci, (fs.set k w).map (rv b)))) H'
    rw [hmap]
    exact S.1.1.set rw_D hat ⟨_, f1, t_OB.to (V := updV (vp_V (fs.map (rv b))) k v) ⟨_, e1, q2, q3, t_set q4 hap f3 v⟩ (fun j _ => vp_updV_set hl v j)⟩ e3
theorem r_ald (X : CX own cc nL rt p s m args meth c G b) (S : ST G b z s h H locs) {a : Nat} {i v : Int32} (hg : ald h a i = some v) (hdg : decode cc pc = .ok (.iaload, 1)) (kk : W p l e R s m args below meth c H locs cells slots Q (F0 m (pc + 1) ls (.int v :: rest))) : W p l e R s m args below meth c H locs cells slots Q (F0 m pc ls (.int i :: .ref (b + a) :: rest)) := by
  obtain ⟨hx, hb, hml, hown, hts, hr, hlk, ⟨hK, -, -, -⟩, hbs⟩ := X
  obtain ⟨r, h1, h2, rfl⟩ := ald_spec hg
  exact va_iald hx hb hK S.1.1 a 0 (rw_at h1) rfl h2 hdg kk
theorem r_ast (X : CX own cc nL rt p s m args meth c G b) (S : ST G b False s h H locs) {a : Nat} {i x : Int32} {h' : HP} (hg : ast h a i x = some h') (hdg : decode cc pc = .ok (.iastore, 1)) (kk : ∀ (H1 : Heap) (locs1 : List Loc), ST G b False s h' H1 locs1 → W p l e R s m args below meth c H1 locs1 cells slots Q (F0 m (pc + 1) ls rest)) : W p l e R s m args below meth c H locs cells slots Q (F0 m pc ls (.int x :: .int i :: .ref (b + a) :: rest)) := by
  obtain ⟨hx, hb, hml, hown, hts, hr, hlk, ⟨hK, -, -, -⟩, hbs⟩ := X
  obtain ⟨r, h1, h2, rfl⟩ := ast_spec hg
  exact va_iast hx hb hK S.1.1 rw_D S.2 a 0 (rw_at h1) rfl h2 hdg (fun H1 locs1 hP hD hS => kk H1 locs1 ⟨RH.set0 hP, hS⟩)
theorem r_alen (X : CX own cc nL rt p s m args meth c G b) (S : ST G b z s h H locs) {a : Nat} {v : Int32} (hg : alen h a = some v) (hdg : decode cc pc = .ok (.arraylength, 1)) (kk : W p l e R s m args below meth c H locs cells slots Q (F0 m (pc + 1) ls (.int v :: rest))) : W p l e R s m args below meth c H locs cells slots Q (F0 m pc ls (.ref (b + a) :: rest)) := by
  obtain ⟨hx, hb, hml, hown, hts, hr, hlk, ⟨hK, -, -, -⟩, hbs⟩ := X
  unfold alen at hg
  split at hg
  · rename_i r h1
    exact va_alen hx hb hK S.1.1 a 0 (rw_at h1) rfl (Option.some.inj hg) hdg kk
  · rename_i r h1
    obtain ⟨w, n, f⟩ := r
    cases w
    · exact va_alen hx hb hK S.1.1 a 1 (rw_at h1) rfl (Option.some.inj hg) hdg kk
    · exact va_alen hx hb hK S.1.1 a 2 (rw_at h1) rfl (Option.some.inj hg) hdg kk
  · cases hg
theorem r_qld (X : CX own cc nL rt p s m args meth c G b) (S : ST G b z s h H locs) {a v : Nat} {i : Int32} (hg : qld h a i = some v) (hdg : decode cc pc = .ok (.aaload, 1)) (kk : W p l e R s m args below meth c H locs cells slots Q (F0 m (pc + 1) ls (.ref (b + v) :: rest))) : W p l e R s m args below meth c H locs cells slots Q (F0 m pc ls (.int i :: .ref (b + a) :: rest)) := by
  obtain ⟨hx, hb, hml, hown, hts, hr, hlk, ⟨hK, -, -, -⟩, hbs⟩ := X
  obtain ⟨⟨w, n, f⟩, h1, h2, h3⟩ := qld_spec hg
  have h3 : f i.toNatClampNeg = some v := h3
  have hk : W p l e R s m args below meth c H locs cells slots Q (F0 m (pc + 1) ls (va_rf ((f i.toNatClampNeg).map (fun k => b + k)) :: rest)) := by rw [h3]; exact kk
  cases w
  · exact va_aldq hx hb hK S.1.1 a 1 (rw_at h1) rfl h2 hdg hk
  · exact va_aldq hx hb hK S.1.1 a 2 (rw_at h1) rfl h2 hdg hk
end RR
end
section
theorem RK.warm {G : GT} {s U : State} (hW : s.WarmedH U.vm) (h : RK G s) : RK G U := ⟨va_K.moved hW.alike h.1, fun q hq => va_Nw.warmM hW (h.2.1 q hq), va_AO.moved hW.alike h.2.2.1, va_AO.moved hW.alike h.2.2.2⟩
theorem RK.blind {G : GT} {U : State} {g : JFrame} {mk : MethodId} {a : Array Value} (h : RK G U) : RK G (U.calling g mk a) := ⟨va_K.moved (u := U) (U := U.calling g mk a) (Vm.Alike.refl U.vm) h.1, fun q hq => va_Nw.same rfl (u := U) rfl (h.2.1 q hq), va_AO.moved (u := U) (U := U.calling g mk a) (Vm.Alike.refl U.vm) h.2.2.1, va_AO.moved (u := U) (U := U.calling g mk a) (Vm.Alike.refl U.vm) h.2.2.2⟩
theorem PP.blind {G : GT} {b : Nat} {z : Prop} {h : HP} {av : List Value} : FrameBlind (va_Pc av (PP G b z h)) := by
  intro a U g mk q
  obtain ⟨q0, qR, qK, qb⟩ := q
  exact ⟨q0, qR, qK.blind, qb⟩
theorem ST.low {G : GT} {b : Nat} {z : Prop} {s : State} {h : HP} {H : Heap} {locs : List Loc} (S : ST G b z s h H locs) : ST G b False s h H locs := ⟨⟨S.1.1, fun q => q.elim⟩, S.2⟩
section RR2
variable {p : Program} {l : Launch} {e : Env} {R : Room} {s : State} {m : MethodId} {args : Array Value} {below : List Frame} {meth : Method} {c : Code} {H : Heap} {locs : List Loc} {cells slots : Nat} {Q : State → Prop} {pc : Nat} {ls : Array Slot} {rest : List Value} {G : GT} {b : Nat} {z z' : Prop} {own : String} {cc : ByteArray} {nL : Nat} {rt : Option FieldType} {h h' : HP}
theorem ST.size (X : CX own cc nL rt p s m args meth c G b) (S : ST G b z s h H locs) : b ≤ H.size := Nat.le_trans X.2.2.2.2.2.2.2.2 S.2.1
theorem ST.pre (X : CX own cc nL rt p s m args meth c G b) (S : ST G b z s h H locs) {av : List Value} : ∀ U : State, U.heap = H → s.WarmedH U.vm → va_Pc av (PP G b z h) av.toArray U := fun U hU hW => ⟨rfl, by rw [hU]; exact S.1, RK.warm hW X.2.2.2.2.2.2.2.1, by rw [hU]; exact S.size X⟩
theorem r_qst (X : CX own cc nL rt p s m args meth c G b) (S : ST G b z s h H locs) {a x : Nat} {i : Int32} (hg : qst h a i x = some h') (hdg : decode cc pc = .ok (.aastore, 1)) (kk : ∀ (H1 : Heap) (locs1 : List Loc), ST G b z s h' H1 locs1 → W p l e R s m args below meth c H1 locs1 cells slots Q (F0 m (pc + 1) ls rest)) : W p l e R s m args below meth c H locs cells slots Q (F0 m pc ls (.ref (b + x) :: .int i :: .ref (b + a) :: rest)) := by
  obtain ⟨hx, hb, hml, hown, hts, hr, hlk, ⟨hK, -, -, -⟩, hbs⟩ := X
  obtain ⟨⟨w, n, f⟩, fs, h1, h2, h3, rfl⟩ := qst_spec hg
  have h2 : vp_in i n := h2
  have hlt : i.toNatClampNeg < n := Nat.not_le.mp fun q => h2 (Or.inr q)
  have h0 : ¬ i < 0 := fun q => h2 (Or.inl q)
  have hat := rw_at (G := G) (b := b) h1
  have hax := rw_at (G := G) (b := b) h3
  obtain ⟨r', hr', cellV, g1, g2, g3, -⟩ := S.1.1 x _ hax
  cases w with
  | false =>
    have hcls := (hK.1 3 _ rfl).2
    obtain ⟨kA, comp, k1, k2, k3, -⟩ := (hK.2 1 _ rfl).2
    have hcomp : comp = G.1.1 3 := Option.some.inj (k3.symm.trans hcls.1)
    subst hcomp
    obtain ⟨kC, hkC, -⟩ := hcls.2
    refine W.aast hx hb (S.1.1 a _ hat) (fun q h => by cases h) (fun h => by cases h) k1 k2 rfl hkC ⟨h0, by show _ < (arrV _ _ _).slots.size; rw [arrV_size]; exact hlt⟩ g1 (fun q h => by rw [g3] at h; cases h) (by rw [g2]; exact hkC) (by rw [g2]; exact va_assign hcls) rfl rfl hdg fun H1 e z1 oq => ?_
    refine kk H1 _ ⟨S.1.set (S.1.1.set rw_D hat ?_ oq) z1, S.2.put z1 oq (rw_D.2 a _ hat)⟩
    show H1[b + a]? = some (vp_cell _ _)
    rw [e]
    show some ((vp_cell _ _).setSlot _ _) = _
    rw [vp_cell_q, vp_cell_q, arrV_store]
    congr 2
    funext q
    by_cases hq : q = i.toNatClampNeg
    · subst hq
      simp [updV, va_up, va_rf]
    · simp [updV, va_up, hq]
  | true =>
    have hcls := (hK.1 4 _ rfl).2
    obtain ⟨kA, comp, k1, k2, k3, -⟩ := (hK.2 2 _ rfl).2
    have hcomp : comp = G.1.1 4 := Option.some.inj (k3.symm.trans hcls.1)
    subst hcomp
    obtain ⟨kC, hkC, -⟩ := hcls.2
    refine W.aast hx hb (S.1.1 a _ hat) (fun q h => by cases h) (fun h => by cases h) k1 k2 rfl hkC ⟨h0, by show _ < (arrV _ _ _).slots.size; rw [arrV_size]; exact hlt⟩ g1 (fun q h => by rw [g3] at h; cases h) (by rw [g2]; exact hkC) (by rw [g2]; exact va_assign hcls) rfl rfl hdg fun H1 e z1 oq => ?_
    refine kk H1 _ ⟨S.1.set (S.1.1.set rw_D hat ?_ oq) z1, S.2.put z1 oq (rw_D.2 a _ hat)⟩
    show H1[b + a]? = some (vp_cell _ _)
    rw [e]
    show some ((vp_cell _ _).setSlot _ _) = _
    rw [vp_cell_q, vp_cell_q, arrV_store]
    congr 2
    funext q
    by_cases hq : q = i.toNatClampNeg
    · subst hq
      simp [updV, va_up, va_rf]
    · simp [updV, va_up, hq]
/-- System.arraycopy of ints -/
def CP (own : String) (index : Nat) : Prop := Cond.methodLink own index arraycopyName ∈ tg ∧ Cond.native arraycopyName ∈ tg ∧ Cond.static arraycopyName ∈ tg ∧ Cond.initialized "java/lang/System" ∈ tg
theorem r_cpy (X : CX own cc nL rt p s m args meth c G b) (S : ST G b False s h H locs) (hsz : ls.size = nL) {a a2 index : Nat} {sp dp n : Int32} (hC : CP own index) (hg : cpy h a sp a2 dp n = some h') (hfr : 1 ≤ R.frames) (hlo : (rest.map fun v => v.category).sum + 18 ≤ R.locals) (hdg : decode cc pc = .ok (.invokestatic index, 3)) (kk : ∀ (H1 : Heap) (locs1 : List Loc), ST G b False s h' H1 locs1 → W p l e R s m args below meth c H1 locs1 cells slots Q (F0 m (pc + 3) ls rest)) : W p l e R s m args below meth c H locs cells slots Q (F0 m pc ls (.int n :: .int dp :: .ref (b + a2) :: .int sp :: .ref (b + a) :: rest)) := by
  obtain ⟨hx, hb, hml, hown, hts, hr, hlk, ⟨hK, -, -, -⟩, hbs⟩ := X
  obtain ⟨r, t, h1, h2, k1, k2, k3, k4, k5, rfl⟩ := cpy_spec hg
  exact va_copyi hx hb (by rw [hml, hsz]) hown (hts _ hC.1) (hts _ hC.2.1) (hts _ hC.2.2.1) (hts _ hC.2.2.2) hK S.1.1 rw_D S.2 a a2 0 0 (ty := .int) (rw_at h1) (rw_at h2) rfl rfl rfl k1 k2 k3 k4 k5 (fun i _ => rfl) hfr (by
    have : nativeFrameWords "java/lang/System" "arraycopy" 5 = 7 := by decide
    rw [this]; exact hlo) hdg (fun H1 locs1 hP hD hS => kk H1 locs1 ⟨RH.set0 hP, hS⟩)
/-- a cell is made -/
def NW (own : String) (index ci N : Nat) (fs : List MV) : Prop := ∃ (C : String) (T : u_T) (ty : Nat → FieldType), vwCl[ci]? = some (C, T, N) ∧ (∀ w ∈ u_ws C T N, w ∈ tg) ∧ (∀ k, k < N → parseFieldDescriptor (T k).2.2.1 = some (ty k)) ∧ Cond.classLink own index C ∈ tg ∧ Cond.instantiable C N ∈ tg ∧ Cond.initialized C ∈ tg ∧ ∀ b j, j < N → defaultValue (ty j) = vp_V (fs.map (rv b)) j
theorem RH.push {H1 : Heap} {e1 : ME} (S : RH G b z h H) (hz : H.size = b + h.length) (hz1 : H1.size = b + h.length + 1) (ho : ∀ q, q < b + h.length → H1[q]? = H[q]?) (he : va_at G.1 vwCl (b + h.length, re G b e1) H1) : RH G b z (h ++ [e1]) H1 := by
  refine ⟨?_, fun _ => by rw [hz1, List.length_append]; rfl⟩
  rw [rw_push]
  refine (S.1.kept (fun k x hx => ho x.1 (by have := (S.1 k x hx).lt; omega))).app (fun k x hx => ?_)
  have hz : k < 1 := (List.getElem?_eq_some_iff.mp hx).1
  rw [show k = 0 by omega] at hx
  cases hx
  exact he
theorem ST.grow {H1 : Heap} {e1 : ME} (X : CX own cc nL rt p s m args meth c G b) (S : ST G b True s h H locs) (hz1 : H1.size = b + h.length + 1) (ho : ∀ q, q < b + h.length → H1[q]? = H[q]?) (he : va_at G.1 vwCl (b + h.length, re G b e1) H1) : ST G b True s (h ++ [e1]) H1 locs := by
  have hz := S.1.2 trivial
  have h0 := S.2.1
  exact ⟨S.1.push hz hz1 ho he, ⟨by omega, fun x h1 h2 => (ho x (by omega)).trans (S.2.2.1 x h1 h2), S.2.2.2⟩⟩
theorem r_new (X : CX own cc nL rt p s m args meth c G b) (S : ST G b True s h H locs) {index ci N : Nat} {fs : List MV} (hN : NW own index ci N fs) (hcells : cells + 1 ≤ R.cells) (hslots : slots + N ≤ R.slots) (hdg : decode cc pc = .ok (.new index, 3)) (kk : ∀ (H1 : Heap) (locs1 : List Loc), ST G b True s (h ++ [.inl (ci, fs)]) H1 locs1 → W p l e R s m args below meth c H1 locs1 (cells + 1) (slots + N) Q (F0 m (pc + 3) ls (.ref (b + h.length) :: rest))) : W p l e R s m args below meth c H locs cells slots Q (F0 m pc ls rest) := by
  have X0 := X
  obtain ⟨hx, hb, hml, hown, hts, hr, hlk, ⟨hK, -, -, -⟩, hbs⟩ := X
  obtain ⟨C, T, ty, f1, f2, f3, f4, f5, f6, f7⟩ := hN
  have hKn := hK.1 ci _ f1
  refine W.newcK hx hb hown (hts _ f4) (hts _ f5) (hts _ f6) rfl hdg hcells hslots hKn.2.1 (S.1.2 trivial) fun H1 kC hkC e1 z1 o1 => ?_
  exact kk H1 locs (S.grow X0 z1 o1 ⟨_, f1, (u_born ty hts f2 hKn hkC e1 f3).to (f7 b)⟩)
theorem r_newI (X : CX own cc nL rt p s m args meth c G b) (S : ST G b True s h H locs) {n : Int32} {N : Nat} (harr : Cond.arrayClass .int ∈ tg) (hn : ¬ n < 0) (hN : n.toNatClampNeg = N) (hby : N * 4 ≤ 536870912) (hcells : cells + 1 ≤ R.cells) (hslots : slots + N ≤ R.slots) (hdg : decode cc pc = .ok (.newarray .int, 2)) (kk : ∀ (H1 : Heap) (locs1 : List Loc), ST G b True s (h ++ [.inr (.inl (N, fun _ => 0))]) H1 locs1 → W p l e R s m args below meth c H1 locs1 (cells + 1) (slots + N) Q (F0 m (pc + 2) ls (.ref (b + h.length) :: rest))) : W p l e R s m args below meth c H locs cells slots Q (F0 m pc ls (.int n :: rest)) := by
  have X0 := X
  obtain ⟨hx, hb, hml, hown, hts, hr, hlk, ⟨hK, -, -, -⟩, hbs⟩ := X
  refine va_newaK hx hb (atype := .int) (hts _ harr) rfl hdg rfl hn hN hby hcells hslots (S.1.2 trivial) fun H1 cA e1 z1 o1 hAr hNm => ?_
  have hcA : cA = G.2.1 := Option.some.inj (hNm.symm.trans (hK.2 0 _ rfl).2)
  subst hcA
  refine kk H1 locs (S.grow X0 z1 o1 ?_)
  show H1[b + h.length]? = some (vp_cell _ _)
  rw [vp_cell_i]
  exact e1
theorem r_newQ (X : CX own cc nL rt p s m args meth c G b) (S : ST G b True s h H locs) {n : Int32} {N index : Nat} (w : Bool) (hcl : Cond.classLink own index (if w then RX4 else RX3) ∈ tg) (hn : ¬ n < 0) (hN : n.toNatClampNeg = N) (hby : N * 4 ≤ 536870912) (hcells : cells + 1 ≤ R.cells) (hslots : slots + N ≤ R.slots) (hdg : decode cc pc = .ok (.anewarray index, 3)) (kk : ∀ (H1 : Heap) (locs1 : List Loc), ST G b True s (h ++ [.inr (.inr (w, N, fun _ => none))]) H1 locs1 → W p l e R s m args below meth c H1 locs1 (cells + 1) (slots + N) Q (F0 m (pc + 3) ls (.ref (b + h.length) :: rest))) : W p l e R s m args below meth c H locs cells slots Q (F0 m pc ls (.int n :: rest)) := by
  have X0 := X
  obtain ⟨hx, hb, hml, hown, hts, hr, hlk, ⟨hK, -, hA3, hA4⟩, hbs⟩ := X
  have hz := S.1.2 trivial
  subst hN
  have key : ∀ (H1 : Heap) (cA : ClassId), cA = (if w then G.2.2.2 else G.2.2.1) → H1 = H.push ({ cls := cA, slots := Array.replicate n.toNatClampNeg .null, vm := .none } : Cell) → ST G b True s (h ++ [.inr (.inr (w, n.toNatClampNeg, fun _ => none))]) H1 locs := by
    intro H1 cA hcA hH1
    have z1 : H1.size = b + h.length + 1 := by rw [hH1, Array.size_push, hz]
    have e1 : H1[b + h.length]? = some (arrV cA n.toNatClampNeg (fun _ => .null)) := by rw [hH1, ← hz, Array.getElem?_push_size, ← arrV_new]
    have o1 : ∀ q : Nat, q < b + h.length → H1[q]? = H[q]? := fun q hq => by rw [hH1, Array.getElem?_push, if_neg (by omega)]
    refine S.grow X0 z1 o1 ?_
    show H1[b + h.length]? = some (vp_cell _ _)
    rw [vp_cell_q, e1, hcA]
    rfl
  cases w with
  | false =>
    obtain ⟨kA', comp', k1, k2, k3, k4⟩ := (hK.2 1 _ rfl).2
    refine W.anew hx hb hown (hts _ hcl) (va_AO.use hA3) rfl hdg rfl hn hby hcells hslots fun cA kA comp f1 f2 f3 f4 => ?_
    have hS := key _ cA (Option.some.inj (f1.symm.trans k4)) rfl
    refine W.eq (g2 := F0 m (pc + 3) ls (.ref (b + h.length) :: rest)) (by rw [hz]) (kk _ locs hS)
  | true =>
    obtain ⟨kA', comp', k1, k2, k3, k4⟩ := (hK.2 2 _ rfl).2
    refine W.anew hx hb hown (hts _ hcl) (va_AO.use hA4) rfl hdg rfl hn hby hcells hslots fun cA kA comp f1 f2 f3 f4 => ?_
    have hS := key _ cA (Option.some.inj (f1.symm.trans k4)) rfl
    refine W.eq (g2 := F0 m (pc + 3) ls (.ref (b + h.length) :: rest)) (by rw [hz]) (kk _ locs hS)
/-! calls -/
theorem r_run (X : CX own cc nL rt p s m args meth c G b) (S : ST G b z s h H locs) {mc ms : Nat} {a : Array Value} {ro : Option Value} {st0 : List Value} (hr : va_Run p l e R s m args below meth c H locs cells slots mc ms (F0 m pc ls st0) rest (QQ G b z' ro h' a) (AB b)) (kk : ∀ (H1 : Heap) (locs1 : List Loc), ST G b z' s h' H1 locs1 → W p l e R s m args below meth c H1 locs1 (cells + mc) (slots + ms) Q (F0 m (pc + 3) ls (ro.toList ++ rest))) : W p l e R s m args below meth c H locs cells slots Q (F0 m pc ls st0) := by
  intro T hT X0
  obtain ⟨v, st₀, t, T', L, h0, X', hL, e1, e2, ⟨⟨hv, hR⟩, hz, hk⟩, st⟩ := hr T hT X0
  have hv : v = ro := by cases hv; rfl
  subst hv
  rw [h0] at hz hk
  obtain ⟨t2, a1, b1⟩ := kk T'.heap (locs ++ L) ⟨by rw [e1]; exact hR, Nat.le_trans S.2.1 (by rw [e1]; exact hz), fun q h1 h2 => by rw [e1, hk q (Nat.lt_of_lt_of_le h1 S.2.1) h2]; exact S.2.2.1 q h1 h2, fun q hq => by
      rcases List.mem_append.mp hq with h | h
      · exact S.2.2.2 q h
      · exact hL q h⟩ T' rfl X'
  exact ⟨t2, st t2 a1, b1⟩
/-- a called method: its name, code, its number of arguments; st: static, or the words for a call on an object -/
abbrev MT (l : Launch) (G : GT) (b : Nat) (z z' : Prop) (y : MethodName) (bytes : ByteArray) (maxL : Nat) (rt : Option FieldType) (rm : Room) (av : List Value) (h : HP) (ro : Option Value) (h' : HP) (mc ms : Nat) : Prop := Met l y (.code y bytes maxL rt :: tg) rm (va_Pc av (PP G b z h)) (QQ G b z' ro h') mc ms (AB b)
/-- what is fixed of a method that is called -/
def MY (y : MethodName) (bytes : ByteArray) (maxL : Nat) (rt : Option FieldType) (n : Nat) : Prop := Cond.code y bytes maxL rt ∈ tg ∧ Cond.initialized y.cls ∈ tg ∧ y.cls ≠ "java/lang/invoke/MethodHandle" ∧ y.cls ≠ "java/lang/invoke/VarHandle" ∧ (parseMethodDescriptor y.desc).map (fun d => d.parameters.length) = some n
def MV1 (y : MethodName) : Prop := Cond.instanceMethod y ∈ tg ∧ Cond.selects y.cls y y ∈ tg
theorem my_B {own : String} {y : MethodName} {bytes : ByteArray} {maxL n index : Nat} {rt' : Option FieldType} {rm : Room} {mc ms : Nat} (hts : ∀ w ∈ tg, w.before args s = true) (hy : MY y bytes maxL rt' n) (hl : Cond.methodLink own index y ∈ tg) (hrm : rm.cells = mc ∧ rm.slots = ms ∧ rm.frames + 1 ≤ R.frames ∧ 8 + (maxL + 11) + rm.locals ≤ R.locals) : CallB R s args own index y bytes maxL rt' (.code y bytes maxL rt' :: tg) rm mc ms n :=
  callB_of n hts (tg_code hy.1) rfl hrm.1 hrm.2.1 (hts _ hy.2.1) (hts _ hl) ⟨hy.2.2.1, hy.2.2.2.1, hy.2.2.2.2⟩ hrm.2.2
theorem my_N {own host : String} {y : MethodName} {bytes : ByteArray} {maxL n index : Nat} {rt' : Option FieldType} {rm : Room} {mc ms : Nat} (hK : RK G s) (hts : ∀ w ∈ tg, w.before args s = true) (hy : MY y bytes maxL rt' n) (hl : (own, index, y, host) ∈ nwL) (hrm : rm.cells = mc ∧ rm.slots = ms ∧ rm.frames + 1 ≤ R.frames ∧ 8 + (maxL + 11) + rm.locals ≤ R.locals) : va_CN R s args own index y host bytes maxL rt' (.code y bytes maxL rt' :: tg) rm mc ms n :=
  va_cnB n hts (tg_code hy.1) rfl hrm.1 hrm.2.1 (hK.2.1 _ hl) (hts _ hy.2.1) ⟨hy.2.2.1, hy.2.2.2.1, hy.2.2.2.2⟩ hrm.2.2
theorem r_recv (X : CX own cc nL rt p s m args meth c G b) (S : ST G b z s h H locs) {a ci N : Nat} {C : String} {T : u_T} (hc : vwCl[ci]? = some (C, T, N)) (ho : ∃ fs, h[a]? = some (.inl (ci, fs))) : ∃ cell : Cell, H[b + a]? = some cell ∧ cell.vm.isStatics = false ∧ s.vm.findClass C = some cell.cls := by
  obtain ⟨fs, ho⟩ := ho
  exact va_recv X.2.2.2.2.2.2.2.1.1 S.1.1 hc (rw_at ho)
theorem r_callV (X : CX own cc nL rt p s m args meth c G b) (S : ST G b z s h H locs) (hsz : ls.size = nL) {y : MethodName} {bytes : ByteArray} {maxL n index a ci N : Nat} {rt' : Option FieldType} {rm : Room} {mc ms : Nat} {As st0 : List Value} {ro : Option Value} {T : u_T} (hM : MT l G b z z' y bytes maxL rt' rm (.ref (b + a) :: As) h ro h' mc ms) (hy : MY y bytes maxL rt' n) (hv : MV1 y) (hl : Cond.methodLink own index y ∈ tg) (hc : vwCl[ci]? = some (y.cls, T, N)) (ho : ∃ fs, h[a]? = some (.inl (ci, fs))) (hrm : rm.cells = mc ∧ rm.slots = ms ∧ rm.frames + 1 ≤ R.frames ∧ 8 + (maxL + 11) + rm.locals ≤ R.locals) (hn : As.length = n) (hst : st0 = As.reverse ++ .ref (b + a) :: rest) (hw : (rest.map fun v => v.category).sum ≤ 8) (hdg : decode cc pc = .ok (.invokevirtual index, 3)) (hroom : cells + mc ≤ R.cells ∧ slots + ms ≤ R.slots) (kk : ∀ (H1 : Heap) (locs1 : List Loc), ST G b z' s h' H1 locs1 → W p l e R s m args below meth c H1 locs1 (cells + mc) (slots + ms) Q (F0 m (pc + 3) ls (ro.toList ++ rest))) : W p l e R s m args below meth c H locs cells slots Q (F0 m pc ls st0) := by
  have X0 := X
  obtain ⟨hx, hb, hml, hown, hts, hr, hlk, hK, hbs⟩ := X
  exact r_run X0 S (va_runV (As := As) (rest := rest) ⟨hx, hb, hml, hown, hts⟩ hM ⟨my_B hts hy hl hrm, hts _ hv.1, hts _ hv.2⟩ ⟨PP.blind, r_recv X0 S hc ho, S.pre X0⟩ rfl hn hsz hst (lv_room hw) hdg hroom) kk
theorem r_callVN (X : CX own cc nL rt p s m args meth c G b) (S : ST G b z s h H locs) (hsz : ls.size = nL) {y : MethodName} {host : String} {bytes : ByteArray} {maxL n index a ci N : Nat} {rt' : Option FieldType} {rm : Room} {mc ms : Nat} {As st0 : List Value} {ro : Option Value} {T : u_T} (hM : MT l G b z z' y bytes maxL rt' rm (.ref (b + a) :: As) h ro h' mc ms) (hy : MY y bytes maxL rt' n) (hv : MV1 y) (hl : (own, index, y, host) ∈ nwL) (hc : vwCl[ci]? = some (y.cls, T, N)) (ho : ∃ fs, h[a]? = some (.inl (ci, fs))) (hrm : rm.cells = mc ∧ rm.slots = ms ∧ rm.frames + 1 ≤ R.frames ∧ 8 + (maxL + 11) + rm.locals ≤ R.locals) (hn : As.length = n) (hst : st0 = As.reverse ++ .ref (b + a) :: rest) (hw : (rest.map fun v => v.category).sum ≤ 8) (hdg : decode cc pc = .ok (.invokevirtual index, 3)) (hroom : cells + mc ≤ R.cells ∧ slots + ms ≤ R.slots) (kk : ∀ (H1 : Heap) (locs1 : List Loc), ST G b z' s h' H1 locs1 → W p l e R s m args below meth c H1 locs1 (cells + mc) (slots + ms) Q (F0 m (pc + 3) ls (ro.toList ++ rest))) : W p l e R s m args below meth c H locs cells slots Q (F0 m pc ls st0) := by
  have X0 := X
  obtain ⟨hx, hb, hml, hown, hts, hr, hlk, hK, hbs⟩ := X
  exact r_run X0 S (va_runVN (As := As) (rest := rest) ⟨hx, hb, hml, hown, hts⟩ hM ⟨my_N hK hts hy hl hrm, hts _ hv.1, hts _ hv.2⟩ ⟨PP.blind, r_recv X0 S hc ho, S.pre X0⟩ rfl hn hsz hst (lv_room hw) hdg hroom) kk
theorem r_callS (X : CX own cc nL rt p s m args meth c G b) (S : ST G b z s h H locs) (hsz : ls.size = nL) {y : MethodName} {bytes : ByteArray} {maxL n index : Nat} {rt' : Option FieldType} {rm : Room} {mc ms : Nat} {As st0 : List Value} {ro : Option Value} (hM : MT l G b z z' y bytes maxL rt' rm As h ro h' mc ms) (hy : MY y bytes maxL rt' n) (hv : Cond.static y ∈ tg) (hl : Cond.methodLink own index y ∈ tg) (hrm : rm.cells = mc ∧ rm.slots = ms ∧ rm.frames + 1 ≤ R.frames ∧ 8 + (maxL + 11) + rm.locals ≤ R.locals) (hn : As.length = n) (hst : st0 = As.reverse ++ rest) (hw : (rest.map fun v => v.category).sum ≤ 8) (hdg : decode cc pc = .ok (.invokestatic index, 3)) (hroom : cells + mc ≤ R.cells ∧ slots + ms ≤ R.slots) (kk : ∀ (H1 : Heap) (locs1 : List Loc), ST G b z' s h' H1 locs1 → W p l e R s m args below meth c H1 locs1 (cells + mc) (slots + ms) Q (F0 m (pc + 3) ls (ro.toList ++ rest))) : W p l e R s m args below meth c H locs cells slots Q (F0 m pc ls st0) := by
  have X0 := X
  obtain ⟨hx, hb, hml, hown, hts, hr, hlk, hK, hbs⟩ := X
  exact r_run X0 S (va_runS (As := As) (rest := rest) ⟨hx, hb, hml, hown, hts⟩ hM ⟨my_B hts hy hl hrm, hts _ hv⟩ ⟨PP.blind, S.pre X0⟩ rfl hn hsz hst (lv_room hw) hdg hroom) kk
theorem r_callSN (X : CX own cc nL rt p s m args meth c G b) (S : ST G b z s h H locs) (hsz : ls.size = nL) {y : MethodName} {host : String} {bytes : ByteArray} {maxL n index : Nat} {rt' : Option FieldType} {rm : Room} {mc ms : Nat} {As st0 : List Value} {ro : Option Value} (hM : MT l G b z z' y bytes maxL rt' rm As h ro h' mc ms) (hy : MY y bytes maxL rt' n) (hv : Cond.static y ∈ tg) (hl : (own, index, y, host) ∈ nwL) (hrm : rm.cells = mc ∧ rm.slots = ms ∧ rm.frames + 1 ≤ R.frames ∧ 8 + (maxL + 11) + rm.locals ≤ R.locals) (hn : As.length = n) (hst : st0 = As.reverse ++ rest) (hw : (rest.map fun v => v.category).sum ≤ 8) (hdg : decode cc pc = .ok (.invokestatic index, 3)) (hroom : cells + mc ≤ R.cells ∧ slots + ms ≤ R.slots) (kk : ∀ (H1 : Heap) (locs1 : List Loc), ST G b z' s h' H1 locs1 → W p l e R s m args below meth c H1 locs1 (cells + mc) (slots + ms) Q (F0 m (pc + 3) ls (ro.toList ++ rest))) : W p l e R s m args below meth c H locs cells slots Q (F0 m pc ls st0) := by
  have X0 := X
  obtain ⟨hx, hb, hml, hown, hts, hr, hlk, hK, hbs⟩ := X
  exact r_run X0 S (va_runSN (As := As) (rest := rest) ⟨hx, hb, hml, hown, hts⟩ hM ⟨my_N hK hts hy hl hrm, hts _ hv, trivial⟩ ⟨PP.blind, S.pre X0⟩ rfl hn hsz hst (lv_room hw) hdg hroom) kk
theorem r_callI (X : CX own cc nL rt p s m args meth c G b) (S : ST G b z s h H locs) (hsz : ls.size = nL) {y : MethodName} {bytes : ByteArray} {maxL n index a : Nat} {rm : Room} {mc ms : Nat} {As st0 : List Value} (hM : MT l G b z z' y bytes maxL none rm (.ref (b + a) :: As) h none h' mc ms) (hy : MY y bytes maxL none n) (hi : y.name = "<init>") (hv : Cond.instanceMethod y ∈ tg) (hl : Cond.methodLink own index y ∈ tg) (hrm : rm.cells = mc ∧ rm.slots = ms ∧ rm.frames + 1 ≤ R.frames ∧ 8 + (maxL + 11) + rm.locals ≤ R.locals) (hn : As.length = n) (hst : st0 = As.reverse ++ .ref (b + a) :: rest) (hw : (rest.map fun v => v.category).sum ≤ 8) (hdg : decode cc pc = .ok (.invokespecial index, 3)) (hroom : cells + mc ≤ R.cells ∧ slots + ms ≤ R.slots) (kk : ∀ (H1 : Heap) (locs1 : List Loc), ST G b z' s h' H1 locs1 → W p l e R s m args below meth c H1 locs1 (cells + mc) (slots + ms) Q (F0 m (pc + 3) ls rest)) : W p l e R s m args below meth c H locs cells slots Q (F0 m pc ls st0) := by
  have X0 := X
  obtain ⟨hx, hb, hml, hown, hts, hr, hlk, hK, hbs⟩ := X
  exact r_run X0 S (va_runI (As := As) (rest := rest) ⟨hx, hb, hml, hown, hts⟩ hM ⟨my_B hts hy hl hrm, hi, hts _ hv⟩ ⟨PP.blind, S.pre X0⟩ rfl hn hsz hst (lv_room hw) hdg hroom) kk
theorem r_callIN (X : CX own cc nL rt p s m args meth c G b) (S : ST G b z s h H locs) (hsz : ls.size = nL) {y : MethodName} {host : String} {bytes : ByteArray} {maxL n index a : Nat} {rm : Room} {mc ms : Nat} {As st0 : List Value} (hM : MT l G b z z' y bytes maxL none rm (.ref (b + a) :: As) h none h' mc ms) (hy : MY y bytes maxL none n) (hi : y.name = "<init>") (hv : Cond.instanceMethod y ∈ tg) (hl : (own, index, y, host) ∈ nwL) (hrm : rm.cells = mc ∧ rm.slots = ms ∧ rm.frames + 1 ≤ R.frames ∧ 8 + (maxL + 11) + rm.locals ≤ R.locals) (hn : As.length = n) (hst : st0 = As.reverse ++ .ref (b + a) :: rest) (hw : (rest.map fun v => v.category).sum ≤ 8) (hdg : decode cc pc = .ok (.invokespecial index, 3)) (hroom : cells + mc ≤ R.cells ∧ slots + ms ≤ R.slots) (kk : ∀ (H1 : Heap) (locs1 : List Loc), ST G b z' s h' H1 locs1 → W p l e R s m args below meth c H1 locs1 (cells + mc) (slots + ms) Q (F0 m (pc + 3) ls rest)) : W p l e R s m args below meth c H locs cells slots Q (F0 m pc ls st0) := by
  have X0 := X
  obtain ⟨hx, hb, hml, hown, hts, hr, hlk, hK, hbs⟩ := X
  exact r_run X0 S (va_runIN (As := As) (rest := rest) ⟨hx, hb, hml, hown, hts⟩ hM ⟨my_N hK hts hy hl hrm, hi, hts _ hv⟩ ⟨PP.blind, S.pre X0⟩ rfl hn hsz hst (lv_room hw) hdg hroom) kk
/-! a body's end -/
abbrev ZI (p : Program) (l : Launch) (e : Env) (R : Room) (s : State) (m : MethodId) (args : Array Value) (below : List Frame) (meth : Method) (c : Code) (cc : ByteArray) (G : GT) (b : Nat) (z : Prop) (mc ms : Nat) (Q : State → Prop) (out : Int32 × HP) : Prop := ∀ (pc : Nat) (H : Heap) (locs : List Loc) (ls : Array Slot), decode cc pc = .ok (.ireturn, 1) → ST G b z s out.2 H locs → W p l e R s m args below meth c H locs mc ms Q (F0 m pc ls [.int out.1])
abbrev ZR (p : Program) (l : Launch) (e : Env) (R : Room) (s : State) (m : MethodId) (args : Array Value) (below : List Frame) (meth : Method) (c : Code) (cc : ByteArray) (G : GT) (b : Nat) (z : Prop) (mc ms : Nat) (Q : State → Prop) (out : Option Nat × HP) : Prop := ∀ (pc : Nat) (H : Heap) (locs : List Loc) (ls : Array Slot), decode cc pc = .ok (.areturn, 1) → ST G b z s out.2 H locs → W p l e R s m args below meth c H locs mc ms Q (F0 m pc ls [rv b (.inr out.1)])
abbrev ZV (p : Program) (l : Launch) (e : Env) (R : Room) (s : State) (m : MethodId) (args : Array Value) (below : List Frame) (meth : Method) (c : Code) (cc : ByteArray) (G : GT) (b : Nat) (z : Prop) (mc ms : Nat) (Q : State → Prop) (out : HP) : Prop := ∀ (pc : Nat) (H : Heap) (locs : List Loc) (ls : Array Slot), decode cc pc = .ok (.return_, 1) → ST G b z s out H locs → W p l e R s m args below meth c H locs mc ms Q (F0 m pc ls [])
theorem z_i (X : CX own cc nL (some .int) p s m args meth c G b) {out : Int32 × HP} {mc ms : Nat} : ZI p l e R s m args below meth c cc G b z mc ms (MQ below (QQ G b z (some (.int out.1)) out.2) args s mc ms (AB b)) out := by
  intro pc H locs ls hd S
  exact W.iret X.1 X.2.1 X.2.2.2.2.2.1 (fun t ht hW => ⟨⟨rfl, by rw [ht]; exact S.1⟩, S.2.F ht⟩) S.2.2.2 hd X.2.2.2.2.2.2.1
theorem z_z (X : CX own cc nL (some .boolean) p s m args meth c G b) {out : Int32 × HP} {mc ms : Nat} (hn : out.1 = 0 ∨ out.1 = 1) : ZI p l e R s m args below meth c cc G b z mc ms (MQ below (QQ G b z (some (.int out.1)) out.2) args s mc ms (AB b)) out := by
  intro pc H locs ls hd S
  exact W.zret X.1 X.2.1 X.2.2.2.2.2.1 (by rcases hn with h | h <;> rw [h] <;> rfl) (fun t ht hW => ⟨⟨rfl, by rw [ht]; exact S.1⟩, S.2.F ht⟩) S.2.2.2 hd X.2.2.2.2.2.2.1
theorem z_v (X : CX own cc nL none p s m args meth c G b) {out : HP} {mc ms : Nat} : ZV p l e R s m args below meth c cc G b z mc ms (MQ below (QQ G b z none out) args s mc ms (AB b)) out := by
  intro pc H locs ls hd S
  exact W.vret X.1 X.2.1 X.2.2.2.2.2.1 (fun t ht hW => ⟨⟨rfl, by rw [ht]; exact S.1⟩, S.2.F ht⟩) S.2.2.2 hd X.2.2.2.2.2.2.1
theorem z_r {n : String} (X : CX own cc nL (some (.object n)) p s m args meth c G b) {out : Option Nat × HP} {mc ms : Nat} : ZR p l e R s m args below meth c cc G b z mc ms (MQ below (QQ G b z (some (rv b (.inr out.1))) out.2) args s mc ms (AB b)) out := by
  intro pc H locs ls hd S
  refine W.aret X.1 X.2.1 X.2.2.2.2.2.1 (Or.inl ⟨n, rfl⟩) ?_ (fun t ht hW => ⟨⟨rfl, by rw [ht]; exact S.1⟩, S.2.F ht⟩) S.2.2.2 hd X.2.2.2.2.2.2.1
  cases out.1 with
  | none => exact Or.inl rfl
  | some k => exact Or.inr ⟨b + k, rfl⟩
end RR2
/-- a contract out of a walk of the body -/
theorem met_of {l : Launch} {G : GT} {b : Nat} {z z' : Prop} {y : MethodName} {cc : ByteArray} {maxL : Nat} {rt : Option FieldType} {rm : Room} {av : List Value} {h : HP} {ro : Option Value} {h' : HP} {mc ms : Nat} (hy : plainName y.cls = true) (hle : (lg_sl av).length ≤ maxL)
    (body : ∀ (p : Program) (e : Env) (s : State) (m : MethodId) (below : List Frame) (meth : Method) (c : Code) (ls : Array Slot), CX y.cls cc maxL rt p s m av.toArray meth c G b → meth.name = y.name → ST G b z s h s.heap [] → lv_has ls maxL (lv_args 0 av) → W p l e rm s m av.toArray below meth c s.heap [] 0 0 (MQ below (QQ G b z' ro h') av.toArray s mc ms (AB b)) (F0 m 0 ls [])) : MT l G b z z' y cc maxL rt rm av h ro h' mc ms := by
  refine Met.ofW (cc := cc) (maxL := maxL) (ret := rt) hy rfl ?_
  intro p e s m args below meth c s₁ B hml hv
  obtain ⟨rfl, hR, hK, hbz⟩ := hv
  have hts := atoms_spec (ws := .code y cc maxL rt :: tg) B.pre
  have hl := lv_entry av hle
  rw [lg_entry_eq]
  exact body p e s m below meth c _ ⟨B.exec, B.bytes, hml, findClass_of_methodNamed B.named, fun w hw => hts w (List.mem_cons_of_mem _ hw), B.returns, B.notSynchronized, hK, hbz⟩ (name_of_methodNamed B.named B.method).1 ⟨hR, va_S.rf⟩ hl
end
