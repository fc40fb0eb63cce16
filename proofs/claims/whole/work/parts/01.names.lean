-- ===== PART A: goes FIRST, ahead of the names: the tables' words, and 'selects' of the private methods out of them =====
/-- a private method of a class that the tables say can be made, by its rows of tables_1 -/
def lw_okq (q : MethodName × Nat) : Prop := (q.1.cls ≠ "java/lang/invoke/MethodHandle" ∧ q.1.cls ≠ "java/lang/invoke/VarHandle") ∧ Cond.instantiable q.1.cls q.2 ∈ tables_1 ∧ Cond.privateMethod q.1 ∈ tables_1 ∧ Cond.instanceMethod q.1 ∈ tables_1
theorem lw_p0 : lw_okq (⟨"TuneToEachHouse$Text", "byteHere", "()I"⟩, 3) := ⟨⟨by decide +kernel, by decide +kernel⟩, List.mem_of_getElem? (i := 27) (by decide +kernel), List.mem_of_getElem? (i := 255) (by decide +kernel), List.mem_of_getElem? (i := 256) (by decide +kernel)⟩
theorem lw_p1 : lw_okq (⟨"TuneToEachHouse$Text", "readDoors", "(LTuneToEachHouse$Town;)V"⟩, 3) := ⟨⟨by decide +kernel, by decide +kernel⟩, List.mem_of_getElem? (i := 27) (by decide +kernel), List.mem_of_getElem? (i := 259) (by decide +kernel), List.mem_of_getElem? (i := 260) (by decide +kernel)⟩
theorem lw_p2 : lw_okq (⟨"TuneToEachHouse$Text", "letterHere", "()I"⟩, 3) := ⟨⟨by decide +kernel, by decide +kernel⟩, List.mem_of_getElem? (i := 27) (by decide +kernel), List.mem_of_getElem? (i := 263) (by decide +kernel), List.mem_of_getElem? (i := 264) (by decide +kernel)⟩
theorem lw_p3 : lw_okq (⟨"TuneToEachHouse$Text", "readStreet", "(LTuneToEachHouse$Town;)Z"⟩, 3) := ⟨⟨by decide +kernel, by decide +kernel⟩, List.mem_of_getElem? (i := 27) (by decide +kernel), List.mem_of_getElem? (i := 268) (by decide +kernel), List.mem_of_getElem? (i := 269) (by decide +kernel)⟩
theorem lw_p4 : lw_okq (⟨"TuneToEachHouse$Text", "doorHere", "(LTuneToEachHouse$Town;)I"⟩, 3) := ⟨⟨by decide +kernel, by decide +kernel⟩, List.mem_of_getElem? (i := 27) (by decide +kernel), List.mem_of_getElem? (i := 288) (by decide +kernel), List.mem_of_getElem? (i := 289) (by decide +kernel)⟩
theorem lw_p5 : lw_okq (⟨"TuneToEachHouse$Text", "readSong", "(LTuneToEachHouse$Town;)Z"⟩, 3) := ⟨⟨by decide +kernel, by decide +kernel⟩, List.mem_of_getElem? (i := 27) (by decide +kernel), List.mem_of_getElem? (i := 309) (by decide +kernel), List.mem_of_getElem? (i := 310) (by decide +kernel)⟩
theorem lw_p6 : lw_okq (⟨"TuneToEachHouse$Text", "signHere", "()I"⟩, 3) := ⟨⟨by decide +kernel, by decide +kernel⟩, List.mem_of_getElem? (i := 27) (by decide +kernel), List.mem_of_getElem? (i := 313) (by decide +kernel), List.mem_of_getElem? (i := 314) (by decide +kernel)⟩
theorem lw_p7 : lw_okq (⟨"TuneToEachHouse$Tune", "take", "(LTuneToEachHouse$Town;II)V"⟩, 4) := ⟨⟨by decide +kernel, by decide +kernel⟩, List.mem_of_getElem? (i := 135) (by decide +kernel), List.mem_of_getElem? (i := 409) (by decide +kernel), List.mem_of_getElem? (i := 410) (by decide +kernel)⟩
theorem lw_p8 : lw_okq (⟨"TuneToEachHouse$Walk", "isHereThroughout", "(LTuneToEachHouse$Tune;I)Z"⟩, 2) := ⟨⟨by decide +kernel, by decide +kernel⟩, List.mem_of_getElem? (i := 89) (by decide +kernel), List.mem_of_getElem? (i := 426) (by decide +kernel), List.mem_of_getElem? (i := 427) (by decide +kernel)⟩
theorem lw_p9 : lw_okq (⟨"TuneToEachHouse", "isDoorOrNone", "(I)Z"⟩, 9) := ⟨⟨by decide +kernel, by decide +kernel⟩, List.mem_of_getElem? (i := 19) (by decide +kernel), List.mem_of_getElem? (i := 440) (by decide +kernel), List.mem_of_getElem? (i := 441) (by decide +kernel)⟩
theorem lw_p10 : lw_okq (⟨"TuneToEachHouse", "doorsMeant", "(I)I"⟩, 9) := ⟨⟨by decide +kernel, by decide +kernel⟩, List.mem_of_getElem? (i := 19) (by decide +kernel), List.mem_of_getElem? (i := 445) (by decide +kernel), List.mem_of_getElem? (i := 446) (by decide +kernel)⟩
theorem lw_p11 : lw_okq (⟨"TuneToEachHouse$Tune", "countPlace", "(LTuneToEachHouse$Town;I)V"⟩, 4) := ⟨⟨by decide +kernel, by decide +kernel⟩, List.mem_of_getElem? (i := 135) (by decide +kernel), List.mem_of_getElem? (i := 456) (by decide +kernel), List.mem_of_getElem? (i := 457) (by decide +kernel)⟩
theorem lw_p12 : lw_okq (⟨"TuneToEachHouse$Tune", "countedAt", "(LTuneToEachHouse$Town;II)J"⟩, 4) := ⟨⟨by decide +kernel, by decide +kernel⟩, List.mem_of_getElem? (i := 135) (by decide +kernel), List.mem_of_getElem? (i := 461) (by decide +kernel), List.mem_of_getElem? (i := 462) (by decide +kernel)⟩
theorem lw_p13 : lw_okq (⟨"TuneToEachHouse", "areSongAndDoors", "(III)Z"⟩, 9) := ⟨⟨by decide +kernel, by decide +kernel⟩, List.mem_of_getElem? (i := 19) (by decide +kernel), List.mem_of_getElem? (i := 500) (by decide +kernel), List.mem_of_getElem? (i := 501) (by decide +kernel)⟩
theorem lw_p14 : lw_okq (⟨"TuneToEachHouse$Shunning", "stateAt", "(LTuneToEachHouse$Town;II)I"⟩, 8) := ⟨⟨by decide +kernel, by decide +kernel⟩, List.mem_of_getElem? (i := 158) (by decide +kernel), List.mem_of_getElem? (i := 517) (by decide +kernel), List.mem_of_getElem? (i := 518) (by decide +kernel)⟩
theorem lw_p15 : lw_okq (⟨"TuneToEachHouse$Shunning", "enqueue", "(II)V"⟩, 8) := ⟨⟨by decide +kernel, by decide +kernel⟩, List.mem_of_getElem? (i := 158) (by decide +kernel), List.mem_of_getElem? (i := 521) (by decide +kernel), List.mem_of_getElem? (i := 522) (by decide +kernel)⟩
def lw_privs_1 : List (MethodName × Nat) := [(⟨"TuneToEachHouse$Text", "byteHere", "()I"⟩, 3), (⟨"TuneToEachHouse$Text", "readDoors", "(LTuneToEachHouse$Town;)V"⟩, 3), (⟨"TuneToEachHouse$Text", "letterHere", "()I"⟩, 3), (⟨"TuneToEachHouse$Text", "readStreet", "(LTuneToEachHouse$Town;)Z"⟩, 3), (⟨"TuneToEachHouse$Text", "doorHere", "(LTuneToEachHouse$Town;)I"⟩, 3), (⟨"TuneToEachHouse$Text", "readSong", "(LTuneToEachHouse$Town;)Z"⟩, 3), (⟨"TuneToEachHouse$Text", "signHere", "()I"⟩, 3), (⟨"TuneToEachHouse$Tune", "take", "(LTuneToEachHouse$Town;II)V"⟩, 4), (⟨"TuneToEachHouse$Walk", "isHereThroughout", "(LTuneToEachHouse$Tune;I)Z"⟩, 2), (⟨"TuneToEachHouse", "isDoorOrNone", "(I)Z"⟩, 9), (⟨"TuneToEachHouse", "doorsMeant", "(I)I"⟩, 9), (⟨"TuneToEachHouse$Tune", "countPlace", "(LTuneToEachHouse$Town;I)V"⟩, 4), (⟨"TuneToEachHouse$Tune", "countedAt", "(LTuneToEachHouse$Town;II)J"⟩, 4), (⟨"TuneToEachHouse", "areSongAndDoors", "(III)Z"⟩, 9), (⟨"TuneToEachHouse$Shunning", "stateAt", "(LTuneToEachHouse$Town;II)I"⟩, 8), (⟨"TuneToEachHouse$Shunning", "enqueue", "(II)V"⟩, 8)]
theorem lw_r1 : ∀ q ∈ lw_privs_1, lw_okq q := List.forall_mem_cons.mpr ⟨lw_p0, List.forall_mem_cons.mpr ⟨lw_p1, List.forall_mem_cons.mpr ⟨lw_p2, List.forall_mem_cons.mpr ⟨lw_p3, List.forall_mem_cons.mpr ⟨lw_p4, List.forall_mem_cons.mpr ⟨lw_p5, List.forall_mem_cons.mpr ⟨lw_p6, List.forall_mem_cons.mpr ⟨lw_p7, List.forall_mem_cons.mpr ⟨lw_p8, List.forall_mem_cons.mpr ⟨lw_p9, List.forall_mem_cons.mpr ⟨lw_p10, List.forall_mem_cons.mpr ⟨lw_p11, List.forall_mem_cons.mpr ⟨lw_p12, List.forall_mem_cons.mpr ⟨lw_p13, List.forall_mem_cons.mpr ⟨lw_p14, List.forall_mem_cons.mpr ⟨lw_p15, fun _ h => absurd h List.not_mem_nil⟩⟩⟩⟩⟩⟩⟩⟩⟩⟩⟩⟩⟩⟩⟩⟩
theorem lw_p16 : lw_okq (⟨"TuneToEachHouse$Shunning", "enqueueAround", "(LTuneToEachHouse$Town;I)V"⟩, 8) := ⟨⟨by decide +kernel, by decide +kernel⟩, List.mem_of_getElem? (i := 158) (by decide +kernel), List.mem_of_getElem? (i := 525) (by decide +kernel), List.mem_of_getElem? (i := 526) (by decide +kernel)⟩
theorem lw_p17 : lw_okq (⟨"TuneToEachHouse$Shunning", "countStep", "(LTuneToEachHouse$Town;)V"⟩, 8) := ⟨⟨by decide +kernel, by decide +kernel⟩, List.mem_of_getElem? (i := 158) (by decide +kernel), List.mem_of_getElem? (i := 556) (by decide +kernel), List.mem_of_getElem? (i := 557) (by decide +kernel)⟩
theorem lw_p18 : lw_okq (⟨"TuneToEachHouse$Shunning", "countAround", "(LTuneToEachHouse$Town;I)V"⟩, 8) := ⟨⟨by decide +kernel, by decide +kernel⟩, List.mem_of_getElem? (i := 158) (by decide +kernel), List.mem_of_getElem? (i := 560) (by decide +kernel), List.mem_of_getElem? (i := 561) (by decide +kernel)⟩
theorem lw_p19 : lw_okq (⟨"TuneToEachHouse$Rounds", "nextOfBest", "(LTuneToEachHouse$Town;LTuneToEachHouse$Tune;II)I"⟩, 1) := ⟨⟨by decide +kernel, by decide +kernel⟩, List.mem_of_getElem? (i := 189) (by decide +kernel), List.mem_of_getElem? (i := 673) (by decide +kernel), List.mem_of_getElem? (i := 674) (by decide +kernel)⟩
theorem lw_p20 : lw_okq (⟨"TuneToEachHouse", "slotOf", "(I)LTuneToEachHouse$Scene;"⟩, 9) := ⟨⟨by decide +kernel, by decide +kernel⟩, List.mem_of_getElem? (i := 19) (by decide +kernel), List.mem_of_getElem? (i := 700) (by decide +kernel), List.mem_of_getElem? (i := 701) (by decide +kernel)⟩
theorem lw_p21 : lw_okq (⟨"TuneToEachHouseModel", "readText", "()I"⟩, 34) := ⟨⟨by decide +kernel, by decide +kernel⟩, List.mem_of_getElem? (i := 734) (by decide +kernel), List.mem_of_getElem? (i := 862) (by decide +kernel), List.mem_of_getElem? (i := 863) (by decide +kernel)⟩
theorem lw_p22 : lw_okq (⟨"TuneToEachHouseModel", "here", "()I"⟩, 34) := ⟨⟨by decide +kernel, by decide +kernel⟩, List.mem_of_getElem? (i := 734) (by decide +kernel), List.mem_of_getElem? (i := 866) (by decide +kernel), List.mem_of_getElem? (i := 867) (by decide +kernel)⟩
theorem lw_p23 : lw_okq (⟨"TuneToEachHouseModel", "fail", "()V"⟩, 34) := ⟨⟨by decide +kernel, by decide +kernel⟩, List.mem_of_getElem? (i := 734) (by decide +kernel), List.mem_of_getElem? (i := 872) (by decide +kernel), List.mem_of_getElem? (i := 873) (by decide +kernel)⟩
theorem lw_p24 : lw_okq (⟨"TuneToEachHouseModel", "readPart", "()V"⟩, 34) := ⟨⟨by decide +kernel, by decide +kernel⟩, List.mem_of_getElem? (i := 734) (by decide +kernel), List.mem_of_getElem? (i := 876) (by decide +kernel), List.mem_of_getElem? (i := 877) (by decide +kernel)⟩
theorem lw_p25 : lw_okq (⟨"TuneToEachHouseModel", "frees", "()I"⟩, 34) := ⟨⟨by decide +kernel, by decide +kernel⟩, List.mem_of_getElem? (i := 734) (by decide +kernel), List.mem_of_getElem? (i := 880) (by decide +kernel), List.mem_of_getElem? (i := 881) (by decide +kernel)⟩
theorem lw_p26 : lw_okq (⟨"TuneToEachHouseModel", "free", "(I)I"⟩, 34) := ⟨⟨by decide +kernel, by decide +kernel⟩, List.mem_of_getElem? (i := 734) (by decide +kernel), List.mem_of_getElem? (i := 884) (by decide +kernel), List.mem_of_getElem? (i := 885) (by decide +kernel)⟩
theorem lw_p27 : lw_okq (⟨"TuneToEachHouseModel", "doorOf", "(I)I"⟩, 34) := ⟨⟨by decide +kernel, by decide +kernel⟩, List.mem_of_getElem? (i := 734) (by decide +kernel), List.mem_of_getElem? (i := 888) (by decide +kernel), List.mem_of_getElem? (i := 889) (by decide +kernel)⟩
theorem lw_p28 : lw_okq (⟨"TuneToEachHouseModel", "isDoor", "(I)Z"⟩, 34) := ⟨⟨by decide +kernel, by decide +kernel⟩, List.mem_of_getElem? (i := 734) (by decide +kernel), List.mem_of_getElem? (i := 903) (by decide +kernel), List.mem_of_getElem? (i := 904) (by decide +kernel)⟩
theorem lw_p29 : lw_okq (⟨"TuneToEachHouseModel", "isSong", "(I)Z"⟩, 34) := ⟨⟨by decide +kernel, by decide +kernel⟩, List.mem_of_getElem? (i := 734) (by decide +kernel), List.mem_of_getElem? (i := 924) (by decide +kernel), List.mem_of_getElem? (i := 925) (by decide +kernel)⟩
theorem lw_p30 : lw_okq (⟨"TuneToEachHouseModel", "fits", "(IIII)Z"⟩, 34) := ⟨⟨by decide +kernel, by decide +kernel⟩, List.mem_of_getElem? (i := 734) (by decide +kernel), List.mem_of_getElem? (i := 949) (by decide +kernel), List.mem_of_getElem? (i := 950) (by decide +kernel)⟩
theorem lw_p31 : lw_okq (⟨"TuneToEachHouseModel", "isAny", "(I)Z"⟩, 34) := ⟨⟨by decide +kernel, by decide +kernel⟩, List.mem_of_getElem? (i := 734) (by decide +kernel), List.mem_of_getElem? (i := 957) (by decide +kernel), List.mem_of_getElem? (i := 958) (by decide +kernel)⟩
def lw_privs_2 : List (MethodName × Nat) := [(⟨"TuneToEachHouse$Shunning", "enqueueAround", "(LTuneToEachHouse$Town;I)V"⟩, 8), (⟨"TuneToEachHouse$Shunning", "countStep", "(LTuneToEachHouse$Town;)V"⟩, 8), (⟨"TuneToEachHouse$Shunning", "countAround", "(LTuneToEachHouse$Town;I)V"⟩, 8), (⟨"TuneToEachHouse$Rounds", "nextOfBest", "(LTuneToEachHouse$Town;LTuneToEachHouse$Tune;II)I"⟩, 1), (⟨"TuneToEachHouse", "slotOf", "(I)LTuneToEachHouse$Scene;"⟩, 9), (⟨"TuneToEachHouseModel", "readText", "()I"⟩, 34), (⟨"TuneToEachHouseModel", "here", "()I"⟩, 34), (⟨"TuneToEachHouseModel", "fail", "()V"⟩, 34), (⟨"TuneToEachHouseModel", "readPart", "()V"⟩, 34), (⟨"TuneToEachHouseModel", "frees", "()I"⟩, 34), (⟨"TuneToEachHouseModel", "free", "(I)I"⟩, 34), (⟨"TuneToEachHouseModel", "doorOf", "(I)I"⟩, 34), (⟨"TuneToEachHouseModel", "isDoor", "(I)Z"⟩, 34), (⟨"TuneToEachHouseModel", "isSong", "(I)Z"⟩, 34), (⟨"TuneToEachHouseModel", "fits", "(IIII)Z"⟩, 34), (⟨"TuneToEachHouseModel", "isAny", "(I)Z"⟩, 34)]
theorem lw_r2 : ∀ q ∈ lw_privs_2, lw_okq q := List.forall_mem_cons.mpr ⟨lw_p16, List.forall_mem_cons.mpr ⟨lw_p17, List.forall_mem_cons.mpr ⟨lw_p18, List.forall_mem_cons.mpr ⟨lw_p19, List.forall_mem_cons.mpr ⟨lw_p20, List.forall_mem_cons.mpr ⟨lw_p21, List.forall_mem_cons.mpr ⟨lw_p22, List.forall_mem_cons.mpr ⟨lw_p23, List.forall_mem_cons.mpr ⟨lw_p24, List.forall_mem_cons.mpr ⟨lw_p25, List.forall_mem_cons.mpr ⟨lw_p26, List.forall_mem_cons.mpr ⟨lw_p27, List.forall_mem_cons.mpr ⟨lw_p28, List.forall_mem_cons.mpr ⟨lw_p29, List.forall_mem_cons.mpr ⟨lw_p30, List.forall_mem_cons.mpr ⟨lw_p31, fun _ h => absurd h List.not_mem_nil⟩⟩⟩⟩⟩⟩⟩⟩⟩⟩⟩⟩⟩⟩⟩⟩
theorem lw_p32 : lw_okq (⟨"TuneToEachHouseModel", "layRest", "(IIII)V"⟩, 34) := ⟨⟨by decide +kernel, by decide +kernel⟩, List.mem_of_getElem? (i := 734) (by decide +kernel), List.mem_of_getElem? (i := 962) (by decide +kernel), List.mem_of_getElem? (i := 963) (by decide +kernel)⟩
theorem lw_p33 : lw_okq (⟨"TuneToEachHouseModel", "restFrom", "(I)J"⟩, 34) := ⟨⟨by decide +kernel, by decide +kernel⟩, List.mem_of_getElem? (i := 734) (by decide +kernel), List.mem_of_getElem? (i := 966) (by decide +kernel), List.mem_of_getElem? (i := 967) (by decide +kernel)⟩
theorem lw_p34 : lw_okq (⟨"TuneToEachHouseModel", "roundOf", "(III)I"⟩, 34) := ⟨⟨by decide +kernel, by decide +kernel⟩, List.mem_of_getElem? (i := 734) (by decide +kernel), List.mem_of_getElem? (i := 982) (by decide +kernel), List.mem_of_getElem? (i := 983) (by decide +kernel)⟩
theorem lw_p35 : lw_okq (⟨"TuneToEachHouseModel", "layLeft", "(II)V"⟩, 34) := ⟨⟨by decide +kernel, by decide +kernel⟩, List.mem_of_getElem? (i := 734) (by decide +kernel), List.mem_of_getElem? (i := 986) (by decide +kernel), List.mem_of_getElem? (i := 987) (by decide +kernel)⟩
theorem lw_p36 : lw_okq (⟨"TuneToEachHouseModel", "begin", "(III)I"⟩, 34) := ⟨⟨by decide +kernel, by decide +kernel⟩, List.mem_of_getElem? (i := 734) (by decide +kernel), List.mem_of_getElem? (i := 990) (by decide +kernel), List.mem_of_getElem? (i := 991) (by decide +kernel)⟩
theorem lw_p37 : lw_okq (⟨"TuneToEachHouseModel", "stateOf", "(III)I"⟩, 34) := ⟨⟨by decide +kernel, by decide +kernel⟩, List.mem_of_getElem? (i := 734) (by decide +kernel), List.mem_of_getElem? (i := 1008) (by decide +kernel), List.mem_of_getElem? (i := 1009) (by decide +kernel)⟩
theorem lw_p38 : lw_okq (⟨"TuneToEachHouseModel", "bothOn", "(IIII)V"⟩, 34) := ⟨⟨by decide +kernel, by decide +kernel⟩, List.mem_of_getElem? (i := 734) (by decide +kernel), List.mem_of_getElem? (i := 1012) (by decide +kernel), List.mem_of_getElem? (i := 1013) (by decide +kernel)⟩
theorem lw_p39 : lw_okq (⟨"TuneToEachHouseModel", "sounding", "(I)I"⟩, 34) := ⟨⟨by decide +kernel, by decide +kernel⟩, List.mem_of_getElem? (i := 734) (by decide +kernel), List.mem_of_getElem? (i := 1028) (by decide +kernel), List.mem_of_getElem? (i := 1029) (by decide +kernel)⟩
theorem lw_p40 : lw_okq (⟨"TuneToEachHouseModel", "beside", "(I)I"⟩, 34) := ⟨⟨by decide +kernel, by decide +kernel⟩, List.mem_of_getElem? (i := 734) (by decide +kernel), List.mem_of_getElem? (i := 1032) (by decide +kernel), List.mem_of_getElem? (i := 1033) (by decide +kernel)⟩
theorem lw_p41 : lw_okq (⟨"TuneToEachHouseModel", "goes", "(I)Z"⟩, 34) := ⟨⟨by decide +kernel, by decide +kernel⟩, List.mem_of_getElem? (i := 734) (by decide +kernel), List.mem_of_getElem? (i := 1044) (by decide +kernel), List.mem_of_getElem? (i := 1045) (by decide +kernel)⟩
theorem lw_p42 : lw_okq (⟨"TuneToEachHouseModel", "layWorth", "(I)V"⟩, 34) := ⟨⟨by decide +kernel, by decide +kernel⟩, List.mem_of_getElem? (i := 734) (by decide +kernel), List.mem_of_getElem? (i := 1052) (by decide +kernel), List.mem_of_getElem? (i := 1053) (by decide +kernel)⟩
theorem lw_p43 : lw_okq (⟨"TuneToEachHouseModel", "worthOf", "(III)I"⟩, 34) := ⟨⟨by decide +kernel, by decide +kernel⟩, List.mem_of_getElem? (i := 734) (by decide +kernel), List.mem_of_getElem? (i := 1059) (by decide +kernel), List.mem_of_getElem? (i := 1060) (by decide +kernel)⟩
def lw_privs_3 : List (MethodName × Nat) := [(⟨"TuneToEachHouseModel", "layRest", "(IIII)V"⟩, 34), (⟨"TuneToEachHouseModel", "restFrom", "(I)J"⟩, 34), (⟨"TuneToEachHouseModel", "roundOf", "(III)I"⟩, 34), (⟨"TuneToEachHouseModel", "layLeft", "(II)V"⟩, 34), (⟨"TuneToEachHouseModel", "begin", "(III)I"⟩, 34), (⟨"TuneToEachHouseModel", "stateOf", "(III)I"⟩, 34), (⟨"TuneToEachHouseModel", "bothOn", "(IIII)V"⟩, 34), (⟨"TuneToEachHouseModel", "sounding", "(I)I"⟩, 34), (⟨"TuneToEachHouseModel", "beside", "(I)I"⟩, 34), (⟨"TuneToEachHouseModel", "goes", "(I)Z"⟩, 34), (⟨"TuneToEachHouseModel", "layWorth", "(I)V"⟩, 34), (⟨"TuneToEachHouseModel", "worthOf", "(III)I"⟩, 34)]
theorem lw_r3 : ∀ q ∈ lw_privs_3, lw_okq q := List.forall_mem_cons.mpr ⟨lw_p32, List.forall_mem_cons.mpr ⟨lw_p33, List.forall_mem_cons.mpr ⟨lw_p34, List.forall_mem_cons.mpr ⟨lw_p35, List.forall_mem_cons.mpr ⟨lw_p36, List.forall_mem_cons.mpr ⟨lw_p37, List.forall_mem_cons.mpr ⟨lw_p38, List.forall_mem_cons.mpr ⟨lw_p39, List.forall_mem_cons.mpr ⟨lw_p40, List.forall_mem_cons.mpr ⟨lw_p41, List.forall_mem_cons.mpr ⟨lw_p42, List.forall_mem_cons.mpr ⟨lw_p43, fun _ h => absurd h List.not_mem_nil⟩⟩⟩⟩⟩⟩⟩⟩⟩⟩⟩⟩
def lw_privs : List (MethodName × Nat) := lw_privs_1 ++ (lw_privs_2 ++ (lw_privs_3))
def lw_tbl : List Cond := k2_sels lw_privs ++ tables_1
theorem lw_privs_ok : ∀ q ∈ lw_privs, lw_okq q := by
  show ∀ q ∈ lw_privs_1 ++ (lw_privs_2 ++ (lw_privs_3)), lw_okq q
  exact List.forall_mem_append.mpr ⟨lw_r1, List.forall_mem_append.mpr ⟨lw_r2, lw_r3⟩⟩

/-! names -/
def RX0 : String := "TuneToEachHouse$Ear"
def TX0 : u_T := fun k => match k with
  | 0 => ("TuneToEachHouse$Ear", "notes", "[I", true)
  | _ => ("TuneToEachHouse$Ear", "length", "I", false)
def tyX0 : Nat → FieldType := fun k => match k with
  | 0 => .array .int
  | _ => .int
abbrev wsX00 : List Cond := u_ws RX0 TX0 2
theorem nmX0 : ∀ a, a < 2 → ∀ b, b < 2 → a ≠ b → (TX0 a).2.1 ≠ (TX0 b).2.1 := by decide +kernel
theorem tyX0_ok : ∀ k, k < 2 → parseFieldDescriptor (TX0 k).2.2.1 = some (tyX0 k) := by decide +kernel
abbrev cX0_init : ByteArray := prog_2_method_1_code
def yX0_init : MethodName := ⟨RX0, "<init>", "()V"⟩
abbrev cX0_copyFrom : ByteArray := prog_2_method_2_code
def yX0_copyFrom : MethodName := ⟨RX0, "copyFrom", "(LTuneToEachHouse$Ear;)V"⟩
abbrev cX0_add : ByteArray := prog_2_method_3_code
def yX0_add : MethodName := ⟨RX0, "add", "(I)V"⟩
def RX1 : String := "TuneToEachHouse$Hushing"
def TX1 : u_T := fun k => match k with
  | _ => ("", "", "", false)
def tyX1 : Nat → FieldType := fun k => match k with
  | _ => .int
abbrev wsX10 : List Cond := u_ws RX1 TX1 0
theorem nmX1 : ∀ a, a < 0 → ∀ b, b < 0 → a ≠ b → (TX1 a).2.1 ≠ (TX1 b).2.1 := by decide +kernel
theorem tyX1_ok : ∀ k, k < 0 → parseFieldDescriptor (TX1 k).2.2.1 = some (tyX1 k) := by decide +kernel
abbrev cX1_fewestDoors : ByteArray := prog_3_method_2_code
def yX1_fewestDoors : MethodName := ⟨RX1, "fewestDoors", "(LTuneToEachHouse$Town;LTuneToEachHouse$Tune;I)I"⟩
abbrev cX1_leastOfSize : ByteArray := prog_3_method_3_code
def yX1_leastOfSize : MethodName := ⟨RX1, "leastOfSize", "(LTuneToEachHouse$Town;LTuneToEachHouse$Tune;II)I"⟩
abbrev cX1_nextOfLikeSize : ByteArray := prog_3_method_4_code
def yX1_nextOfLikeSize : MethodName := ⟨RX1, "nextOfLikeSize", "(II)I"⟩
def RX2 : String := "TuneToEachHouse$Meeting"
def TX2 : u_T := fun k => match k with
  | _ => ("", "", "", false)
def tyX2 : Nat → FieldType := fun k => match k with
  | _ => .int
abbrev wsX20 : List Cond := u_ws RX2 TX2 0
theorem nmX2 : ∀ a, a < 0 → ∀ b, b < 0 → a ≠ b → (TX2 a).2.1 ≠ (TX2 b).2.1 := by decide +kernel
theorem tyX2_ok : ∀ k, k < 0 → parseFieldDescriptor (TX2 k).2.2.1 = some (tyX2 k) := by decide +kernel
abbrev cX2_fewestDoors : ByteArray := prog_4_method_2_code
def yX2_fewestDoors : MethodName := ⟨RX2, "fewestDoors", "(LTuneToEachHouse$Town;LTuneToEachHouse$Tune;LTuneToEachHouse$Tune;)I"⟩
abbrev cX2_canSoundBoth : ByteArray := prog_4_method_3_code
def yX2_canSoundBoth : MethodName := ⟨RX2, "canSoundBoth", "(LTuneToEachHouse$Town;LTuneToEachHouse$Tune;LTuneToEachHouse$Tune;I)Z"⟩
def RX3 : String := "TuneToEachHouse$Parting"
def TX3 : u_T := fun k => match k with
  | _ => ("", "", "", false)
def tyX3 : Nat → FieldType := fun k => match k with
  | _ => .int
abbrev wsX30 : List Cond := u_ws RX3 TX3 0
theorem nmX3 : ∀ a, a < 0 → ∀ b, b < 0 → a ≠ b → (TX3 a).2.1 ≠ (TX3 b).2.1 := by decide +kernel
theorem tyX3_ok : ∀ k, k < 0 → parseFieldDescriptor (TX3 k).2.2.1 = some (tyX3 k) := by decide +kernel
abbrev cX3_countBits : ByteArray := prog_5_method_2_code
def yX3_countBits : MethodName := ⟨RX3, "countBits", "(LTuneToEachHouse$Town;LTuneToEachHouse$Tune;III)I"⟩
abbrev cX3_leastBits : ByteArray := prog_5_method_3_code
def yX3_leastBits : MethodName := ⟨RX3, "leastBits", "(LTuneToEachHouse$Town;LTuneToEachHouse$Tune;III)I"⟩
def RX4 : String := "TuneToEachHouse$Rounds"
def TX4 : u_T := fun k => match k with
  | _ => ("TuneToEachHouse$Rounds", "gains", "[J", true)
def tyX4 : Nat → FieldType := fun k => match k with
  | _ => .array .long
abbrev wsX40 : List Cond := u_ws RX4 TX4 1
theorem nmX4 : ∀ a, a < 1 → ∀ b, b < 1 → a ≠ b → (TX4 a).2.1 ≠ (TX4 b).2.1 := by decide +kernel
theorem tyX4_ok : ∀ k, k < 1 → parseFieldDescriptor (TX4 k).2.2.1 = some (tyX4 k) := by decide +kernel
abbrev cX4_init : ByteArray := prog_6_method_1_code
def yX4_init : MethodName := ⟨RX4, "<init>", "()V"⟩
abbrev cX4_greatestWorth : ByteArray := prog_6_method_2_code
def yX4_greatestWorth : MethodName := ⟨RX4, "greatestWorth", "(LTuneToEachHouse$Town;LTuneToEachHouse$Tune;I)I"⟩
abbrev cX4_doorOfBest : ByteArray := prog_6_method_3_code
def yX4_doorOfBest : MethodName := ⟨RX4, "doorOfBest", "(LTuneToEachHouse$Town;LTuneToEachHouse$Tune;II)I"⟩
abbrev cX4_othersThan : ByteArray := prog_6_method_4_code
def yX4_othersThan : MethodName := ⟨RX4, "othersThan", "(LTuneToEachHouse$Town;I)I"⟩
abbrev cX4_nextOfBest : ByteArray := prog_6_method_5_code
def yX4_nextOfBest : MethodName := ⟨RX4, "nextOfBest", "(LTuneToEachHouse$Town;LTuneToEachHouse$Tune;II)I"⟩
abbrev cX4_gainOf : ByteArray := prog_6_method_6_code
def yX4_gainOf : MethodName := ⟨RX4, "gainOf", "(LTuneToEachHouse$Town;LTuneToEachHouse$Tune;[JII)I"⟩
abbrev cX4_gainThrough : ByteArray := prog_6_method_7_code
def yX4_gainThrough : MethodName := ⟨RX4, "gainThrough", "(LTuneToEachHouse$Town;LTuneToEachHouse$Tune;[JII)I"⟩
def RX5 : String := "TuneToEachHouse$Scene"
def TX5 : u_T := fun k => match k with
  | 0 => ("TuneToEachHouse$Scene", "houses", "LTuneToEachHouse$Town;", true)
  | 1 => ("TuneToEachHouse$Scene", "walk", "LTuneToEachHouse$Walk;", true)
  | 2 => ("TuneToEachHouse$Scene", "ear", "LTuneToEachHouse$Ear;", true)
  | _ => ("TuneToEachHouse$Scene", "isKept", "Z", false)
def tyX5 : Nat → FieldType := fun k => match k with
  | 0 => .object "TuneToEachHouse$Town"
  | 1 => .object "TuneToEachHouse$Walk"
  | 2 => .object "TuneToEachHouse$Ear"
  | _ => .boolean
abbrev wsX50 : List Cond := u_ws RX5 TX5 4
theorem nmX5 : ∀ a, a < 4 → ∀ b, b < 4 → a ≠ b → (TX5 a).2.1 ≠ (TX5 b).2.1 := by decide +kernel
theorem tyX5_ok : ∀ k, k < 4 → parseFieldDescriptor (TX5 k).2.2.1 = some (tyX5 k) := by decide +kernel
abbrev cX5_init : ByteArray := prog_7_method_1_code
def yX5_init : MethodName := ⟨RX5, "<init>", "()V"⟩
abbrev cX5_copyFrom : ByteArray := prog_7_method_2_code
def yX5_copyFrom : MethodName := ⟨RX5, "copyFrom", "(LTuneToEachHouse$Scene;)V"⟩
def RX6 : String := "TuneToEachHouse$Shunning"
def TX6 : u_T := fun k => match k with
  | 0 => ("TuneToEachHouse$Shunning", "whole", "I", false)
  | 1 => ("TuneToEachHouse$Shunning", "taken", "[I", true)
  | 2 => ("TuneToEachHouse$Shunning", "seen", "[I", true)
  | 3 => ("TuneToEachHouse$Shunning", "queue", "[I", true)
  | 4 => ("TuneToEachHouse$Shunning", "before", "[I", true)
  | 5 => ("TuneToEachHouse$Shunning", "queued", "I", false)
  | 6 => ("TuneToEachHouse$Shunning", "counts", "[J", false)
  | _ => ("TuneToEachHouse$Shunning", "nextCounts", "[J", false)
def tyX6 : Nat → FieldType := fun k => match k with
  | 0 => .int
  | 1 => .array .int
  | 2 => .array .int
  | 3 => .array .int
  | 4 => .array .int
  | 5 => .int
  | 6 => .array .long
  | _ => .array .long
abbrev wsX60 : List Cond := u_ws RX6 TX6 8
theorem nmX6 : ∀ a, a < 8 → ∀ b, b < 8 → a ≠ b → (TX6 a).2.1 ≠ (TX6 b).2.1 := by decide +kernel
theorem tyX6_ok : ∀ k, k < 8 → parseFieldDescriptor (TX6 k).2.2.1 = some (tyX6 k) := by decide +kernel
abbrev cX6_init : ByteArray := prog_8_method_1_code
def yX6_init : MethodName := ⟨RX6, "<init>", "()V"⟩
abbrev cX6_takeSong : ByteArray := prog_8_method_2_code
def yX6_takeSong : MethodName := ⟨RX6, "takeSong", "(LTuneToEachHouse$Town;I)V"⟩
abbrev cX6_stateAt : ByteArray := prog_8_method_3_code
def yX6_stateAt : MethodName := ⟨RX6, "stateAt", "(LTuneToEachHouse$Town;II)I"⟩
abbrev cX6_findWay : ByteArray := prog_8_method_4_code
def yX6_findWay : MethodName := ⟨RX6, "findWay", "(LTuneToEachHouse$Town;II)I"⟩
abbrev cX6_enqueueAround : ByteArray := prog_8_method_5_code
def yX6_enqueueAround : MethodName := ⟨RX6, "enqueueAround", "(LTuneToEachHouse$Town;I)V"⟩
abbrev cX6_enqueue : ByteArray := prog_8_method_6_code
def yX6_enqueue : MethodName := ⟨RX6, "enqueue", "(II)V"⟩
abbrev cX6_stepsOfWay : ByteArray := prog_8_method_7_code
def yX6_stepsOfWay : MethodName := ⟨RX6, "stepsOfWay", "(I)I"⟩
abbrev cX6_doorOfWay : ByteArray := prog_8_method_8_code
def yX6_doorOfWay : MethodName := ⟨RX6, "doorOfWay", "(II)I"⟩
abbrev cX6_countWays : ByteArray := prog_8_method_9_code
def yX6_countWays : MethodName := ⟨RX6, "countWays", "(LTuneToEachHouse$Town;III)J"⟩
abbrev cX6_countStep : ByteArray := prog_8_method_10_code
def yX6_countStep : MethodName := ⟨RX6, "countStep", "(LTuneToEachHouse$Town;)V"⟩
abbrev cX6_countAround : ByteArray := prog_8_method_11_code
def yX6_countAround : MethodName := ⟨RX6, "countAround", "(LTuneToEachHouse$Town;I)V"⟩
def RX7 : String := "TuneToEachHouse$Text"
def TX7 : u_T := fun k => match k with
  | 0 => ("TuneToEachHouse$Text", "bytes", "[B", true)
  | 1 => ("TuneToEachHouse$Text", "length", "I", false)
  | _ => ("TuneToEachHouse$Text", "place", "I", false)
def tyX7 : Nat → FieldType := fun k => match k with
  | 0 => .array .byte
  | 1 => .int
  | _ => .int
abbrev wsX70 : List Cond := u_ws RX7 TX7 3
theorem nmX7 : ∀ a, a < 3 → ∀ b, b < 3 → a ≠ b → (TX7 a).2.1 ≠ (TX7 b).2.1 := by decide +kernel
theorem tyX7_ok : ∀ k, k < 3 → parseFieldDescriptor (TX7 k).2.2.1 = some (tyX7 k) := by decide +kernel
abbrev cX7_init : ByteArray := prog_9_method_1_code
def yX7_init : MethodName := ⟨RX7, "<init>", "()V"⟩
abbrev cX7_append : ByteArray := prog_9_method_2_code
def yX7_append : MethodName := ⟨RX7, "append", "(IJ)V"⟩
abbrev cX7_readInto : ByteArray := prog_9_method_3_code
def yX7_readInto : MethodName := ⟨RX7, "readInto", "(LTuneToEachHouse$Town;)I"⟩
abbrev cX7_readDoors : ByteArray := prog_9_method_4_code
def yX7_readDoors : MethodName := ⟨RX7, "readDoors", "(LTuneToEachHouse$Town;)V"⟩
abbrev cX7_readStreet : ByteArray := prog_9_method_5_code
def yX7_readStreet : MethodName := ⟨RX7, "readStreet", "(LTuneToEachHouse$Town;)Z"⟩
abbrev cX7_readSong : ByteArray := prog_9_method_6_code
def yX7_readSong : MethodName := ⟨RX7, "readSong", "(LTuneToEachHouse$Town;)Z"⟩
abbrev cX7_byteHere : ByteArray := prog_9_method_7_code
def yX7_byteHere : MethodName := ⟨RX7, "byteHere", "()I"⟩
abbrev cX7_letterHere : ByteArray := prog_9_method_8_code
def yX7_letterHere : MethodName := ⟨RX7, "letterHere", "()I"⟩
abbrev cX7_signHere : ByteArray := prog_9_method_9_code
def yX7_signHere : MethodName := ⟨RX7, "signHere", "()I"⟩
abbrev cX7_doorHere : ByteArray := prog_9_method_10_code
def yX7_doorHere : MethodName := ⟨RX7, "doorHere", "(LTuneToEachHouse$Town;)I"⟩
def RX8 : String := "TuneToEachHouse$Town"
def TX8 : u_T := fun k => match k with
  | 0 => ("TuneToEachHouse$Town", "doors", "I", false)
  | 1 => ("TuneToEachHouse$Town", "songs", "I", false)
  | 2 => ("TuneToEachHouse$Town", "notes", "[I", true)
  | 3 => ("TuneToEachHouse$Town", "streets", "[I", true)
  | 4 => ("TuneToEachHouse$Town", "lengths", "[I", true)
  | _ => ("TuneToEachHouse$Town", "signs", "[I", true)
def tyX8 : Nat → FieldType := fun k => match k with
  | 0 => .int
  | 1 => .int
  | 2 => .array .int
  | 3 => .array .int
  | 4 => .array .int
  | _ => .array .int
abbrev wsX80 : List Cond := u_ws RX8 TX8 6
theorem nmX8 : ∀ a, a < 6 → ∀ b, b < 6 → a ≠ b → (TX8 a).2.1 ≠ (TX8 b).2.1 := by decide +kernel
theorem tyX8_ok : ∀ k, k < 6 → parseFieldDescriptor (TX8 k).2.2.1 = some (tyX8 k) := by decide +kernel
abbrev cX8_init : ByteArray := prog_10_method_1_code
def yX8_init : MethodName := ⟨RX8, "<init>", "()V"⟩
abbrev cX8_clear : ByteArray := prog_10_method_2_code
def yX8_clear : MethodName := ⟨RX8, "clear", "()V"⟩
abbrev cX8_copyFrom : ByteArray := prog_10_method_3_code
def yX8_copyFrom : MethodName := ⟨RX8, "copyFrom", "(LTuneToEachHouse$Town;)V"⟩
abbrev cX8_addDoor : ByteArray := prog_10_method_4_code
def yX8_addDoor : MethodName := ⟨RX8, "addDoor", "(I)V"⟩
abbrev cX8_addSong : ByteArray := prog_10_method_5_code
def yX8_addSong : MethodName := ⟨RX8, "addSong", "()V"⟩
abbrev cX8_addSign : ByteArray := prog_10_method_6_code
def yX8_addSign : MethodName := ⟨RX8, "addSign", "(I)V"⟩
abbrev cX8_isDoor : ByteArray := prog_10_method_7_code
def yX8_isDoor : MethodName := ⟨RX8, "isDoor", "(I)Z"⟩
abbrev cX8_isSong : ByteArray := prog_10_method_8_code
def yX8_isSong : MethodName := ⟨RX8, "isSong", "(I)Z"⟩
abbrev cX8_allDoors : ByteArray := prog_10_method_9_code
def yX8_allDoors : MethodName := ⟨RX8, "allDoors", "()I"⟩
abbrev cX8_signOf : ByteArray := prog_10_method_10_code
def yX8_signOf : MethodName := ⟨RX8, "signOf", "(II)I"⟩
abbrev cX8_lengthOf : ByteArray := prog_10_method_11_code
def yX8_lengthOf : MethodName := ⟨RX8, "lengthOf", "(I)I"⟩
abbrev cX8_sounds : ByteArray := prog_10_method_12_code
def yX8_sounds : MethodName := ⟨RX8, "sounds", "(II)Z"⟩
abbrev cX8_doorsThatSound : ByteArray := prog_10_method_13_code
def yX8_doorsThatSound : MethodName := ⟨RX8, "doorsThatSound", "(I)I"⟩
abbrev cX8_isJoined : ByteArray := prog_10_method_14_code
def yX8_isJoined : MethodName := ⟨RX8, "isJoined", "(II)Z"⟩
abbrev cX8_joinedTo : ByteArray := prog_10_method_15_code
def yX8_joinedTo : MethodName := ⟨RX8, "joinedTo", "(I)I"⟩
abbrev cX8_isJoinedToAll : ByteArray := prog_10_method_16_code
def yX8_isJoinedToAll : MethodName := ⟨RX8, "isJoinedToAll", "(I)Z"⟩
abbrev cX8_hasRoomForStreet : ByteArray := prog_10_method_17_code
def yX8_hasRoomForStreet : MethodName := ⟨RX8, "hasRoomForStreet", "()Z"⟩
abbrev cX8_join : ByteArray := prog_10_method_18_code
def yX8_join : MethodName := ⟨RX8, "join", "(IIZ)V"⟩
abbrev cX8_around : ByteArray := prog_10_method_19_code
def yX8_around : MethodName := ⟨RX8, "around", "(I)I"⟩
abbrev cX8_countStreets : ByteArray := prog_10_method_20_code
def yX8_countStreets : MethodName := ⟨RX8, "countStreets", "()I"⟩
abbrev cX8_turnNotes : ByteArray := prog_10_method_21_code
def yX8_turnNotes : MethodName := ⟨RX8, "turnNotes", "()I"⟩
def RX9 : String := "TuneToEachHouse$Tune"
def TX9 : u_T := fun k => match k with
  | 0 => ("TuneToEachHouse$Tune", "length", "I", false)
  | 1 => ("TuneToEachHouse$Tune", "fits", "[I", true)
  | 2 => ("TuneToEachHouse$Tune", "hushable", "[I", true)
  | _ => ("TuneToEachHouse$Tune", "counts", "[J", true)
def tyX9 : Nat → FieldType := fun k => match k with
  | 0 => .int
  | 1 => .array .int
  | 2 => .array .int
  | _ => .array .long
abbrev wsX90 : List Cond := u_ws RX9 TX9 4
theorem nmX9 : ∀ a, a < 4 → ∀ b, b < 4 → a ≠ b → (TX9 a).2.1 ≠ (TX9 b).2.1 := by decide +kernel
theorem tyX9_ok : ∀ k, k < 4 → parseFieldDescriptor (TX9 k).2.2.1 = some (tyX9 k) := by decide +kernel
abbrev cX9_init : ByteArray := prog_11_method_1_code
def yX9_init : MethodName := ⟨RX9, "<init>", "()V"⟩
abbrev cX9_takeSong : ByteArray := prog_11_method_2_code
def yX9_takeSong : MethodName := ⟨RX9, "takeSong", "(LTuneToEachHouse$Town;I)V"⟩
abbrev cX9_takeAnthem : ByteArray := prog_11_method_3_code
def yX9_takeAnthem : MethodName := ⟨RX9, "takeAnthem", "(LTuneToEachHouse$Town;I)V"⟩
abbrev cX9_takeHeard : ByteArray := prog_11_method_4_code
def yX9_takeHeard : MethodName := ⟨RX9, "takeHeard", "(LTuneToEachHouse$Town;LTuneToEachHouse$Ear;)V"⟩
abbrev cX9_take : ByteArray := prog_11_method_5_code
def yX9_take : MethodName := ⟨RX9, "take", "(LTuneToEachHouse$Town;II)V"⟩
abbrev cX9_fitsAt : ByteArray := prog_11_method_6_code
def yX9_fitsAt : MethodName := ⟨RX9, "fitsAt", "(I)I"⟩
abbrev cX9_worthAt : ByteArray := prog_11_method_7_code
def yX9_worthAt : MethodName := ⟨RX9, "worthAt", "(II)I"⟩
abbrev cX9_fitsOrAny : ByteArray := prog_11_method_8_code
def yX9_fitsOrAny : MethodName := ⟨RX9, "fitsOrAny", "(LTuneToEachHouse$Town;I)I"⟩
abbrev cX9_reachedAt : ByteArray := prog_11_method_9_code
def yX9_reachedAt : MethodName := ⟨RX9, "reachedAt", "(LTuneToEachHouse$Town;I)I"⟩
abbrev cX9_openAt : ByteArray := prog_11_method_10_code
def yX9_openAt : MethodName := ⟨RX9, "openAt", "(LTuneToEachHouse$Town;I)I"⟩
abbrev cX9_doorOfFirst : ByteArray := prog_11_method_11_code
def yX9_doorOfFirst : MethodName := ⟨RX9, "doorOfFirst", "(LTuneToEachHouse$Town;I)I"⟩
abbrev cX9_placesBegun : ByteArray := prog_11_method_12_code
def yX9_placesBegun : MethodName := ⟨RX9, "placesBegun", "(LTuneToEachHouse$Town;)I"⟩
abbrev cX9_canBeSung : ByteArray := prog_11_method_13_code
def yX9_canBeSung : MethodName := ⟨RX9, "canBeSung", "(LTuneToEachHouse$Town;II)Z"⟩
abbrev cX9_countWays : ByteArray := prog_11_method_14_code
def yX9_countWays : MethodName := ⟨RX9, "countWays", "(LTuneToEachHouse$Town;II)J"⟩
abbrev cX9_countPlace : ByteArray := prog_11_method_15_code
def yX9_countPlace : MethodName := ⟨RX9, "countPlace", "(LTuneToEachHouse$Town;I)V"⟩
abbrev cX9_countedAt : ByteArray := prog_11_method_16_code
def yX9_countedAt : MethodName := ⟨RX9, "countedAt", "(LTuneToEachHouse$Town;II)J"⟩
def RX10 : String := "TuneToEachHouse$Walk"
def TX10 : u_T := fun k => match k with
  | 0 => ("TuneToEachHouse$Walk", "doors", "[I", true)
  | _ => ("TuneToEachHouse$Walk", "length", "I", false)
def tyX10 : Nat → FieldType := fun k => match k with
  | 0 => .array .int
  | _ => .int
abbrev wsX100 : List Cond := u_ws RX10 TX10 2
theorem nmX10 : ∀ a, a < 2 → ∀ b, b < 2 → a ≠ b → (TX10 a).2.1 ≠ (TX10 b).2.1 := by decide +kernel
theorem tyX10_ok : ∀ k, k < 2 → parseFieldDescriptor (TX10 k).2.2.1 = some (tyX10 k) := by decide +kernel
abbrev cX10_init : ByteArray := prog_12_method_1_code
def yX10_init : MethodName := ⟨RX10, "<init>", "()V"⟩
abbrev cX10_copyFrom : ByteArray := prog_12_method_2_code
def yX10_copyFrom : MethodName := ⟨RX10, "copyFrom", "(LTuneToEachHouse$Walk;)V"⟩
abbrev cX10_add : ByteArray := prog_12_method_3_code
def yX10_add : MethodName := ⟨RX10, "add", "(I)V"⟩
abbrev cX10_doorAt : ByteArray := prog_12_method_4_code
def yX10_doorAt : MethodName := ⟨RX10, "doorAt", "(I)I"⟩
abbrev cX10_firstPlaceOf : ByteArray := prog_12_method_5_code
def yX10_firstPlaceOf : MethodName := ⟨RX10, "firstPlaceOf", "(LTuneToEachHouse$Tune;I)I"⟩
abbrev cX10_isHereThroughout : ByteArray := prog_12_method_6_code
def yX10_isHereThroughout : MethodName := ⟨RX10, "isHereThroughout", "(LTuneToEachHouse$Tune;I)Z"⟩
def RX11 : String := "TuneToEachHouse"
def TX11 : u_T := fun k => match k with
  | 0 => ("TuneToEachHouse", "text", "LTuneToEachHouse$Text;", true)
  | 1 => ("TuneToEachHouse", "told", "LTuneToEachHouse$Town;", true)
  | 2 => ("TuneToEachHouse", "now", "LTuneToEachHouse$Scene;", true)
  | 3 => ("TuneToEachHouse", "firstSlot", "LTuneToEachHouse$Scene;", true)
  | 4 => ("TuneToEachHouse", "secondSlot", "LTuneToEachHouse$Scene;", true)
  | 5 => ("TuneToEachHouse", "tune", "LTuneToEachHouse$Tune;", true)
  | 6 => ("TuneToEachHouse", "otherTune", "LTuneToEachHouse$Tune;", true)
  | 7 => ("TuneToEachHouse", "shunning", "LTuneToEachHouse$Shunning;", true)
  | _ => ("TuneToEachHouse", "rounds", "LTuneToEachHouse$Rounds;", true)
def tyX11 : Nat → FieldType := fun k => match k with
  | 0 => .object "TuneToEachHouse$Text"
  | 1 => .object "TuneToEachHouse$Town"
  | 2 => .object "TuneToEachHouse$Scene"
  | 3 => .object "TuneToEachHouse$Scene"
  | 4 => .object "TuneToEachHouse$Scene"
  | 5 => .object "TuneToEachHouse$Tune"
  | 6 => .object "TuneToEachHouse$Tune"
  | 7 => .object "TuneToEachHouse$Shunning"
  | _ => .object "TuneToEachHouse$Rounds"
abbrev wsX110 : List Cond := u_ws RX11 TX11 9
theorem nmX11 : ∀ a, a < 9 → ∀ b, b < 9 → a ≠ b → (TX11 a).2.1 ≠ (TX11 b).2.1 := by decide +kernel
theorem tyX11_ok : ∀ k, k < 9 → parseFieldDescriptor (TX11 k).2.2.1 = some (tyX11 k) := by decide +kernel
abbrev cX11_init : ByteArray := prog_1_method_1_code
def yX11_init : MethodName := ⟨RX11, "<init>", "()V"⟩
abbrev cX11_write : ByteArray := prog_1_method_2_code
def yX11_write : MethodName := ⟨RX11, "write", "(IJ)I"⟩
abbrev cX11_wipe : ByteArray := prog_1_method_3_code
def yX11_wipe : MethodName := ⟨RX11, "wipe", "()I"⟩
abbrev cX11_fault : ByteArray := prog_1_method_4_code
def yX11_fault : MethodName := ⟨RX11, "fault", "()I"⟩
abbrev cX11_town : ByteArray := prog_1_method_5_code
def yX11_town : MethodName := ⟨RX11, "town", "()I"⟩
abbrev cX11_note : ByteArray := prog_1_method_6_code
def yX11_note : MethodName := ⟨RX11, "note", "(I)I"⟩
abbrev cX11_let : ByteArray := prog_1_method_7_code
def yX11_let : MethodName := ⟨RX11, "let", "(II)I"⟩
abbrev cX11_street : ByteArray := prog_1_method_8_code
def yX11_street : MethodName := ⟨RX11, "street", "(II)I"⟩
abbrev cX11_road : ByteArray := prog_1_method_9_code
def yX11_road : MethodName := ⟨RX11, "road", "(IIZ)I"⟩
abbrev cX11_song : ByteArray := prog_1_method_10_code
def yX11_song : MethodName := ⟨RX11, "song", "(II)I"⟩
abbrev cX11_spring : ByteArray := prog_1_method_11_code
def yX11_spring : MethodName := ⟨RX11, "spring", "()I"⟩
abbrev cX11_go : ByteArray := prog_1_method_12_code
def yX11_go : MethodName := ⟨RX11, "go", "(I)I"⟩
abbrev cX11_home : ByteArray := prog_1_method_13_code
def yX11_home : MethodName := ⟨RX11, "home", "()I"⟩
abbrev cX11_at : ByteArray := prog_1_method_14_code
def yX11_at : MethodName := ⟨RX11, "at", "(I)I"⟩
abbrev cX11_heard : ByteArray := prog_1_method_15_code
def yX11_heard : MethodName := ⟨RX11, "heard", "(II)I"⟩
abbrev cX11_ways : ByteArray := prog_1_method_16_code
def yX11_ways : MethodName := ⟨RX11, "ways", "(III)J"⟩
abbrev cX11_first : ByteArray := prog_1_method_17_code
def yX11_first : MethodName := ⟨RX11, "first", "(II)I"⟩
abbrev cX11_begun : ByteArray := prog_1_method_18_code
def yX11_begun : MethodName := ⟨RX11, "begun", "(I)I"⟩
abbrev cX11_round : ByteArray := prog_1_method_19_code
def yX11_round : MethodName := ⟨RX11, "round", "(III)I"⟩
abbrev cX11_roundAt : ByteArray := prog_1_method_20_code
def yX11_roundAt : MethodName := ⟨RX11, "roundAt", "(IIII)I"⟩
abbrev cX11_safe : ByteArray := prog_1_method_21_code
def yX11_safe : MethodName := ⟨RX11, "safe", "(IIII)J"⟩
abbrev cX11_both : ByteArray := prog_1_method_22_code
def yX11_both : MethodName := ⟨RX11, "both", "(II)I"⟩
abbrev cX11_hear : ByteArray := prog_1_method_23_code
def yX11_hear : MethodName := ⟨RX11, "hear", "(I)I"⟩
abbrev cX11_deaf : ByteArray := prog_1_method_24_code
def yX11_deaf : MethodName := ⟨RX11, "deaf", "()I"⟩
abbrev cX11_mayBe : ByteArray := prog_1_method_25_code
def yX11_mayBe : MethodName := ⟨RX11, "mayBe", "(I)I"⟩
abbrev cX11_fitting : ByteArray := prog_1_method_26_code
def yX11_fitting : MethodName := ⟨RX11, "fitting", "()J"⟩
abbrev cX11_parted : ByteArray := prog_1_method_27_code
def yX11_parted : MethodName := ⟨RX11, "parted", "(Z)I"⟩
abbrev cX11_best : ByteArray := prog_1_method_28_code
def yX11_best : MethodName := ⟨RX11, "best", "(II)I"⟩
abbrev cX11_bestAt : ByteArray := prog_1_method_29_code
def yX11_bestAt : MethodName := ⟨RX11, "bestAt", "(III)I"⟩
abbrev cX11_hush : ByteArray := prog_1_method_30_code
def yX11_hush : MethodName := ⟨RX11, "hush", "(II)I"⟩
abbrev cX11_keep : ByteArray := prog_1_method_31_code
def yX11_keep : MethodName := ⟨RX11, "keep", "(I)I"⟩
abbrev cX11_again : ByteArray := prog_1_method_32_code
def yX11_again : MethodName := ⟨RX11, "again", "(I)I"⟩
abbrev cX11_count : ByteArray := prog_1_method_33_code
def yX11_count : MethodName := ⟨RX11, "count", "(I)I"⟩
abbrev cX11_slotOf : ByteArray := prog_1_method_34_code
def yX11_slotOf : MethodName := ⟨RX11, "slotOf", "(I)LTuneToEachHouse$Scene;"⟩
abbrev cX11_isDoorOrNone : ByteArray := prog_1_method_35_code
def yX11_isDoorOrNone : MethodName := ⟨RX11, "isDoorOrNone", "(I)Z"⟩
abbrev cX11_areSongAndDoors : ByteArray := prog_1_method_36_code
def yX11_areSongAndDoors : MethodName := ⟨RX11, "areSongAndDoors", "(III)Z"⟩
abbrev cX11_doorsMeant : ByteArray := prog_1_method_37_code
def yX11_doorsMeant : MethodName := ⟨RX11, "doorsMeant", "(I)I"⟩
abbrev cX11_has : ByteArray := prog_1_method_38_code
def yX11_has : MethodName := ⟨RX11, "has", "(II)Z"⟩
abbrev cX11_leastOf : ByteArray := prog_1_method_39_code
def yX11_leastOf : MethodName := ⟨RX11, "leastOf", "(I)I"⟩
def RX12 : String := "TuneToEachHouseModel"
def TX12 : u_T := fun k => match k with
  | 0 => ("TuneToEachHouseModel", "readNotes", "[I", true)
  | 1 => ("TuneToEachHouseModel", "readStreets", "[I", true)
  | 2 => ("TuneToEachHouseModel", "readSigns", "[I", true)
  | 3 => ("TuneToEachHouseModel", "readSizes", "[I", true)
  | 4 => ("TuneToEachHouseModel", "readDoors", "I", false)
  | 5 => ("TuneToEachHouseModel", "readSongs", "I", false)
  | 6 => ("TuneToEachHouseModel", "notes", "[I", true)
  | 7 => ("TuneToEachHouseModel", "streets", "[I", true)
  | 8 => ("TuneToEachHouseModel", "signs", "[I", true)
  | 9 => ("TuneToEachHouseModel", "sizes", "[I", true)
  | 10 => ("TuneToEachHouseModel", "doors", "I", false)
  | 11 => ("TuneToEachHouseModel", "songs", "I", false)
  | 12 => ("TuneToEachHouseModel", "text", "[I", true)
  | 13 => ("TuneToEachHouseModel", "length", "I", false)
  | 14 => ("TuneToEachHouseModel", "at", "I", false)
  | 15 => ("TuneToEachHouseModel", "faultAt", "I", false)
  | 16 => ("TuneToEachHouseModel", "walked", "I", false)
  | 17 => ("TuneToEachHouseModel", "walk", "[I", true)
  | 18 => ("TuneToEachHouseModel", "rest", "[J", true)
  | 19 => ("TuneToEachHouseModel", "left", "[I", true)
  | 20 => ("TuneToEachHouseModel", "many", "[J", true)
  | 21 => ("TuneToEachHouseModel", "more", "[J", true)
  | 22 => ("TuneToEachHouseModel", "reached", "[I", true)
  | 23 => ("TuneToEachHouseModel", "ears", "I", false)
  | 24 => ("TuneToEachHouseModel", "ear", "[I", true)
  | 25 => ("TuneToEachHouseModel", "worth", "[I", true)
  | 26 => ("TuneToEachHouseModel", "isKept", "[Z", true)
  | 27 => ("TuneToEachHouseModel", "keptNotes", "[I", true)
  | 28 => ("TuneToEachHouseModel", "keptStreets", "[I", true)
  | 29 => ("TuneToEachHouseModel", "keptSigns", "[I", true)
  | 30 => ("TuneToEachHouseModel", "keptSizes", "[I", true)
  | 31 => ("TuneToEachHouseModel", "keptWalk", "[I", true)
  | 32 => ("TuneToEachHouseModel", "keptEar", "[I", true)
  | _ => ("TuneToEachHouseModel", "keptMany", "[I", true)
def tyX12 : Nat → FieldType := fun k => match k with
  | 0 => .array .int
  | 1 => .array .int
  | 2 => .array .int
  | 3 => .array .int
  | 4 => .int
  | 5 => .int
  | 6 => .array .int
  | 7 => .array .int
  | 8 => .array .int
  | 9 => .array .int
  | 10 => .int
  | 11 => .int
  | 12 => .array .int
  | 13 => .int
  | 14 => .int
  | 15 => .int
  | 16 => .int
  | 17 => .array .int
  | 18 => .array .long
  | 19 => .array .int
  | 20 => .array .long
  | 21 => .array .long
  | 22 => .array .int
  | 23 => .int
  | 24 => .array .int
  | 25 => .array .int
  | 26 => .array .boolean
  | 27 => .array .int
  | 28 => .array .int
  | 29 => .array .int
  | 30 => .array .int
  | 31 => .array .int
  | 32 => .array .int
  | _ => .array .int
abbrev wsX120 : List Cond := u_ws RX12 TX12 34
theorem nmX12 : ∀ a, a < 34 → ∀ b, b < 34 → a ≠ b → (TX12 a).2.1 ≠ (TX12 b).2.1 := by decide +kernel
theorem tyX12_ok : ∀ k, k < 34 → parseFieldDescriptor (TX12 k).2.2.1 = some (tyX12 k) := by decide +kernel
abbrev cX12_init : ByteArray := prog_14_method_1_code
def yX12_init : MethodName := ⟨RX12, "<init>", "()V"⟩
abbrev cX12_in : ByteArray := prog_14_method_3_code
def yX12_in : MethodName := ⟨RX12, "in", "(JJJ)Z"⟩
abbrev cX12_write : ByteArray := prog_14_method_4_code
def yX12_write : MethodName := ⟨RX12, "write", "(IJ)I"⟩
abbrev cX12_wipe : ByteArray := prog_14_method_5_code
def yX12_wipe : MethodName := ⟨RX12, "wipe", "()I"⟩
abbrev cX12_here : ByteArray := prog_14_method_6_code
def yX12_here : MethodName := ⟨RX12, "here", "()I"⟩
abbrev cX12_fail : ByteArray := prog_14_method_7_code
def yX12_fail : MethodName := ⟨RX12, "fail", "()V"⟩
abbrev cX12_doorOf : ByteArray := prog_14_method_8_code
def yX12_doorOf : MethodName := ⟨RX12, "doorOf", "(I)I"⟩
abbrev cX12_free : ByteArray := prog_14_method_9_code
def yX12_free : MethodName := ⟨RX12, "free", "(I)I"⟩
abbrev cX12_frees : ByteArray := prog_14_method_10_code
def yX12_frees : MethodName := ⟨RX12, "frees", "()I"⟩
abbrev cX12_readText : ByteArray := prog_14_method_11_code
def yX12_readText : MethodName := ⟨RX12, "readText", "()I"⟩
abbrev cX12_readPart : ByteArray := prog_14_method_12_code
def yX12_readPart : MethodName := ⟨RX12, "readPart", "()V"⟩
abbrev cX12_fault : ByteArray := prog_14_method_13_code
def yX12_fault : MethodName := ⟨RX12, "fault", "()I"⟩
abbrev cX12_town : ByteArray := prog_14_method_14_code
def yX12_town : MethodName := ⟨RX12, "town", "()I"⟩
abbrev cX12_isDoor : ByteArray := prog_14_method_15_code
def yX12_isDoor : MethodName := ⟨RX12, "isDoor", "(I)Z"⟩
abbrev cX12_isSong : ByteArray := prog_14_method_16_code
def yX12_isSong : MethodName := ⟨RX12, "isSong", "(I)Z"⟩
abbrev cX12_note : ByteArray := prog_14_method_17_code
def yX12_note : MethodName := ⟨RX12, "note", "(I)I"⟩
abbrev cX12_let : ByteArray := prog_14_method_18_code
def yX12_let : MethodName := ⟨RX12, "let", "(II)I"⟩
abbrev cX12_street : ByteArray := prog_14_method_19_code
def yX12_street : MethodName := ⟨RX12, "street", "(II)I"⟩
abbrev cX12_road : ByteArray := prog_14_method_20_code
def yX12_road : MethodName := ⟨RX12, "road", "(IIZ)I"⟩
abbrev cX12_song : ByteArray := prog_14_method_21_code
def yX12_song : MethodName := ⟨RX12, "song", "(II)I"⟩
abbrev cX12_spring : ByteArray := prog_14_method_22_code
def yX12_spring : MethodName := ⟨RX12, "spring", "()I"⟩
abbrev cX12_go : ByteArray := prog_14_method_23_code
def yX12_go : MethodName := ⟨RX12, "go", "(I)I"⟩
abbrev cX12_home : ByteArray := prog_14_method_24_code
def yX12_home : MethodName := ⟨RX12, "home", "()I"⟩
abbrev cX12_at : ByteArray := prog_14_method_25_code
def yX12_at : MethodName := ⟨RX12, "at", "(I)I"⟩
abbrev cX12_fits : ByteArray := prog_14_method_26_code
def yX12_fits : MethodName := ⟨RX12, "fits", "(IIII)Z"⟩
abbrev cX12_heard : ByteArray := prog_14_method_27_code
def yX12_heard : MethodName := ⟨RX12, "heard", "(II)I"⟩
abbrev cX12_layRest : ByteArray := prog_14_method_28_code
def yX12_layRest : MethodName := ⟨RX12, "layRest", "(IIII)V"⟩
abbrev cX12_restFrom : ByteArray := prog_14_method_29_code
def yX12_restFrom : MethodName := ⟨RX12, "restFrom", "(I)J"⟩
abbrev cX12_isAny : ByteArray := prog_14_method_30_code
def yX12_isAny : MethodName := ⟨RX12, "isAny", "(I)Z"⟩
abbrev cX12_ways : ByteArray := prog_14_method_31_code
def yX12_ways : MethodName := ⟨RX12, "ways", "(III)J"⟩
abbrev cX12_first : ByteArray := prog_14_method_32_code
def yX12_first : MethodName := ⟨RX12, "first", "(II)I"⟩
abbrev cX12_begun : ByteArray := prog_14_method_33_code
def yX12_begun : MethodName := ⟨RX12, "begun", "(I)I"⟩
abbrev cX12_begin : ByteArray := prog_14_method_34_code
def yX12_begin : MethodName := ⟨RX12, "begin", "(III)I"⟩
abbrev cX12_layLeft : ByteArray := prog_14_method_35_code
def yX12_layLeft : MethodName := ⟨RX12, "layLeft", "(II)V"⟩
abbrev cX12_roundOf : ByteArray := prog_14_method_36_code
def yX12_roundOf : MethodName := ⟨RX12, "roundOf", "(III)I"⟩
abbrev cX12_round : ByteArray := prog_14_method_37_code
def yX12_round : MethodName := ⟨RX12, "round", "(III)I"⟩
abbrev cX12_roundAt : ByteArray := prog_14_method_38_code
def yX12_roundAt : MethodName := ⟨RX12, "roundAt", "(IIII)I"⟩
abbrev cX12_safe : ByteArray := prog_14_method_39_code
def yX12_safe : MethodName := ⟨RX12, "safe", "(IIII)J"⟩
abbrev cX12_stateOf : ByteArray := prog_14_method_40_code
def yX12_stateOf : MethodName := ⟨RX12, "stateOf", "(III)I"⟩
abbrev cX12_both : ByteArray := prog_14_method_41_code
def yX12_both : MethodName := ⟨RX12, "both", "(II)I"⟩
abbrev cX12_bothOn : ByteArray := prog_14_method_42_code
def yX12_bothOn : MethodName := ⟨RX12, "bothOn", "(IIII)V"⟩
abbrev cX12_hear : ByteArray := prog_14_method_43_code
def yX12_hear : MethodName := ⟨RX12, "hear", "(I)I"⟩
abbrev cX12_deaf : ByteArray := prog_14_method_44_code
def yX12_deaf : MethodName := ⟨RX12, "deaf", "()I"⟩
abbrev cX12_sounding : ByteArray := prog_14_method_45_code
def yX12_sounding : MethodName := ⟨RX12, "sounding", "(I)I"⟩
abbrev cX12_beside : ByteArray := prog_14_method_46_code
def yX12_beside : MethodName := ⟨RX12, "beside", "(I)I"⟩
abbrev cX12_mayBe : ByteArray := prog_14_method_47_code
def yX12_mayBe : MethodName := ⟨RX12, "mayBe", "(I)I"⟩
abbrev cX12_fitting : ByteArray := prog_14_method_48_code
def yX12_fitting : MethodName := ⟨RX12, "fitting", "()J"⟩
abbrev cX12_goes : ByteArray := prog_14_method_49_code
def yX12_goes : MethodName := ⟨RX12, "goes", "(I)Z"⟩
abbrev cX12_parted : ByteArray := prog_14_method_50_code
def yX12_parted : MethodName := ⟨RX12, "parted", "(Z)I"⟩
abbrev cX12_worthOf : ByteArray := prog_14_method_51_code
def yX12_worthOf : MethodName := ⟨RX12, "worthOf", "(III)I"⟩
abbrev cX12_ones : ByteArray := prog_14_method_52_code
def yX12_ones : MethodName := ⟨RX12, "ones", "(I)I"⟩
abbrev cX12_layWorth : ByteArray := prog_14_method_53_code
def yX12_layWorth : MethodName := ⟨RX12, "layWorth", "(I)V"⟩
abbrev cX12_best : ByteArray := prog_14_method_54_code
def yX12_best : MethodName := ⟨RX12, "best", "(II)I"⟩
abbrev cX12_bestAt : ByteArray := prog_14_method_55_code
def yX12_bestAt : MethodName := ⟨RX12, "bestAt", "(III)I"⟩
abbrev cX12_hush : ByteArray := prog_14_method_56_code
def yX12_hush : MethodName := ⟨RX12, "hush", "(II)I"⟩
abbrev cX12_keep : ByteArray := prog_14_method_57_code
def yX12_keep : MethodName := ⟨RX12, "keep", "(I)I"⟩
abbrev cX12_again : ByteArray := prog_14_method_58_code
def yX12_again : MethodName := ⟨RX12, "again", "(I)I"⟩
abbrev cX12_count : ByteArray := prog_14_method_59_code
def yX12_count : MethodName := ⟨RX12, "count", "(I)I"⟩
def RJ6 : String := "java/lang/Integer"
def TJ6 : u_T := fun k => match k with
  | _ => ("", "", "", false)
def tyJ6 : Nat → FieldType := fun k => match k with
  | _ => .int
abbrev wsJ60 : List Cond := u_ws RJ6 TJ6 0
theorem nmJ6 : ∀ a, a < 0 → ∀ b, b < 0 → a ≠ b → (TJ6 a).2.1 ≠ (TJ6 b).2.1 := by decide +kernel
theorem tyJ6_ok : ∀ k, k < 0 → parseFieldDescriptor (TJ6 k).2.2.1 = some (tyJ6 k) := by decide +kernel
abbrev cJ6_numberOfTrailingZeros_0f7a4 : ByteArray := prog_15_method_48_code
def yJ6_numberOfTrailingZeros_0f7a4 : MethodName := ⟨RJ6, "numberOfTrailingZeros", "(I)I"⟩
abbrev cJ6_bitCount_0f7a4 : ByteArray := prog_15_method_49_code
def yJ6_bitCount_0f7a4 : MethodName := ⟨RJ6, "bitCount", "(I)I"⟩
def RJ9 : String := "java/lang/Math"
def TJ9 : u_T := fun k => match k with
  | _ => ("", "", "", false)
def tyJ9 : Nat → FieldType := fun k => match k with
  | _ => .int
abbrev wsJ90 : List Cond := u_ws RJ9 TJ9 0
theorem nmJ9 : ∀ a, a < 0 → ∀ b, b < 0 → a ≠ b → (TJ9 a).2.1 ≠ (TJ9 b).2.1 := by decide +kernel
theorem tyJ9_ok : ∀ k, k < 0 → parseFieldDescriptor (TJ9 k).2.2.1 = some (tyJ9 k) := by decide +kernel
abbrev cJ9_max_7cf53 : ByteArray := prog_16_method_65_code
def yJ9_max_7cf53 : MethodName := ⟨RJ9, "max", "(II)I"⟩
abbrev cJ9_min_7cf53 : ByteArray := prog_16_method_69_code
def yJ9_min_7cf53 : MethodName := ⟨RJ9, "min", "(II)I"⟩
def RJ10 : String := "java/lang/System"
def TJ10 : u_T := fun k => match k with
  | _ => ("", "", "", false)
def tyJ10 : Nat → FieldType := fun k => match k with
  | _ => .int
abbrev wsJ100 : List Cond := u_ws RJ10 TJ10 0
theorem nmJ10 : ∀ a, a < 0 → ∀ b, b < 0 → a ≠ b → (TJ10 a).2.1 ≠ (TJ10 b).2.1 := by decide +kernel
theorem tyJ10_ok : ∀ k, k < 0 → parseFieldDescriptor (TJ10 k).2.2.1 = some (tyJ10 k) := by decide +kernel
def RJ7 : String := "java/util/Arrays"
def TJ7 : u_T := fun k => match k with
  | _ => ("", "", "", false)
def tyJ7 : Nat → FieldType := fun k => match k with
  | _ => .int
abbrev wsJ70 : List Cond := u_ws RJ7 TJ7 0
theorem nmJ7 : ∀ a, a < 0 → ∀ b, b < 0 → a ≠ b → (TJ7 a).2.1 ≠ (TJ7 b).2.1 := by decide +kernel
theorem tyJ7_ok : ∀ k, k < 0 → parseFieldDescriptor (TJ7 k).2.2.1 = some (tyJ7 k) := by decide +kernel
abbrev cJ7_fill_d0a16 : ByteArray := prog_18_method_101_code
def yJ7_fill_d0a16 : MethodName := ⟨RJ7, "fill", "([JJ)V"⟩
abbrev cJ7_fill_53178 : ByteArray := prog_18_method_103_code
def yJ7_fill_53178 : MethodName := ⟨RJ7, "fill", "([II)V"⟩
def RL : String := "TuneToEachHouseLaw"
abbrev cL_law : ByteArray := code
def yL_law : MethodName := ⟨RL, "law", "([I)Z"⟩
abbrev vwCl : List vw_C := [(RX0, TX0, 2), (RX4, TX4, 1), (RX5, TX5, 4), (RX6, TX6, 8), (RX7, TX7, 3), (RX8, TX8, 6), (RX9, TX9, 4), (RX10, TX10, 2), (RX11, TX11, 9), (RX12, TX12, 34)]
theorem zmemIn {big ws : List Cond} (ps : List Nat) (hp : ws = ps.filterMap (fun i => big[i]?)) : ∀ w ∈ ws, w ∈ big := by
  intro w hw
  rw [hp] at hw
  obtain ⟨i, -, hi⟩ := List.mem_filterMap.mp hw
  exact List.mem_of_getElem? hi
def zNest : Cond → Bool
  | .fieldLinkNest .. => true
  | .methodLinkNest .. => true
  | _ => false
def lw_G : List Cond := lw_tbl.filter goodWord
def lw_T : List Cond := lw_tbl.filter (fun w => goodWord w || zNest w)
theorem zmem {i : Nat} {w : Cond} (h : lw_tbl[i]? = some w) (hg : (goodWord w || zNest w) = true) : w ∈ lw_T := List.mem_filter.mpr ⟨List.mem_of_getElem? h, hg⟩
theorem zgood {ws : List Cond} (h : ∀ w ∈ ws, w ∈ lw_tbl) (hg : ws.all (fun w => goodWord w || zNest w) = true) : ∀ w ∈ ws, w ∈ lw_T := fun w hw => List.mem_filter.mpr ⟨h w hw, List.all_eq_true.mp hg w hw⟩
theorem zinX0 : ∀ w ∈ u_ws RX0 TX0 2, w ∈ lw_T := zgood (zmemIn [157, 159] (by decide +kernel)) (by decide +kernel)
theorem zinX4 : ∀ w ∈ u_ws RX4 TX4 1, w ∈ lw_T := zgood (zmemIn [239] (by decide +kernel)) (by decide +kernel)
theorem zinX5 : ∀ w ∈ u_ws RX5 TX5 4, w ∈ lw_T := zgood (zmemIn [169, 171, 173, 175] (by decide +kernel)) (by decide +kernel)
theorem zinX6 : ∀ w ∈ u_ws RX6 TX6 8, w ∈ lw_T := zgood (zmemIn [215, 217, 219, 221, 223, 225, 227, 229] (by decide +kernel)) (by decide +kernel)
theorem zinX7 : ∀ w ∈ u_ws RX7 TX7 3, w ∈ lw_T := zgood (zmemIn [80, 82, 84] (by decide +kernel)) (by decide +kernel)
theorem zinX8 : ∀ w ∈ u_ws RX8 TX8 6, w ∈ lw_T := zgood (zmemIn [110, 112, 114, 116, 118, 120] (by decide +kernel)) (by decide +kernel)
theorem zinX9 : ∀ w ∈ u_ws RX9 TX9 4, w ∈ lw_T := zgood (zmemIn [191, 193, 195, 197] (by decide +kernel)) (by decide +kernel)
theorem zinX10 : ∀ w ∈ u_ws RX10 TX10 2, w ∈ lw_T := zgood (zmemIn [141, 143] (by decide +kernel)) (by decide +kernel)
theorem zinX11 : ∀ w ∈ u_ws RX11 TX11 9, w ∈ lw_T := zgood (zmemIn [255, 257, 259, 261, 263, 265, 267, 269, 271] (by decide +kernel)) (by decide +kernel)
theorem zinX12 : ∀ w ∈ u_ws RX12 TX12 34, w ∈ lw_T := zgood (zmemIn [818, 820, 822, 824, 826, 828, 830, 832, 834, 836, 838, 840, 842, 844, 846, 848, 850, 852, 854, 856, 858, 860, 862, 864, 866, 868, 870, 872, 874, 876, 878, 880, 882, 884] (by decide +kernel)) (by decide +kernel)
/-- which fields hold references -/
def zfk : Nat → List Bool
  | 0 => [true, false]
  | 1 => [true]
  | 2 => [true, true, true, false]
  | 3 => [false, true, true, true, true, false, true, true]
  | 4 => [true, false, false]
  | 5 => [false, false, true, true, true, true]
  | 6 => [false, true, true, true]
  | 7 => [true, false]
  | 8 => [true, true, true, true, true, true, true, true, true]
  | 9 => [true, true, true, true, false, false, true, true, true, true, false, false, true, false, false, false, false, true, true, true, true, true, true, false, true, true, true, true, true, true, true, true, true, true]
  | _ => []
