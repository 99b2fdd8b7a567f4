section
-- ===== PART A: goes FIRST, ahead of the names: the tables' words, and 'selects' of the private methods out of them =====
/-- a private method of a class that the tables say can be made, by its rows of tables_1 -/
def lw_okq (q : MethodName × Nat) : Prop := (q.1.cls ≠ "java/lang/invoke/MethodHandle" ∧ q.1.cls ≠ "java/lang/invoke/VarHandle") ∧ Cond.instantiable q.1.cls q.2 ∈ tables_1 ∧ Cond.privateMethod q.1 ∈ tables_1 ∧ Cond.instanceMethod q.1 ∈ tables_1
theorem lw_p0 : lw_okq (⟨"CrowdedLanes$Reader", "readToken", "()V"⟩, 9) := ⟨⟨by decide +kernel, by decide +kernel⟩, List.mem_of_getElem? (i := 54) (by decide +kernel), List.mem_of_getElem? (i := 256) (by decide +kernel), List.mem_of_getElem? (i := 257) (by decide +kernel)⟩
theorem lw_p1 : lw_okq (⟨"CrowdedLanes$Reader", "readName", "()V"⟩, 9) := ⟨⟨by decide +kernel, by decide +kernel⟩, List.mem_of_getElem? (i := 54) (by decide +kernel), List.mem_of_getElem? (i := 267) (by decide +kernel), List.mem_of_getElem? (i := 268) (by decide +kernel)⟩
theorem lw_p2 : lw_okq (⟨"CrowdedLanes$Reader", "readNumber", "()V"⟩, 9) := ⟨⟨by decide +kernel, by decide +kernel⟩, List.mem_of_getElem? (i := 54) (by decide +kernel), List.mem_of_getElem? (i := 277) (by decide +kernel), List.mem_of_getElem? (i := 278) (by decide +kernel)⟩
theorem lw_p3 : lw_okq (⟨"CrowdedLanes$Reader", "takeLine", "()Z"⟩, 9) := ⟨⟨by decide +kernel, by decide +kernel⟩, List.mem_of_getElem? (i := 54) (by decide +kernel), List.mem_of_getElem? (i := 281) (by decide +kernel), List.mem_of_getElem? (i := 282) (by decide +kernel)⟩
theorem lw_p4 : lw_okq (⟨"CrowdedLanes$Reader", "expect", "(I)Z"⟩, 9) := ⟨⟨by decide +kernel, by decide +kernel⟩, List.mem_of_getElem? (i := 54) (by decide +kernel), List.mem_of_getElem? (i := 285) (by decide +kernel), List.mem_of_getElem? (i := 286) (by decide +kernel)⟩
theorem lw_p5 : lw_okq (⟨"CrowdedLanes$Reader", "refuse", "(I)Z"⟩, 9) := ⟨⟨by decide +kernel, by decide +kernel⟩, List.mem_of_getElem? (i := 54) (by decide +kernel), List.mem_of_getElem? (i := 289) (by decide +kernel), List.mem_of_getElem? (i := 290) (by decide +kernel)⟩
theorem lw_p6 : lw_okq (⟨"CrowdedLanes$Reader", "tellFresh", "(II)V"⟩, 9) := ⟨⟨by decide +kernel, by decide +kernel⟩, List.mem_of_getElem? (i := 54) (by decide +kernel), List.mem_of_getElem? (i := 293) (by decide +kernel), List.mem_of_getElem? (i := 294) (by decide +kernel)⟩
theorem lw_p7 : lw_okq (⟨"CrowdedLanes$Reader", "takeNumber", "(III)Z"⟩, 9) := ⟨⟨by decide +kernel, by decide +kernel⟩, List.mem_of_getElem? (i := 54) (by decide +kernel), List.mem_of_getElem? (i := 297) (by decide +kernel), List.mem_of_getElem? (i := 298) (by decide +kernel)⟩
theorem lw_p8 : lw_okq (⟨"CrowdedLanes$Lane", "rateOverBond", "(III)I"⟩, 1) := ⟨⟨by decide +kernel, by decide +kernel⟩, List.mem_of_getElem? (i := 40) (by decide +kernel), List.mem_of_getElem? (i := 387) (by decide +kernel), List.mem_of_getElem? (i := 388) (by decide +kernel)⟩
theorem lw_p9 : lw_okq (⟨"CrowdedLanes$Parts", "findReach", "()V"⟩, 4) := ⟨⟨by decide +kernel, by decide +kernel⟩, List.mem_of_getElem? (i := 88) (by decide +kernel), List.mem_of_getElem? (i := 413) (by decide +kernel), List.mem_of_getElem? (i := 414) (by decide +kernel)⟩
theorem lw_p10 : lw_okq (⟨"CrowdedLanes$Parts", "findParts", "()V"⟩, 4) := ⟨⟨by decide +kernel, by decide +kernel⟩, List.mem_of_getElem? (i := 88) (by decide +kernel), List.mem_of_getElem? (i := 422) (by decide +kernel), List.mem_of_getElem? (i := 423) (by decide +kernel)⟩
theorem lw_p11 : lw_okq (⟨"CrowdedLanes$Parts", "spreadPart", "(II)V"⟩, 4) := ⟨⟨by decide +kernel, by decide +kernel⟩, List.mem_of_getElem? (i := 88) (by decide +kernel), List.mem_of_getElem? (i := 426) (by decide +kernel), List.mem_of_getElem? (i := 427) (by decide +kernel)⟩
theorem lw_p12 : lw_okq (⟨"CrowdedLanes$Parts", "isLeast", "(I)Z"⟩, 4) := ⟨⟨by decide +kernel, by decide +kernel⟩, List.mem_of_getElem? (i := 88) (by decide +kernel), List.mem_of_getElem? (i := 465) (by decide +kernel), List.mem_of_getElem? (i := 466) (by decide +kernel)⟩
theorem lw_p13 : lw_okq (⟨"CrowdedLanes", "weigh", "(I)I"⟩, 8) := ⟨⟨by decide +kernel, by decide +kernel⟩, List.mem_of_getElem? (i := 18) (by decide +kernel), List.mem_of_getElem? (i := 487) (by decide +kernel), List.mem_of_getElem? (i := 488) (by decide +kernel)⟩
theorem lw_p14 : lw_okq (⟨"CrowdedLanes$Rest", "listStates", "(J)V"⟩, 10) := ⟨⟨by decide +kernel, by decide +kernel⟩, List.mem_of_getElem? (i := 108) (by decide +kernel), List.mem_of_getElem? (i := 495) (by decide +kernel), List.mem_of_getElem? (i := 496) (by decide +kernel)⟩
theorem lw_p15 : lw_okq (⟨"CrowdedLanes$Rest", "fillOutflow", "()V"⟩, 10) := ⟨⟨by decide +kernel, by decide +kernel⟩, List.mem_of_getElem? (i := 108) (by decide +kernel), List.mem_of_getElem? (i := 499) (by decide +kernel), List.mem_of_getElem? (i := 500) (by decide +kernel)⟩
def lw_privs_1 : List (MethodName × Nat) := [(⟨"CrowdedLanes$Reader", "readToken", "()V"⟩, 9), (⟨"CrowdedLanes$Reader", "readName", "()V"⟩, 9), (⟨"CrowdedLanes$Reader", "readNumber", "()V"⟩, 9), (⟨"CrowdedLanes$Reader", "takeLine", "()Z"⟩, 9), (⟨"CrowdedLanes$Reader", "expect", "(I)Z"⟩, 9), (⟨"CrowdedLanes$Reader", "refuse", "(I)Z"⟩, 9), (⟨"CrowdedLanes$Reader", "tellFresh", "(II)V"⟩, 9), (⟨"CrowdedLanes$Reader", "takeNumber", "(III)Z"⟩, 9), (⟨"CrowdedLanes$Lane", "rateOverBond", "(III)I"⟩, 1), (⟨"CrowdedLanes$Parts", "findReach", "()V"⟩, 4), (⟨"CrowdedLanes$Parts", "findParts", "()V"⟩, 4), (⟨"CrowdedLanes$Parts", "spreadPart", "(II)V"⟩, 4), (⟨"CrowdedLanes$Parts", "isLeast", "(I)Z"⟩, 4), (⟨"CrowdedLanes", "weigh", "(I)I"⟩, 8), (⟨"CrowdedLanes$Rest", "listStates", "(J)V"⟩, 10), (⟨"CrowdedLanes$Rest", "fillOutflow", "()V"⟩, 10)]
theorem lw_r1 : ∀ q ∈ lw_privs_1, lw_okq q := List.forall_mem_cons.mpr ⟨lw_p0, List.forall_mem_cons.mpr ⟨lw_p1, List.forall_mem_cons.mpr ⟨lw_p2, List.forall_mem_cons.mpr ⟨lw_p3, List.forall_mem_cons.mpr ⟨lw_p4, List.forall_mem_cons.mpr ⟨lw_p5, List.forall_mem_cons.mpr ⟨lw_p6, List.forall_mem_cons.mpr ⟨lw_p7, List.forall_mem_cons.mpr ⟨lw_p8, List.forall_mem_cons.mpr ⟨lw_p9, List.forall_mem_cons.mpr ⟨lw_p10, List.forall_mem_cons.mpr ⟨lw_p11, List.forall_mem_cons.mpr ⟨lw_p12, List.forall_mem_cons.mpr ⟨lw_p13, List.forall_mem_cons.mpr ⟨lw_p14, List.forall_mem_cons.mpr ⟨lw_p15, fun _ h => absurd h List.not_mem_nil⟩⟩⟩⟩⟩⟩⟩⟩⟩⟩⟩⟩⟩⟩⟩⟩
theorem lw_p16 : lw_okq (⟨"CrowdedLanes$Rest", "treesTo", "(I)J"⟩, 10) := ⟨⟨by decide +kernel, by decide +kernel⟩, List.mem_of_getElem? (i := 108) (by decide +kernel), List.mem_of_getElem? (i := 505) (by decide +kernel), List.mem_of_getElem? (i := 506) (by decide +kernel)⟩
theorem lw_p17 : lw_okq (⟨"CrowdedLanes$Words", "find", "()V"⟩, 3) := ⟨⟨by decide +kernel, by decide +kernel⟩, List.mem_of_getElem? (i := 145) (by decide +kernel), List.mem_of_getElem? (i := 565) (by decide +kernel), List.mem_of_getElem? (i := 566) (by decide +kernel)⟩
theorem lw_p18 : lw_okq (⟨"CrowdedLanes$Words", "fromShorter", "(II)J"⟩, 3) := ⟨⟨by decide +kernel, by decide +kernel⟩, List.mem_of_getElem? (i := 145) (by decide +kernel), List.mem_of_getElem? (i := 570) (by decide +kernel), List.mem_of_getElem? (i := 571) (by decide +kernel)⟩
theorem lw_p19 : lw_okq (⟨"CrowdedLanes$Words", "at", "(II)J"⟩, 3) := ⟨⟨by decide +kernel, by decide +kernel⟩, List.mem_of_getElem? (i := 145) (by decide +kernel), List.mem_of_getElem? (i := 583) (by decide +kernel), List.mem_of_getElem? (i := 584) (by decide +kernel)⟩
theorem lw_p20 : lw_okq (⟨"CrowdedLanes", "shareByWords", "(II)J"⟩, 8) := ⟨⟨by decide +kernel, by decide +kernel⟩, List.mem_of_getElem? (i := 18) (by decide +kernel), List.mem_of_getElem? (i := 609) (by decide +kernel), List.mem_of_getElem? (i := 610) (by decide +kernel)⟩
theorem lw_p21 : lw_okq (⟨"CrowdedLanes$Line", "passOn", "(II)V"⟩, 6) := ⟨⟨by decide +kernel, by decide +kernel⟩, List.mem_of_getElem? (i := 161) (by decide +kernel), List.mem_of_getElem? (i := 711) (by decide +kernel), List.mem_of_getElem? (i := 712) (by decide +kernel)⟩
theorem lw_p22 : lw_okq (⟨"CrowdedLanes$Line", "walkFrom", "(II)V"⟩, 6) := ⟨⟨by decide +kernel, by decide +kernel⟩, List.mem_of_getElem? (i := 161) (by decide +kernel), List.mem_of_getElem? (i := 729) (by decide +kernel), List.mem_of_getElem? (i := 730) (by decide +kernel)⟩
theorem lw_p23 : lw_okq (⟨"CrowdedLanes$Line", "walksTo", "(I)J"⟩, 6) := ⟨⟨by decide +kernel, by decide +kernel⟩, List.mem_of_getElem? (i := 161) (by decide +kernel), List.mem_of_getElem? (i := 733) (by decide +kernel), List.mem_of_getElem? (i := 734) (by decide +kernel)⟩
theorem lw_p24 : lw_okq (⟨"CrowdedLanes", "judgeCells", "(JII)I"⟩, 8) := ⟨⟨by decide +kernel, by decide +kernel⟩, List.mem_of_getElem? (i := 18) (by decide +kernel), List.mem_of_getElem? (i := 834) (by decide +kernel), List.mem_of_getElem? (i := 835) (by decide +kernel)⟩
theorem lw_p25 : lw_okq (⟨"CrowdedLanesModel", "next", "()V"⟩, 31) := ⟨⟨by decide +kernel, by decide +kernel⟩, List.mem_of_getElem? (i := 866) (by decide +kernel), List.mem_of_getElem? (i := 981) (by decide +kernel), List.mem_of_getElem? (i := 982) (by decide +kernel)⟩
theorem lw_p26 : lw_okq (⟨"CrowdedLanesModel", "byteAt", "(I)I"⟩, 31) := ⟨⟨by decide +kernel, by decide +kernel⟩, List.mem_of_getElem? (i := 866) (by decide +kernel), List.mem_of_getElem? (i := 985) (by decide +kernel), List.mem_of_getElem? (i := 986) (by decide +kernel)⟩
theorem lw_p27 : lw_okq (⟨"CrowdedLanesModel", "nameAt", "(II)I"⟩, 31) := ⟨⟨by decide +kernel, by decide +kernel⟩, List.mem_of_getElem? (i := 866) (by decide +kernel), List.mem_of_getElem? (i := 991) (by decide +kernel), List.mem_of_getElem? (i := 992) (by decide +kernel)⟩
theorem lw_p28 : lw_okq (⟨"CrowdedLanesModel", "fails", "(I)V"⟩, 31) := ⟨⟨by decide +kernel, by decide +kernel⟩, List.mem_of_getElem? (i := 866) (by decide +kernel), List.mem_of_getElem? (i := 995) (by decide +kernel), List.mem_of_getElem? (i := 996) (by decide +kernel)⟩
theorem lw_p29 : lw_okq (⟨"CrowdedLanesModel", "oneLine", "()V"⟩, 31) := ⟨⟨by decide +kernel, by decide +kernel⟩, List.mem_of_getElem? (i := 866) (by decide +kernel), List.mem_of_getElem? (i := 1001) (by decide +kernel), List.mem_of_getElem? (i := 1002) (by decide +kernel)⟩
theorem lw_p30 : lw_okq (⟨"CrowdedLanesModel", "number", "(II)I"⟩, 31) := ⟨⟨by decide +kernel, by decide +kernel⟩, List.mem_of_getElem? (i := 866) (by decide +kernel), List.mem_of_getElem? (i := 1005) (by decide +kernel), List.mem_of_getElem? (i := 1006) (by decide +kernel)⟩
theorem lw_p31 : lw_okq (⟨"CrowdedLanesModel", "isState", "(I)Z"⟩, 31) := ⟨⟨by decide +kernel, by decide +kernel⟩, List.mem_of_getElem? (i := 866) (by decide +kernel), List.mem_of_getElem? (i := 1022) (by decide +kernel), List.mem_of_getElem? (i := 1023) (by decide +kernel)⟩
def lw_privs_2 : List (MethodName × Nat) := [(⟨"CrowdedLanes$Rest", "treesTo", "(I)J"⟩, 10), (⟨"CrowdedLanes$Words", "find", "()V"⟩, 3), (⟨"CrowdedLanes$Words", "fromShorter", "(II)J"⟩, 3), (⟨"CrowdedLanes$Words", "at", "(II)J"⟩, 3), (⟨"CrowdedLanes", "shareByWords", "(II)J"⟩, 8), (⟨"CrowdedLanes$Line", "passOn", "(II)V"⟩, 6), (⟨"CrowdedLanes$Line", "walkFrom", "(II)V"⟩, 6), (⟨"CrowdedLanes$Line", "walksTo", "(I)J"⟩, 6), (⟨"CrowdedLanes", "judgeCells", "(JII)I"⟩, 8), (⟨"CrowdedLanesModel", "next", "()V"⟩, 31), (⟨"CrowdedLanesModel", "byteAt", "(I)I"⟩, 31), (⟨"CrowdedLanesModel", "nameAt", "(II)I"⟩, 31), (⟨"CrowdedLanesModel", "fails", "(I)V"⟩, 31), (⟨"CrowdedLanesModel", "oneLine", "()V"⟩, 31), (⟨"CrowdedLanesModel", "number", "(II)I"⟩, 31), (⟨"CrowdedLanesModel", "isState", "(I)Z"⟩, 31)]
theorem lw_r2 : ∀ q ∈ lw_privs_2, lw_okq q := List.forall_mem_cons.mpr ⟨lw_p16, List.forall_mem_cons.mpr ⟨lw_p17, List.forall_mem_cons.mpr ⟨lw_p18, List.forall_mem_cons.mpr ⟨lw_p19, List.forall_mem_cons.mpr ⟨lw_p20, List.forall_mem_cons.mpr ⟨lw_p21, List.forall_mem_cons.mpr ⟨lw_p22, List.forall_mem_cons.mpr ⟨lw_p23, List.forall_mem_cons.mpr ⟨lw_p24, List.forall_mem_cons.mpr ⟨lw_p25, List.forall_mem_cons.mpr ⟨lw_p26, List.forall_mem_cons.mpr ⟨lw_p27, List.forall_mem_cons.mpr ⟨lw_p28, List.forall_mem_cons.mpr ⟨lw_p29, List.forall_mem_cons.mpr ⟨lw_p30, List.forall_mem_cons.mpr ⟨lw_p31, fun _ h => absurd h List.not_mem_nil⟩⟩⟩⟩⟩⟩⟩⟩⟩⟩⟩⟩⟩⟩⟩⟩
theorem lw_p32 : lw_okq (⟨"CrowdedLanesModel", "states", "()I"⟩, 31) := ⟨⟨by decide +kernel, by decide +kernel⟩, List.mem_of_getElem? (i := 866) (by decide +kernel), List.mem_of_getElem? (i := 1026) (by decide +kernel), List.mem_of_getElem? (i := 1027) (by decide +kernel)⟩
theorem lw_p33 : lw_okq (⟨"CrowdedLanesModel", "rateOf", "(II)I"⟩, 31) := ⟨⟨by decide +kernel, by decide +kernel⟩, List.mem_of_getElem? (i := 866) (by decide +kernel), List.mem_of_getElem? (i := 1030) (by decide +kernel), List.mem_of_getElem? (i := 1031) (by decide +kernel)⟩
theorem lw_p34 : lw_okq (⟨"CrowdedLanesModel", "places", "()I"⟩, 31) := ⟨⟨by decide +kernel, by decide +kernel⟩, List.mem_of_getElem? (i := 866) (by decide +kernel), List.mem_of_getElem? (i := 1034) (by decide +kernel), List.mem_of_getElem? (i := 1035) (by decide +kernel)⟩
theorem lw_p35 : lw_okq (⟨"CrowdedLanesModel", "isOpen", "()Z"⟩, 31) := ⟨⟨by decide +kernel, by decide +kernel⟩, List.mem_of_getElem? (i := 866) (by decide +kernel), List.mem_of_getElem? (i := 1038) (by decide +kernel), List.mem_of_getElem? (i := 1039) (by decide +kernel)⟩
theorem lw_p36 : lw_okq (⟨"CrowdedLanesModel", "gone", "(III)I"⟩, 31) := ⟨⟨by decide +kernel, by decide +kernel⟩, List.mem_of_getElem? (i := 866) (by decide +kernel), List.mem_of_getElem? (i := 1042) (by decide +kernel), List.mem_of_getElem? (i := 1043) (by decide +kernel)⟩
theorem lw_p37 : lw_okq (⟨"CrowdedLanesModel", "has", "(II)Z"⟩, 31) := ⟨⟨by decide +kernel, by decide +kernel⟩, List.mem_of_getElem? (i := 866) (by decide +kernel), List.mem_of_getElem? (i := 1046) (by decide +kernel), List.mem_of_getElem? (i := 1047) (by decide +kernel)⟩
theorem lw_p38 : lw_okq (⟨"CrowdedLanesModel", "layReaches", "()V"⟩, 31) := ⟨⟨by decide +kernel, by decide +kernel⟩, List.mem_of_getElem? (i := 866) (by decide +kernel), List.mem_of_getElem? (i := 1055) (by decide +kernel), List.mem_of_getElem? (i := 1056) (by decide +kernel)⟩
theorem lw_p39 : lw_okq (⟨"CrowdedLanesModel", "partOf", "(I)J"⟩, 31) := ⟨⟨by decide +kernel, by decide +kernel⟩, List.mem_of_getElem? (i := 866) (by decide +kernel), List.mem_of_getElem? (i := 1062) (by decide +kernel), List.mem_of_getElem? (i := 1063) (by decide +kernel)⟩
theorem lw_p40 : lw_okq (⟨"CrowdedLanesModel", "isShut", "(I)Z"⟩, 31) := ⟨⟨by decide +kernel, by decide +kernel⟩, List.mem_of_getElem? (i := 866) (by decide +kernel), List.mem_of_getElem? (i := 1066) (by decide +kernel), List.mem_of_getElem? (i := 1067) (by decide +kernel)⟩
theorem lw_p41 : lw_okq (⟨"CrowdedLanesModel", "layRest", "(I)I"⟩, 31) := ⟨⟨by decide +kernel, by decide +kernel⟩, List.mem_of_getElem? (i := 866) (by decide +kernel), List.mem_of_getElem? (i := 1083) (by decide +kernel), List.mem_of_getElem? (i := 1084) (by decide +kernel)⟩
theorem lw_p42 : lw_okq (⟨"CrowdedLanesModel", "layMembers", "(I)V"⟩, 31) := ⟨⟨by decide +kernel, by decide +kernel⟩, List.mem_of_getElem? (i := 866) (by decide +kernel), List.mem_of_getElem? (i := 1087) (by decide +kernel), List.mem_of_getElem? (i := 1088) (by decide +kernel)⟩
theorem lw_p43 : lw_okq (⟨"CrowdedLanesModel", "weightOf", "(I)J"⟩, 31) := ⟨⟨by decide +kernel, by decide +kernel⟩, List.mem_of_getElem? (i := 866) (by decide +kernel), List.mem_of_getElem? (i := 1091) (by decide +kernel), List.mem_of_getElem? (i := 1092) (by decide +kernel)⟩
theorem lw_p44 : lw_okq (⟨"CrowdedLanesModel", "weightAll", "()J"⟩, 31) := ⟨⟨by decide +kernel, by decide +kernel⟩, List.mem_of_getElem? (i := 866) (by decide +kernel), List.mem_of_getElem? (i := 1095) (by decide +kernel), List.mem_of_getElem? (i := 1096) (by decide +kernel)⟩
theorem lw_p45 : lw_okq (⟨"CrowdedLanesModel", "goesIn", "(I)I"⟩, 31) := ⟨⟨by decide +kernel, by decide +kernel⟩, List.mem_of_getElem? (i := 866) (by decide +kernel), List.mem_of_getElem? (i := 1107) (by decide +kernel), List.mem_of_getElem? (i := 1108) (by decide +kernel)⟩
theorem lw_p46 : lw_okq (⟨"CrowdedLanesModel", "haveWords", "()Z"⟩, 31) := ⟨⟨by decide +kernel, by decide +kernel⟩, List.mem_of_getElem? (i := 866) (by decide +kernel), List.mem_of_getElem? (i := 1119) (by decide +kernel), List.mem_of_getElem? (i := 1120) (by decide +kernel)⟩
theorem lw_p47 : lw_okq (⟨"CrowdedLanesModel", "layWorths", "()V"⟩, 31) := ⟨⟨by decide +kernel, by decide +kernel⟩, List.mem_of_getElem? (i := 866) (by decide +kernel), List.mem_of_getElem? (i := 1124) (by decide +kernel), List.mem_of_getElem? (i := 1125) (by decide +kernel)⟩
def lw_privs_3 : List (MethodName × Nat) := [(⟨"CrowdedLanesModel", "states", "()I"⟩, 31), (⟨"CrowdedLanesModel", "rateOf", "(II)I"⟩, 31), (⟨"CrowdedLanesModel", "places", "()I"⟩, 31), (⟨"CrowdedLanesModel", "isOpen", "()Z"⟩, 31), (⟨"CrowdedLanesModel", "gone", "(III)I"⟩, 31), (⟨"CrowdedLanesModel", "has", "(II)Z"⟩, 31), (⟨"CrowdedLanesModel", "layReaches", "()V"⟩, 31), (⟨"CrowdedLanesModel", "partOf", "(I)J"⟩, 31), (⟨"CrowdedLanesModel", "isShut", "(I)Z"⟩, 31), (⟨"CrowdedLanesModel", "layRest", "(I)I"⟩, 31), (⟨"CrowdedLanesModel", "layMembers", "(I)V"⟩, 31), (⟨"CrowdedLanesModel", "weightOf", "(I)J"⟩, 31), (⟨"CrowdedLanesModel", "weightAll", "()J"⟩, 31), (⟨"CrowdedLanesModel", "goesIn", "(I)I"⟩, 31), (⟨"CrowdedLanesModel", "haveWords", "()Z"⟩, 31), (⟨"CrowdedLanesModel", "layWorths", "()V"⟩, 31)]
theorem lw_r3 : ∀ q ∈ lw_privs_3, lw_okq q := List.forall_mem_cons.mpr ⟨lw_p32, List.forall_mem_cons.mpr ⟨lw_p33, List.forall_mem_cons.mpr ⟨lw_p34, List.forall_mem_cons.mpr ⟨lw_p35, List.forall_mem_cons.mpr ⟨lw_p36, List.forall_mem_cons.mpr ⟨lw_p37, List.forall_mem_cons.mpr ⟨lw_p38, List.forall_mem_cons.mpr ⟨lw_p39, List.forall_mem_cons.mpr ⟨lw_p40, List.forall_mem_cons.mpr ⟨lw_p41, List.forall_mem_cons.mpr ⟨lw_p42, List.forall_mem_cons.mpr ⟨lw_p43, List.forall_mem_cons.mpr ⟨lw_p44, List.forall_mem_cons.mpr ⟨lw_p45, List.forall_mem_cons.mpr ⟨lw_p46, List.forall_mem_cons.mpr ⟨lw_p47, fun _ h => absurd h List.not_mem_nil⟩⟩⟩⟩⟩⟩⟩⟩⟩⟩⟩⟩⟩⟩⟩⟩
theorem lw_p48 : lw_okq (⟨"CrowdedLanesModel", "allOf", "(I)J"⟩, 31) := ⟨⟨by decide +kernel, by decide +kernel⟩, List.mem_of_getElem? (i := 866) (by decide +kernel), List.mem_of_getElem? (i := 1135) (by decide +kernel), List.mem_of_getElem? (i := 1136) (by decide +kernel)⟩
theorem lw_p49 : lw_okq (⟨"CrowdedLanesModel", "withAll", "(I)J"⟩, 31) := ⟨⟨by decide +kernel, by decide +kernel⟩, List.mem_of_getElem? (i := 866) (by decide +kernel), List.mem_of_getElem? (i := 1147) (by decide +kernel), List.mem_of_getElem? (i := 1148) (by decide +kernel)⟩
theorem lw_p50 : lw_okq (⟨"CrowdedLanesModel", "onceMore", "(I)I"⟩, 31) := ⟨⟨by decide +kernel, by decide +kernel⟩, List.mem_of_getElem? (i := 866) (by decide +kernel), List.mem_of_getElem? (i := 1169) (by decide +kernel), List.mem_of_getElem? (i := 1170) (by decide +kernel)⟩
theorem lw_p51 : lw_okq (⟨"CrowdedLanesModel", "draw", "()I"⟩, 31) := ⟨⟨by decide +kernel, by decide +kernel⟩, List.mem_of_getElem? (i := 866) (by decide +kernel), List.mem_of_getElem? (i := 1182) (by decide +kernel), List.mem_of_getElem? (i := 1183) (by decide +kernel)⟩
theorem lw_p52 : lw_okq (⟨"CrowdedLanesModel", "hopAt", "(II)I"⟩, 31) := ⟨⟨by decide +kernel, by decide +kernel⟩, List.mem_of_getElem? (i := 866) (by decide +kernel), List.mem_of_getElem? (i := 1187) (by decide +kernel), List.mem_of_getElem? (i := 1188) (by decide +kernel)⟩
theorem lw_p53 : lw_okq (⟨"CrowdedLanesModel", "ordersOf", "(II)J"⟩, 31) := ⟨⟨by decide +kernel, by decide +kernel⟩, List.mem_of_getElem? (i := 866) (by decide +kernel), List.mem_of_getElem? (i := 1203) (by decide +kernel), List.mem_of_getElem? (i := 1204) (by decide +kernel)⟩
theorem lw_p54 : lw_okq (⟨"CrowdedLanesModel", "stepped", "(II)I"⟩, 31) := ⟨⟨by decide +kernel, by decide +kernel⟩, List.mem_of_getElem? (i := 866) (by decide +kernel), List.mem_of_getElem? (i := 1221) (by decide +kernel), List.mem_of_getElem? (i := 1222) (by decide +kernel)⟩
theorem lw_p55 : lw_okq (⟨"CrowdedLanesModel", "viewOf", "(II)I"⟩, 31) := ⟨⟨by decide +kernel, by decide +kernel⟩, List.mem_of_getElem? (i := 866) (by decide +kernel), List.mem_of_getElem? (i := 1230) (by decide +kernel), List.mem_of_getElem? (i := 1231) (by decide +kernel)⟩
theorem lw_p56 : lw_okq (⟨"CrowdedLanesModel", "wordAll", "()I"⟩, 31) := ⟨⟨by decide +kernel, by decide +kernel⟩, List.mem_of_getElem? (i := 866) (by decide +kernel), List.mem_of_getElem? (i := 1238) (by decide +kernel), List.mem_of_getElem? (i := 1239) (by decide +kernel)⟩
theorem lw_p57 : lw_okq (⟨"CrowdedLanesModel", "seenOf", "(I)I"⟩, 31) := ⟨⟨by decide +kernel, by decide +kernel⟩, List.mem_of_getElem? (i := 866) (by decide +kernel), List.mem_of_getElem? (i := 1242) (by decide +kernel), List.mem_of_getElem? (i := 1243) (by decide +kernel)⟩
theorem lw_p58 : lw_okq (⟨"CrowdedLanesModel", "layKinds", "(I)V"⟩, 31) := ⟨⟨by decide +kernel, by decide +kernel⟩, List.mem_of_getElem? (i := 866) (by decide +kernel), List.mem_of_getElem? (i := 1246) (by decide +kernel), List.mem_of_getElem? (i := 1247) (by decide +kernel)⟩
theorem lw_p59 : lw_okq (⟨"CrowdedLanesModel", "manyOf", "(I)I"⟩, 31) := ⟨⟨by decide +kernel, by decide +kernel⟩, List.mem_of_getElem? (i := 866) (by decide +kernel), List.mem_of_getElem? (i := 1250) (by decide +kernel), List.mem_of_getElem? (i := 1251) (by decide +kernel)⟩
theorem lw_p60 : lw_okq (⟨"CrowdedLanesModel", "wordSeen", "(I)I"⟩, 31) := ⟨⟨by decide +kernel, by decide +kernel⟩, List.mem_of_getElem? (i := 866) (by decide +kernel), List.mem_of_getElem? (i := 1259) (by decide +kernel), List.mem_of_getElem? (i := 1260) (by decide +kernel)⟩
theorem lw_p61 : lw_okq (⟨"CrowdedLanesModel", "behind", "(I)I"⟩, 31) := ⟨⟨by decide +kernel, by decide +kernel⟩, List.mem_of_getElem? (i := 866) (by decide +kernel), List.mem_of_getElem? (i := 1263) (by decide +kernel), List.mem_of_getElem? (i := 1264) (by decide +kernel)⟩
def lw_privs_4 : List (MethodName × Nat) := [(⟨"CrowdedLanesModel", "allOf", "(I)J"⟩, 31), (⟨"CrowdedLanesModel", "withAll", "(I)J"⟩, 31), (⟨"CrowdedLanesModel", "onceMore", "(I)I"⟩, 31), (⟨"CrowdedLanesModel", "draw", "()I"⟩, 31), (⟨"CrowdedLanesModel", "hopAt", "(II)I"⟩, 31), (⟨"CrowdedLanesModel", "ordersOf", "(II)J"⟩, 31), (⟨"CrowdedLanesModel", "stepped", "(II)I"⟩, 31), (⟨"CrowdedLanesModel", "viewOf", "(II)I"⟩, 31), (⟨"CrowdedLanesModel", "wordAll", "()I"⟩, 31), (⟨"CrowdedLanesModel", "seenOf", "(I)I"⟩, 31), (⟨"CrowdedLanesModel", "layKinds", "(I)V"⟩, 31), (⟨"CrowdedLanesModel", "manyOf", "(I)I"⟩, 31), (⟨"CrowdedLanesModel", "wordSeen", "(I)I"⟩, 31), (⟨"CrowdedLanesModel", "behind", "(I)I"⟩, 31)]
theorem lw_r4 : ∀ q ∈ lw_privs_4, lw_okq q := List.forall_mem_cons.mpr ⟨lw_p48, List.forall_mem_cons.mpr ⟨lw_p49, List.forall_mem_cons.mpr ⟨lw_p50, List.forall_mem_cons.mpr ⟨lw_p51, List.forall_mem_cons.mpr ⟨lw_p52, List.forall_mem_cons.mpr ⟨lw_p53, List.forall_mem_cons.mpr ⟨lw_p54, List.forall_mem_cons.mpr ⟨lw_p55, List.forall_mem_cons.mpr ⟨lw_p56, List.forall_mem_cons.mpr ⟨lw_p57, List.forall_mem_cons.mpr ⟨lw_p58, List.forall_mem_cons.mpr ⟨lw_p59, List.forall_mem_cons.mpr ⟨lw_p60, List.forall_mem_cons.mpr ⟨lw_p61, fun _ h => absurd h List.not_mem_nil⟩⟩⟩⟩⟩⟩⟩⟩⟩⟩⟩⟩⟩⟩
def lw_privs : List (MethodName × Nat) := lw_privs_1 ++ (lw_privs_2 ++ (lw_privs_3 ++ (lw_privs_4)))
def lw_tbl : List Cond := k2_sels lw_privs ++ tables_1
theorem lw_privs_ok : ∀ q ∈ lw_privs, lw_okq q := by
  show ∀ q ∈ lw_privs_1 ++ (lw_privs_2 ++ (lw_privs_3 ++ (lw_privs_4))), lw_okq q
  exact List.forall_mem_append.mpr ⟨lw_r1, List.forall_mem_append.mpr ⟨lw_r2, List.forall_mem_append.mpr ⟨lw_r3, lw_r4⟩⟩⟩
end
section
abbrev hz_M : Type := MethodName × ByteArray × Nat × Option FieldType × Nat × Nat
def RX0 : String := "CrowdedLanes$Kinds"
def TX0 : u_T := fun k => match k with
  | _ => ("", "", "", false)
def tyX0 : Nat → FieldType := fun k => match k with
  | _ => .int
abbrev wsX00 : List Cond := u_ws RX0 TX0 0
theorem nmX0 : ∀ a, a < 0 → ∀ b, b < 0 → a ≠ b → (TX0 a).2.1 ≠ (TX0 b).2.1 := by decide +kernel
theorem tyX0_ok : ∀ k, k < 0 → parseFieldDescriptor (TX0 k).2.2.1 = some (tyX0 k) := by decide +kernel
abbrev cX0_isWord : ByteArray := prog_2_method_2_code
def yX0_isWord : MethodName := ⟨RX0, "isWord", "(II)Z"⟩
abbrev cX0_placesOf : ByteArray := prog_2_method_3_code
def yX0_placesOf : MethodName := ⟨RX0, "placesOf", "(III)I"⟩
abbrev cX0_wordOf : ByteArray := prog_2_method_4_code
def yX0_wordOf : MethodName := ⟨RX0, "wordOf", "(III)I"⟩
abbrev cX0_kindAt : ByteArray := prog_2_method_5_code
def yX0_kindAt : MethodName := ⟨RX0, "kindAt", "(III)I"⟩
abbrev cX0_taken : ByteArray := prog_2_method_6_code
def yX0_taken : MethodName := ⟨RX0, "taken", "(III)I"⟩
abbrev cX0_firstToTheLeft : ByteArray := prog_2_method_7_code
def yX0_firstToTheLeft : MethodName := ⟨RX0, "firstToTheLeft", "(III)I"⟩
abbrev cX0_seenAs : ByteArray := prog_2_method_8_code
def yX0_seenAs : MethodName := ⟨RX0, "seenAs", "(III)I"⟩
abbrev cX0_hops : ByteArray := prog_2_method_9_code
def yX0_hops : MethodName := ⟨RX0, "hops", "(II)Z"⟩
abbrev cX0_nextPlace : ByteArray := prog_2_method_10_code
def yX0_nextPlace : MethodName := ⟨RX0, "nextPlace", "(II)I"⟩
abbrev cX0_hopsOut : ByteArray := prog_2_method_11_code
def yX0_hopsOut : MethodName := ⟨RX0, "hopsOut", "(III)I"⟩
abbrev cX0_seenBefore : ByteArray := prog_2_method_12_code
def yX0_seenBefore : MethodName := ⟨RX0, "seenBefore", "(III)I"⟩
abbrev cX0_changed : ByteArray := prog_2_method_13_code
def yX0_changed : MethodName := ⟨RX0, "changed", "(III)I"⟩
def RX1 : String := "CrowdedLanes$Lane"
def TX1 : u_T := fun k => match k with
  | _ => ("CrowdedLanes$Lane", "values", "[I", true)
def tyX1 : Nat → FieldType := fun k => match k with
  | _ => .array .int
abbrev wsX10 : List Cond := u_ws RX1 TX1 1
theorem nmX1 : ∀ a, a < 1 → ∀ b, b < 1 → a ≠ b → (TX1 a).2.1 ≠ (TX1 b).2.1 := by decide +kernel
theorem tyX1_ok : ∀ k, k < 1 → parseFieldDescriptor (TX1 k).2.2.1 = some (tyX1 k) := by decide +kernel
abbrev cX1_init : ByteArray := prog_3_method_1_code
def yX1_init : MethodName := ⟨RX1, "<init>", "()V"⟩
abbrev cX1_atFirst : ByteArray := prog_3_method_2_code
def yX1_atFirst : MethodName := ⟨RX1, "atFirst", "(I)I"⟩
abbrev cX1_value : ByteArray := prog_3_method_3_code
def yX1_value : MethodName := ⟨RX1, "value", "(I)I"⟩
abbrev cX1_tellValue : ByteArray := prog_3_method_4_code
def yX1_tellValue : MethodName := ⟨RX1, "tellValue", "(II)V"⟩
abbrev cX1_places : ByteArray := prog_3_method_5_code
def yX1_places : MethodName := ⟨RX1, "places", "()I"⟩
abbrev cX1_isOpen : ByteArray := prog_3_method_6_code
def yX1_isOpen : MethodName := ⟨RX1, "isOpen", "()Z"⟩
abbrev cX1_states : ByteArray := prog_3_method_7_code
def yX1_states : MethodName := ⟨RX1, "states", "()I"⟩
abbrev cX1_isState : ByteArray := prog_3_method_8_code
def yX1_isState : MethodName := ⟨RX1, "isState", "(I)Z"⟩
abbrev cX1_isPlace : ByteArray := prog_3_method_9_code
def yX1_isPlace : MethodName := ⟨RX1, "isPlace", "(I)Z"⟩
abbrev cX1_hasWords : ByteArray := prog_3_method_10_code
def yX1_hasWords : MethodName := ⟨RX1, "hasWords", "()Z"⟩
abbrev cX1_gates : ByteArray := prog_3_method_11_code
def yX1_gates : MethodName := ⟨RX1, "gates", "()I"⟩
abbrev cX1_besideGate : ByteArray := prog_3_method_12_code
def yX1_besideGate : MethodName := ⟨RX1, "besideGate", "(I)I"⟩
abbrev cX1_rateOver : ByteArray := prog_3_method_13_code
def yX1_rateOver : MethodName := ⟨RX1, "rateOver", "(II)I"⟩
abbrev cX1_rateOverBond : ByteArray := prog_3_method_14_code
def yX1_rateOverBond : MethodName := ⟨RX1, "rateOverBond", "(III)I"⟩
abbrev cX1_rateBetween : ByteArray := prog_3_method_15_code
def yX1_rateBetween : MethodName := ⟨RX1, "rateBetween", "(II)I"⟩
abbrev cX1_rateOut : ByteArray := prog_3_method_16_code
def yX1_rateOut : MethodName := ⟨RX1, "rateOut", "(I)I"⟩
abbrev cX1_targets : ByteArray := prog_3_method_17_code
def yX1_targets : MethodName := ⟨RX1, "targets", "(I)J"⟩
abbrev cX1_passing : ByteArray := prog_3_method_18_code
def yX1_passing : MethodName := ⟨RX1, "passing", "(I)I"⟩
def RX2 : String := "CrowdedLanes$Line"
def TX2 : u_T := fun k => match k with
  | 0 => ("CrowdedLanes$Line", "orders", "[J", true)
  | 1 => ("CrowdedLanes$Line", "walks", "[J", false)
  | 2 => ("CrowdedLanes$Line", "walksThen", "[J", false)
  | 3 => ("CrowdedLanes$Line", "starts", "[I", true)
  | 4 => ("CrowdedLanes$Line", "stops", "[I", true)
  | _ => ("CrowdedLanes$Line", "table", "[J", true)
def tyX2 : Nat → FieldType := fun k => match k with
  | 0 => .array .long
  | 1 => .array .long
  | 2 => .array .long
  | 3 => .array .int
  | 4 => .array .int
  | _ => .array .long
abbrev wsX20 : List Cond := u_ws RX2 TX2 6
theorem nmX2 : ∀ a, a < 6 → ∀ b, b < 6 → a ≠ b → (TX2 a).2.1 ≠ (TX2 b).2.1 := by decide +kernel
theorem tyX2_ok : ∀ k, k < 6 → parseFieldDescriptor (TX2 k).2.2.1 = some (tyX2 k) := by decide +kernel
abbrev cX2_init : ByteArray := prog_4_method_1_code
def yX2_init : MethodName := ⟨RX2, "<init>", "()V"⟩
abbrev cX2_isRim : ByteArray := prog_4_method_2_code
def yX2_isRim : MethodName := ⟨RX2, "isRim", "(I)Z"⟩
abbrev cX2_areWalkers : ByteArray := prog_4_method_3_code
def yX2_areWalkers : MethodName := ⟨RX2, "areWalkers", "(I)Z"⟩
abbrev cX2_hopsBetween : ByteArray := prog_4_method_4_code
def yX2_hopsBetween : MethodName := ⟨RX2, "hopsBetween", "(II)I"⟩
abbrev cX2_ordersBetween : ByteArray := prog_4_method_5_code
def yX2_ordersBetween : MethodName := ⟨RX2, "ordersBetween", "(II)J"⟩
abbrev cX2_passOn : ByteArray := prog_4_method_6_code
def yX2_passOn : MethodName := ⟨RX2, "passOn", "(II)V"⟩
abbrev cX2_waysBetween : ByteArray := prog_4_method_7_code
def yX2_waysBetween : MethodName := ⟨RX2, "waysBetween", "(III)J"⟩
abbrev cX2_listPlaces : ByteArray := prog_4_method_8_code
def yX2_listPlaces : MethodName := ⟨RX2, "listPlaces", "(II[I)V"⟩
abbrev cX2_walkFrom : ByteArray := prog_4_method_9_code
def yX2_walkFrom : MethodName := ⟨RX2, "walkFrom", "(II)V"⟩
abbrev cX2_walksTo : ByteArray := prog_4_method_10_code
def yX2_walksTo : MethodName := ⟨RX2, "walksTo", "(I)J"⟩
def RX3 : String := "CrowdedLanes$Parts"
def TX3 : u_T := fun k => match k with
  | 0 => ("CrowdedLanes$Parts", "lane", "LCrowdedLanes$Lane;", true)
  | 1 => ("CrowdedLanes$Parts", "reach", "[J", true)
  | 2 => ("CrowdedLanes$Parts", "part", "[J", true)
  | _ => ("CrowdedLanes$Parts", "found", "Z", false)
def tyX3 : Nat → FieldType := fun k => match k with
  | 0 => .object "CrowdedLanes$Lane"
  | 1 => .array .long
  | 2 => .array .long
  | _ => .boolean
abbrev wsX30 : List Cond := u_ws RX3 TX3 4
theorem nmX3 : ∀ a, a < 4 → ∀ b, b < 4 → a ≠ b → (TX3 a).2.1 ≠ (TX3 b).2.1 := by decide +kernel
theorem tyX3_ok : ∀ k, k < 4 → parseFieldDescriptor (TX3 k).2.2.1 = some (tyX3 k) := by decide +kernel
abbrev cX3_init : ByteArray := prog_5_method_1_code
def yX3_init : MethodName := ⟨RX3, "<init>", "(LCrowdedLanes$Lane;)V"⟩
abbrev cX3_forget : ByteArray := prog_5_method_2_code
def yX3_forget : MethodName := ⟨RX3, "forget", "()V"⟩
abbrev cX3_ready : ByteArray := prog_5_method_3_code
def yX3_ready : MethodName := ⟨RX3, "ready", "()LCrowdedLanes$Parts;"⟩
abbrev cX3_reached : ByteArray := prog_5_method_4_code
def yX3_reached : MethodName := ⟨RX3, "reached", "(I)J"⟩
abbrev cX3_partOf : ByteArray := prog_5_method_5_code
def yX3_partOf : MethodName := ⟨RX3, "partOf", "(I)J"⟩
abbrev cX3_isShut : ByteArray := prog_5_method_6_code
def yX3_isShut : MethodName := ⟨RX3, "isShut", "(I)Z"⟩
abbrev cX3_number : ByteArray := prog_5_method_7_code
def yX3_number : MethodName := ⟨RX3, "number", "(Z)I"⟩
abbrev cX3_greatestShut : ByteArray := prog_5_method_8_code
def yX3_greatestShut : MethodName := ⟨RX3, "greatestShut", "()I"⟩
abbrev cX3_isLeast : ByteArray := prog_5_method_9_code
def yX3_isLeast : MethodName := ⟨RX3, "isLeast", "(I)Z"⟩
abbrev cX3_findReach : ByteArray := prog_5_method_10_code
def yX3_findReach : MethodName := ⟨RX3, "findReach", "()V"⟩
abbrev cX3_findParts : ByteArray := prog_5_method_11_code
def yX3_findParts : MethodName := ⟨RX3, "findParts", "()V"⟩
abbrev cX3_spreadPart : ByteArray := prog_5_method_12_code
def yX3_spreadPart : MethodName := ⟨RX3, "spreadPart", "(II)V"⟩
def RX4 : String := "CrowdedLanes$Reader"
def TX4 : u_T := fun k => match k with
  | 0 => ("CrowdedLanes$Reader", "tape", "LCrowdedLanes$Tape;", true)
  | 1 => ("CrowdedLanes$Reader", "fresh", "[I", true)
  | 2 => ("CrowdedLanes$Reader", "next", "I", false)
  | 3 => ("CrowdedLanes$Reader", "kind", "I", false)
  | 4 => ("CrowdedLanes$Reader", "value", "I", false)
  | 5 => ("CrowdedLanes$Reader", "place", "I", false)
  | 6 => ("CrowdedLanes$Reader", "namesTold", "I", false)
  | 7 => ("CrowdedLanes$Reader", "lines", "I", false)
  | _ => ("CrowdedLanes$Reader", "fault", "I", false)
def tyX4 : Nat → FieldType := fun k => match k with
  | 0 => .object "CrowdedLanes$Tape"
  | 1 => .array .int
  | 2 => .int
  | 3 => .int
  | 4 => .int
  | 5 => .int
  | 6 => .int
  | 7 => .int
  | _ => .int
abbrev wsX40 : List Cond := u_ws RX4 TX4 9
theorem nmX4 : ∀ a, a < 9 → ∀ b, b < 9 → a ≠ b → (TX4 a).2.1 ≠ (TX4 b).2.1 := by decide +kernel
theorem tyX4_ok : ∀ k, k < 9 → parseFieldDescriptor (TX4 k).2.2.1 = some (tyX4 k) := by decide +kernel
abbrev cX4_init : ByteArray := prog_6_method_1_code
def yX4_init : MethodName := ⟨RX4, "<init>", "(LCrowdedLanes$Tape;)V"⟩
abbrev cX4_faultFound : ByteArray := prog_6_method_2_code
def yX4_faultFound : MethodName := ⟨RX4, "faultFound", "()I"⟩
abbrev cX4_faultPlace : ByteArray := prog_6_method_3_code
def yX4_faultPlace : MethodName := ⟨RX4, "faultPlace", "()I"⟩
abbrev cX4_lines : ByteArray := prog_6_method_4_code
def yX4_lines : MethodName := ⟨RX4, "lines", "()I"⟩
abbrev cX4_tellTo : ByteArray := prog_6_method_5_code
def yX4_tellTo : MethodName := ⟨RX4, "tellTo", "(LCrowdedLanes$Lane;)V"⟩
abbrev cX4_readText : ByteArray := prog_6_method_6_code
def yX4_readText : MethodName := ⟨RX4, "readText", "()Z"⟩
abbrev cX4_takeLine : ByteArray := prog_6_method_7_code
def yX4_takeLine : MethodName := ⟨RX4, "takeLine", "()Z"⟩
abbrev cX4_firstValue : ByteArray := prog_6_method_8_code
def yX4_firstValue : MethodName := ⟨RX4, "firstValue", "(I)I"⟩
abbrev cX4_takeNumber : ByteArray := prog_6_method_9_code
def yX4_takeNumber : MethodName := ⟨RX4, "takeNumber", "(III)Z"⟩
abbrev cX4_tellFresh : ByteArray := prog_6_method_10_code
def yX4_tellFresh : MethodName := ⟨RX4, "tellFresh", "(II)V"⟩
abbrev cX4_expect : ByteArray := prog_6_method_11_code
def yX4_expect : MethodName := ⟨RX4, "expect", "(I)Z"⟩
abbrev cX4_refuse : ByteArray := prog_6_method_12_code
def yX4_refuse : MethodName := ⟨RX4, "refuse", "(I)Z"⟩
abbrev cX4_readToken : ByteArray := prog_6_method_13_code
def yX4_readToken : MethodName := ⟨RX4, "readToken", "()V"⟩
abbrev cX4_readName : ByteArray := prog_6_method_14_code
def yX4_readName : MethodName := ⟨RX4, "readName", "()V"⟩
abbrev cX4_nameOf : ByteArray := prog_6_method_15_code
def yX4_nameOf : MethodName := ⟨RX4, "nameOf", "(I)I"⟩
abbrev cX4_readNumber : ByteArray := prog_6_method_16_code
def yX4_readNumber : MethodName := ⟨RX4, "readNumber", "()V"⟩
abbrev cX4_isLetter : ByteArray := prog_6_method_17_code
def yX4_isLetter : MethodName := ⟨RX4, "isLetter", "(I)Z"⟩
abbrev cX4_isFigure : ByteArray := prog_6_method_18_code
def yX4_isFigure : MethodName := ⟨RX4, "isFigure", "(I)Z"⟩
def RX5 : String := "CrowdedLanes$Rest"
def TX5 : u_T := fun k => match k with
  | 0 => ("CrowdedLanes$Rest", "lane", "LCrowdedLanes$Lane;", true)
  | 1 => ("CrowdedLanes$Rest", "states", "[I", true)
  | 2 => ("CrowdedLanes$Rest", "weights", "[J", true)
  | 3 => ("CrowdedLanes$Rest", "outflow", "[J", true)
  | 4 => ("CrowdedLanes$Rest", "minor", "[J", true)
  | 5 => ("CrowdedLanes$Rest", "surplus", "[J", true)
  | 6 => ("CrowdedLanes$Rest", "weighed", "J", false)
  | 7 => ("CrowdedLanes$Rest", "size", "I", false)
  | 8 => ("CrowdedLanes$Rest", "total", "J", false)
  | _ => ("CrowdedLanes$Rest", "poured", "J", false)
def tyX5 : Nat → FieldType := fun k => match k with
  | 0 => .object "CrowdedLanes$Lane"
  | 1 => .array .int
  | 2 => .array .long
  | 3 => .array .long
  | 4 => .array .long
  | 5 => .array .long
  | 6 => .long
  | 7 => .int
  | 8 => .long
  | _ => .long
abbrev wsX50 : List Cond := u_ws RX5 TX5 10
theorem nmX5 : ∀ a, a < 10 → ∀ b, b < 10 → a ≠ b → (TX5 a).2.1 ≠ (TX5 b).2.1 := by decide +kernel
theorem tyX5_ok : ∀ k, k < 10 → parseFieldDescriptor (TX5 k).2.2.1 = some (tyX5 k) := by decide +kernel
abbrev cX5_init : ByteArray := prog_7_method_1_code
def yX5_init : MethodName := ⟨RX5, "<init>", "(LCrowdedLanes$Lane;)V"⟩
abbrev cX5_forget : ByteArray := prog_7_method_2_code
def yX5_forget : MethodName := ⟨RX5, "forget", "()V"⟩
abbrev cX5_weighPart : ByteArray := prog_7_method_3_code
def yX5_weighPart : MethodName := ⟨RX5, "weighPart", "(J)V"⟩
abbrev cX5_listStates : ByteArray := prog_7_method_4_code
def yX5_listStates : MethodName := ⟨RX5, "listStates", "(J)V"⟩
abbrev cX5_fillOutflow : ByteArray := prog_7_method_5_code
def yX5_fillOutflow : MethodName := ⟨RX5, "fillOutflow", "()V"⟩
abbrev cX5_treesTo : ByteArray := prog_7_method_6_code
def yX5_treesTo : MethodName := ⟨RX5, "treesTo", "(I)J"⟩
abbrev cX5_total : ByteArray := prog_7_method_7_code
def yX5_total : MethodName := ⟨RX5, "total", "()J"⟩
abbrev cX5_weightOf : ByteArray := prog_7_method_8_code
def yX5_weightOf : MethodName := ⟨RX5, "weightOf", "(I)J"⟩
abbrev cX5_passing : ByteArray := prog_7_method_9_code
def yX5_passing : MethodName := ⟨RX5, "passing", "()J"⟩
abbrev cX5_agreesBothWays : ByteArray := prog_7_method_10_code
def yX5_agreesBothWays : MethodName := ⟨RX5, "agreesBothWays", "()Z"⟩
abbrev cX5_emptyShares : ByteArray := prog_7_method_11_code
def yX5_emptyShares : MethodName := ⟨RX5, "emptyShares", "()V"⟩
abbrev cX5_pourShare : ByteArray := prog_7_method_12_code
def yX5_pourShare : MethodName := ⟨RX5, "pourShare", "(II)V"⟩
abbrev cX5_sharesStand : ByteArray := prog_7_method_13_code
def yX5_sharesStand : MethodName := ⟨RX5, "sharesStand", "()Z"⟩
def RX6 : String := "CrowdedLanes$Ring"
def TX6 : u_T := fun k => match k with
  | _ => ("", "", "", false)
def tyX6 : Nat → FieldType := fun k => match k with
  | _ => .int
abbrev wsX60 : List Cond := u_ws RX6 TX6 0
theorem nmX6 : ∀ a, a < 0 → ∀ b, b < 0 → a ≠ b → (TX6 a).2.1 ≠ (TX6 b).2.1 := by decide +kernel
theorem tyX6_ok : ∀ k, k < 0 → parseFieldDescriptor (TX6 k).2.2.1 = some (tyX6 k) := by decide +kernel
abbrev cX6_ready : ByteArray := prog_8_method_2_code
def yX6_ready : MethodName := ⟨RX6, "ready", "(II)I"⟩
abbrev cX6_step : ByteArray := prog_8_method_3_code
def yX6_step : MethodName := ⟨RX6, "step", "(II)I"⟩
abbrev cX6_after : ByteArray := prog_8_method_4_code
def yX6_after : MethodName := ⟨RX6, "after", "(III)I"⟩
abbrev cX6_onRound : ByteArray := prog_8_method_5_code
def yX6_onRound : MethodName := ⟨RX6, "onRound", "(II)I"⟩
abbrev cX6_roundLength : ByteArray := prog_8_method_6_code
def yX6_roundLength : MethodName := ⟨RX6, "roundLength", "(II)I"⟩
abbrev cX6_tailLength : ByteArray := prog_8_method_7_code
def yX6_tailLength : MethodName := ⟨RX6, "tailLength", "(II)I"⟩
abbrev cX6_roundHops : ByteArray := prog_8_method_8_code
def yX6_roundHops : MethodName := ⟨RX6, "roundHops", "(II)I"⟩
abbrev cX6_leadOn : ByteArray := prog_8_method_9_code
def yX6_leadOn : MethodName := ⟨RX6, "leadOn", "(I)I"⟩
abbrev cX6_draw : ByteArray := prog_8_method_10_code
def yX6_draw : MethodName := ⟨RX6, "draw", "(II)I"⟩
abbrev cX6_tick : ByteArray := prog_8_method_11_code
def yX6_tick : MethodName := ⟨RX6, "tick", "(III)I"⟩
abbrev cX6_drawn : ByteArray := prog_8_method_12_code
def yX6_drawn : MethodName := ⟨RX6, "drawn", "(IIII)I"⟩
abbrev cX6_drawnHops : ByteArray := prog_8_method_13_code
def yX6_drawnHops : MethodName := ⟨RX6, "drawnHops", "(IIII)I"⟩
abbrev cX6_alikeFrom : ByteArray := prog_8_method_14_code
def yX6_alikeFrom : MethodName := ⟨RX6, "alikeFrom", "(IIIII)I"⟩
abbrev cX6_mostUnlike : ByteArray := prog_8_method_15_code
def yX6_mostUnlike : MethodName := ⟨RX6, "mostUnlike", "(IIIII)I"⟩
def RX7 : String := "CrowdedLanes$Sheets"
def TX7 : u_T := fun k => match k with
  | 0 => ("CrowdedLanes$Sheets", "kinds", "[I", true)
  | 1 => ("CrowdedLanes$Sheets", "sizes", "[I", true)
  | _ => ("CrowdedLanes$Sheets", "cells", "[I", true)
def tyX7 : Nat → FieldType := fun k => match k with
  | 0 => .array .int
  | 1 => .array .int
  | _ => .array .int
abbrev wsX70 : List Cond := u_ws RX7 TX7 3
theorem nmX7 : ∀ a, a < 3 → ∀ b, b < 3 → a ≠ b → (TX7 a).2.1 ≠ (TX7 b).2.1 := by decide +kernel
theorem tyX7_ok : ∀ k, k < 3 → parseFieldDescriptor (TX7 k).2.2.1 = some (tyX7 k) := by decide +kernel
abbrev cX7_init : ByteArray := prog_9_method_1_code
def yX7_init : MethodName := ⟨RX7, "<init>", "()V"⟩
abbrev cX7_isSheet : ByteArray := prog_9_method_2_code
def yX7_isSheet : MethodName := ⟨RX7, "isSheet", "(I)Z"⟩
abbrev cX7_isKind : ByteArray := prog_9_method_3_code
def yX7_isKind : MethodName := ⟨RX7, "isKind", "(I)Z"⟩
abbrev cX7_renew : ByteArray := prog_9_method_4_code
def yX7_renew : MethodName := ⟨RX7, "renew", "(III)V"⟩
abbrev cX7_isNothing : ByteArray := prog_9_method_5_code
def yX7_isNothing : MethodName := ⟨RX7, "isNothing", "(I)Z"⟩
abbrev cX7_isOfKind : ByteArray := prog_9_method_6_code
def yX7_isOfKind : MethodName := ⟨RX7, "isOfKind", "(II)Z"⟩
abbrev cX7_size : ByteArray := prog_9_method_7_code
def yX7_size : MethodName := ⟨RX7, "size", "(I)I"⟩
abbrev cX7_hasCell : ByteArray := prog_9_method_8_code
def yX7_hasCell : MethodName := ⟨RX7, "hasCell", "(II)Z"⟩
abbrev cX7_cell : ByteArray := prog_9_method_9_code
def yX7_cell : MethodName := ⟨RX7, "cell", "(II)I"⟩
abbrev cX7_put : ByteArray := prog_9_method_10_code
def yX7_put : MethodName := ⟨RX7, "put", "(III)V"⟩
abbrev cX7_narrowed : ByteArray := prog_9_method_11_code
def yX7_narrowed : MethodName := ⟨RX7, "narrowed", "(II)I"⟩
def RX8 : String := "CrowdedLanes$Tape"
def TX8 : u_T := fun k => match k with
  | 0 => ("CrowdedLanes$Tape", "bytes", "[B", true)
  | _ => ("CrowdedLanes$Tape", "length", "I", false)
def tyX8 : Nat → FieldType := fun k => match k with
  | 0 => .array .byte
  | _ => .int
abbrev wsX80 : List Cond := u_ws RX8 TX8 2
theorem nmX8 : ∀ a, a < 2 → ∀ b, b < 2 → a ≠ b → (TX8 a).2.1 ≠ (TX8 b).2.1 := by decide +kernel
theorem tyX8_ok : ∀ k, k < 2 → parseFieldDescriptor (TX8 k).2.2.1 = some (tyX8 k) := by decide +kernel
abbrev cX8_init : ByteArray := prog_10_method_1_code
def yX8_init : MethodName := ⟨RX8, "<init>", "()V"⟩
abbrev cX8_length : ByteArray := prog_10_method_2_code
def yX8_length : MethodName := ⟨RX8, "length", "()I"⟩
abbrev cX8_append : ByteArray := prog_10_method_3_code
def yX8_append : MethodName := ⟨RX8, "append", "(J)Z"⟩
abbrev cX8_cut : ByteArray := prog_10_method_4_code
def yX8_cut : MethodName := ⟨RX8, "cut", "(I)Z"⟩
abbrev cX8_byteAt : ByteArray := prog_10_method_5_code
def yX8_byteAt : MethodName := ⟨RX8, "byteAt", "(I)I"⟩
def RX9 : String := "CrowdedLanes$Whole"
def TX9 : u_T := fun k => match k with
  | _ => ("", "", "", false)
def tyX9 : Nat → FieldType := fun k => match k with
  | _ => .int
abbrev wsX90 : List Cond := u_ws RX9 TX9 0
theorem nmX9 : ∀ a, a < 0 → ∀ b, b < 0 → a ≠ b → (TX9 a).2.1 ≠ (TX9 b).2.1 := by decide +kernel
theorem tyX9_ok : ∀ k, k < 0 → parseFieldDescriptor (TX9 k).2.2.1 = some (tyX9 k) := by decide +kernel
abbrev cX9_lowest : ByteArray := prog_11_method_2_code
def yX9_lowest : MethodName := ⟨RX9, "lowest", "(JJI)J"⟩
abbrev cX9_commonDivisor : ByteArray := prog_11_method_3_code
def yX9_commonDivisor : MethodName := ⟨RX9, "commonDivisor", "(JJ)J"⟩
abbrev cX9_determinant : ByteArray := prog_11_method_4_code
def yX9_determinant : MethodName := ⟨RX9, "determinant", "([JI)J"⟩
abbrev cX9_clearBelow : ByteArray := prog_11_method_5_code
def yX9_clearBelow : MethodName := ⟨RX9, "clearBelow", "([JIIJ)V"⟩
def RX10 : String := "CrowdedLanes$Words"
def TX10 : u_T := fun k => match k with
  | 0 => ("CrowdedLanes$Words", "lane", "LCrowdedLanes$Lane;", true)
  | 1 => ("CrowdedLanes$Words", "worths", "[J", true)
  | _ => ("CrowdedLanes$Words", "found", "Z", false)
def tyX10 : Nat → FieldType := fun k => match k with
  | 0 => .object "CrowdedLanes$Lane"
  | 1 => .array .long
  | _ => .boolean
abbrev wsX100 : List Cond := u_ws RX10 TX10 3
theorem nmX10 : ∀ a, a < 3 → ∀ b, b < 3 → a ≠ b → (TX10 a).2.1 ≠ (TX10 b).2.1 := by decide +kernel
theorem tyX10_ok : ∀ k, k < 3 → parseFieldDescriptor (TX10 k).2.2.1 = some (tyX10 k) := by decide +kernel
abbrev cX10_init : ByteArray := prog_12_method_1_code
def yX10_init : MethodName := ⟨RX10, "<init>", "(LCrowdedLanes$Lane;)V"⟩
abbrev cX10_forget : ByteArray := prog_12_method_2_code
def yX10_forget : MethodName := ⟨RX10, "forget", "()V"⟩
abbrev cX10_worthOf : ByteArray := prog_12_method_3_code
def yX10_worthOf : MethodName := ⟨RX10, "worthOf", "(I)J"⟩
abbrev cX10_sum : ByteArray := prog_12_method_4_code
def yX10_sum : MethodName := ⟨RX10, "sum", "(II)J"⟩
abbrev cX10_at : ByteArray := prog_12_method_5_code
def yX10_at : MethodName := ⟨RX10, "at", "(II)J"⟩
abbrev cX10_find : ByteArray := prog_12_method_6_code
def yX10_find : MethodName := ⟨RX10, "find", "()V"⟩
abbrev cX10_fromShorter : ByteArray := prog_12_method_7_code
def yX10_fromShorter : MethodName := ⟨RX10, "fromShorter", "(II)J"⟩
abbrev cX10_without : ByteArray := prog_12_method_8_code
def yX10_without : MethodName := ⟨RX10, "without", "(II)I"⟩
abbrev cX10_power : ByteArray := prog_12_method_9_code
def yX10_power : MethodName := ⟨RX10, "power", "(JI)J"⟩
def RX11 : String := "CrowdedLanes"
def TX11 : u_T := fun k => match k with
  | 0 => ("CrowdedLanes", "tape", "LCrowdedLanes$Tape;", true)
  | 1 => ("CrowdedLanes", "lane", "LCrowdedLanes$Lane;", true)
  | 2 => ("CrowdedLanes", "reader", "LCrowdedLanes$Reader;", true)
  | 3 => ("CrowdedLanes", "partition", "LCrowdedLanes$Parts;", true)
  | 4 => ("CrowdedLanes", "standing", "LCrowdedLanes$Rest;", true)
  | 5 => ("CrowdedLanes", "wording", "LCrowdedLanes$Words;", true)
  | 6 => ("CrowdedLanes", "line", "LCrowdedLanes$Line;", true)
  | _ => ("CrowdedLanes", "sheets", "LCrowdedLanes$Sheets;", true)
def tyX11 : Nat → FieldType := fun k => match k with
  | 0 => .object "CrowdedLanes$Tape"
  | 1 => .object "CrowdedLanes$Lane"
  | 2 => .object "CrowdedLanes$Reader"
  | 3 => .object "CrowdedLanes$Parts"
  | 4 => .object "CrowdedLanes$Rest"
  | 5 => .object "CrowdedLanes$Words"
  | 6 => .object "CrowdedLanes$Line"
  | _ => .object "CrowdedLanes$Sheets"
abbrev wsX110 : List Cond := u_ws RX11 TX11 8
theorem nmX11 : ∀ a, a < 8 → ∀ b, b < 8 → a ≠ b → (TX11 a).2.1 ≠ (TX11 b).2.1 := by decide +kernel
theorem tyX11_ok : ∀ k, k < 8 → parseFieldDescriptor (TX11 k).2.2.1 = some (tyX11 k) := by decide +kernel
abbrev cX11_init : ByteArray := prog_1_method_1_code
def yX11_init : MethodName := ⟨RX11, "<init>", "()V"⟩
abbrev cX11_feed : ByteArray := prog_1_method_2_code
def yX11_feed : MethodName := ⟨RX11, "feed", "(J)I"⟩
abbrev cX11_end : ByteArray := prog_1_method_3_code
def yX11_end : MethodName := ⟨RX11, "end", "(I)I"⟩
abbrev cX11_text : ByteArray := prog_1_method_4_code
def yX11_text : MethodName := ⟨RX11, "text", "()I"⟩
abbrev cX11_fault : ByteArray := prog_1_method_5_code
def yX11_fault : MethodName := ⟨RX11, "fault", "()I"⟩
abbrev cX11_told : ByteArray := prog_1_method_6_code
def yX11_told : MethodName := ⟨RX11, "told", "(I)I"⟩
abbrev cX11_rate : ByteArray := prog_1_method_7_code
def yX11_rate : MethodName := ⟨RX11, "rate", "(II)I"⟩
abbrev cX11_of : ByteArray := prog_1_method_8_code
def yX11_of : MethodName := ⟨RX11, "of", "(II)I"⟩
abbrev cX11_parts : ByteArray := prog_1_method_9_code
def yX11_parts : MethodName := ⟨RX11, "parts", "(I)I"⟩
abbrev cX11_rest : ByteArray := prog_1_method_10_code
def yX11_rest : MethodName := ⟨RX11, "rest", "(II)J"⟩
abbrev cX11_through : ByteArray := prog_1_method_11_code
def yX11_through : MethodName := ⟨RX11, "through", "(II)J"⟩
abbrev cX11_even : ByteArray := prog_1_method_12_code
def yX11_even : MethodName := ⟨RX11, "even", "(I)I"⟩
abbrev cX11_worth : ByteArray := prog_1_method_13_code
def yX11_worth : MethodName := ⟨RX11, "worth", "(I)J"⟩
abbrev cX11_all : ByteArray := prog_1_method_14_code
def yX11_all : MethodName := ⟨RX11, "all", "(I)J"⟩
abbrev cX11_flow : ByteArray := prog_1_method_15_code
def yX11_flow : MethodName := ⟨RX11, "flow", "(I)J"⟩
abbrev cX11_full : ByteArray := prog_1_method_16_code
def yX11_full : MethodName := ⟨RX11, "full", "(II)J"⟩
abbrev cX11_both : ByteArray := prog_1_method_17_code
def yX11_both : MethodName := ⟨RX11, "both", "(III)J"⟩
abbrev cX11_rule : ByteArray := prog_1_method_18_code
def yX11_rule : MethodName := ⟨RX11, "rule", "(II)I"⟩
abbrev cX11_shock : ByteArray := prog_1_method_19_code
def yX11_shock : MethodName := ⟨RX11, "shock", "(III)I"⟩
abbrev cX11_atOnce : ByteArray := prog_1_method_20_code
def yX11_atOnce : MethodName := ⟨RX11, "atOnce", "(II)I"⟩
abbrev cX11_round : ByteArray := prog_1_method_21_code
def yX11_round : MethodName := ⟨RX11, "round", "(II)I"⟩
abbrev cX11_run : ByteArray := prog_1_method_22_code
def yX11_run : MethodName := ⟨RX11, "run", "(IIII)I"⟩
abbrev cX11_coupled : ByteArray := prog_1_method_23_code
def yX11_coupled : MethodName := ⟨RX11, "coupled", "(IIIII)I"⟩
abbrev cX11_cells : ByteArray := prog_1_method_24_code
def yX11_cells : MethodName := ⟨RX11, "cells", "(II)I"⟩
abbrev cX11_orders : ByteArray := prog_1_method_25_code
def yX11_orders : MethodName := ⟨RX11, "orders", "(II)J"⟩
abbrev cX11_ways : ByteArray := prog_1_method_26_code
def yX11_ways : MethodName := ⟨RX11, "ways", "(III)J"⟩
abbrev cX11_view : ByteArray := prog_1_method_27_code
def yX11_view : MethodName := ⟨RX11, "view", "(II)I"⟩
abbrev cX11_seen : ByteArray := prog_1_method_28_code
def yX11_seen : MethodName := ⟨RX11, "seen", "(I)I"⟩
abbrev cX11_word : ByteArray := prog_1_method_29_code
def yX11_word : MethodName := ⟨RX11, "word", "(II)I"⟩
abbrev cX11_sheet : ByteArray := prog_1_method_30_code
def yX11_sheet : MethodName := ⟨RX11, "sheet", "(III)I"⟩
abbrev cX11_lay : ByteArray := prog_1_method_31_code
def yX11_lay : MethodName := ⟨RX11, "lay", "(III)I"⟩
abbrev cX11_judge : ByteArray := prog_1_method_32_code
def yX11_judge : MethodName := ⟨RX11, "judge", "(IIII)I"⟩
abbrev cX11_count : ByteArray := prog_1_method_33_code
def yX11_count : MethodName := ⟨RX11, "count", "(I)I"⟩
abbrev cX11_within : ByteArray := prog_1_method_34_code
def yX11_within : MethodName := ⟨RX11, "within", "(III)Z"⟩
abbrev cX11_isFractionPart : ByteArray := prog_1_method_35_code
def yX11_isFractionPart : MethodName := ⟨RX11, "isFractionPart", "(I)Z"⟩
abbrev cX11_weigh : ByteArray := prog_1_method_36_code
def yX11_weigh : MethodName := ⟨RX11, "weigh", "(I)I"⟩
abbrev cX11_shareByWords : ByteArray := prog_1_method_37_code
def yX11_shareByWords : MethodName := ⟨RX11, "shareByWords", "(II)J"⟩
abbrev cX11_judgeCells : ByteArray := prog_1_method_38_code
def yX11_judgeCells : MethodName := ⟨RX11, "judgeCells", "(JII)I"⟩
def RX12 : String := "CrowdedLanesModel"
def TX12 : u_T := fun k => match k with
  | 0 => ("CrowdedLanesModel", "holds", "[I", true)
  | 1 => ("CrowdedLanesModel", "fresh", "[I", true)
  | 2 => ("CrowdedLanesModel", "tape", "[I", true)
  | 3 => ("CrowdedLanesModel", "taped", "I", false)
  | 4 => ("CrowdedLanesModel", "fault", "I", false)
  | 5 => ("CrowdedLanesModel", "wrong", "I", false)
  | 6 => ("CrowdedLanesModel", "wrongAt", "I", false)
  | 7 => ("CrowdedLanesModel", "at", "I", false)
  | 8 => ("CrowdedLanesModel", "place", "I", false)
  | 9 => ("CrowdedLanesModel", "token", "I", false)
  | 10 => ("CrowdedLanesModel", "value", "I", false)
  | 11 => ("CrowdedLanesModel", "toldNames", "I", false)
  | 12 => ("CrowdedLanesModel", "ends", "[I", true)
  | 13 => ("CrowdedLanesModel", "letters", "[I", true)
  | 14 => ("CrowdedLanesModel", "reaches", "[J", true)
  | 15 => ("CrowdedLanesModel", "members", "I", false)
  | 16 => ("CrowdedLanesModel", "member", "[I", true)
  | 17 => ("CrowdedLanesModel", "weights", "[J", true)
  | 18 => ("CrowdedLanesModel", "matrix", "[J", true)
  | 19 => ("CrowdedLanesModel", "worths", "[J", true)
  | 20 => ("CrowdedLanesModel", "hopped", "I", false)
  | 21 => ("CrowdedLanesModel", "since", "[I", true)
  | 22 => ("CrowdedLanesModel", "seed", "I", false)
  | 23 => ("CrowdedLanesModel", "sumsTo", "[J", true)
  | 24 => ("CrowdedLanesModel", "walks", "[J", true)
  | 25 => ("CrowdedLanesModel", "nextWalks", "[J", true)
  | 26 => ("CrowdedLanesModel", "standing", "[I", true)
  | 27 => ("CrowdedLanesModel", "kinds", "[I", true)
  | 28 => ("CrowdedLanesModel", "lanes", "[I", true)
  | 29 => ("CrowdedLanesModel", "lengths", "[I", true)
  | _ => ("CrowdedLanesModel", "cells", "[I", true)
def tyX12 : Nat → FieldType := fun k => match k with
  | 0 => .array .int
  | 1 => .array .int
  | 2 => .array .int
  | 3 => .int
  | 4 => .int
  | 5 => .int
  | 6 => .int
  | 7 => .int
  | 8 => .int
  | 9 => .int
  | 10 => .int
  | 11 => .int
  | 12 => .array .int
  | 13 => .array .int
  | 14 => .array .long
  | 15 => .int
  | 16 => .array .int
  | 17 => .array .long
  | 18 => .array .long
  | 19 => .array .long
  | 20 => .int
  | 21 => .array .int
  | 22 => .int
  | 23 => .array .long
  | 24 => .array .long
  | 25 => .array .long
  | 26 => .array .int
  | 27 => .array .int
  | 28 => .array .int
  | 29 => .array .int
  | _ => .array .int
abbrev wsX120 : List Cond := u_ws RX12 TX12 31
theorem nmX12 : ∀ a, a < 31 → ∀ b, b < 31 → a ≠ b → (TX12 a).2.1 ≠ (TX12 b).2.1 := by decide +kernel
theorem tyX12_ok : ∀ k, k < 31 → parseFieldDescriptor (TX12 k).2.2.1 = some (tyX12 k) := by decide +kernel
abbrev cX12_init : ByteArray := prog_14_method_1_code
def yX12_init : MethodName := ⟨RX12, "<init>", "()V"⟩
abbrev cX12_in : ByteArray := prog_14_method_3_code
def yX12_in : MethodName := ⟨RX12, "in", "(JJJ)Z"⟩
abbrev cX12_places : ByteArray := prog_14_method_4_code
def yX12_places : MethodName := ⟨RX12, "places", "()I"⟩
abbrev cX12_isOpen : ByteArray := prog_14_method_5_code
def yX12_isOpen : MethodName := ⟨RX12, "isOpen", "()Z"⟩
abbrev cX12_states : ByteArray := prog_14_method_6_code
def yX12_states : MethodName := ⟨RX12, "states", "()I"⟩
abbrev cX12_isState : ByteArray := prog_14_method_7_code
def yX12_isState : MethodName := ⟨RX12, "isState", "(I)Z"⟩
abbrev cX12_feed : ByteArray := prog_14_method_8_code
def yX12_feed : MethodName := ⟨RX12, "feed", "(J)I"⟩
abbrev cX12_end : ByteArray := prog_14_method_9_code
def yX12_end : MethodName := ⟨RX12, "end", "(I)I"⟩
abbrev cX12_byteAt : ByteArray := prog_14_method_10_code
def yX12_byteAt : MethodName := ⟨RX12, "byteAt", "(I)I"⟩
abbrev cX12_fails : ByteArray := prog_14_method_11_code
def yX12_fails : MethodName := ⟨RX12, "fails", "(I)V"⟩
abbrev cX12_nameAt : ByteArray := prog_14_method_12_code
def yX12_nameAt : MethodName := ⟨RX12, "nameAt", "(II)I"⟩
abbrev cX12_next : ByteArray := prog_14_method_13_code
def yX12_next : MethodName := ⟨RX12, "next", "()V"⟩
abbrev cX12_number : ByteArray := prog_14_method_14_code
def yX12_number : MethodName := ⟨RX12, "number", "(II)I"⟩
abbrev cX12_oneLine : ByteArray := prog_14_method_15_code
def yX12_oneLine : MethodName := ⟨RX12, "oneLine", "()V"⟩
abbrev cX12_text : ByteArray := prog_14_method_16_code
def yX12_text : MethodName := ⟨RX12, "text", "()I"⟩
abbrev cX12_fault : ByteArray := prog_14_method_17_code
def yX12_fault : MethodName := ⟨RX12, "fault", "()I"⟩
abbrev cX12_told : ByteArray := prog_14_method_18_code
def yX12_told : MethodName := ⟨RX12, "told", "(I)I"⟩
abbrev cX12_has : ByteArray := prog_14_method_19_code
def yX12_has : MethodName := ⟨RX12, "has", "(II)Z"⟩
abbrev cX12_gone : ByteArray := prog_14_method_20_code
def yX12_gone : MethodName := ⟨RX12, "gone", "(III)I"⟩
abbrev cX12_rateOf : ByteArray := prog_14_method_21_code
def yX12_rateOf : MethodName := ⟨RX12, "rateOf", "(II)I"⟩
abbrev cX12_rate : ByteArray := prog_14_method_22_code
def yX12_rate : MethodName := ⟨RX12, "rate", "(II)I"⟩
abbrev cX12_layReaches : ByteArray := prog_14_method_23_code
def yX12_layReaches : MethodName := ⟨RX12, "layReaches", "()V"⟩
abbrev cX12_partOf : ByteArray := prog_14_method_24_code
def yX12_partOf : MethodName := ⟨RX12, "partOf", "(I)J"⟩
abbrev cX12_isShut : ByteArray := prog_14_method_25_code
def yX12_isShut : MethodName := ⟨RX12, "isShut", "(I)Z"⟩
abbrev cX12_sizeOf : ByteArray := prog_14_method_26_code
def yX12_sizeOf : MethodName := ⟨RX12, "sizeOf", "(J)I"⟩
abbrev cX12_leastOf : ByteArray := prog_14_method_27_code
def yX12_leastOf : MethodName := ⟨RX12, "leastOf", "(J)I"⟩
abbrev cX12_of : ByteArray := prog_14_method_28_code
def yX12_of : MethodName := ⟨RX12, "of", "(II)I"⟩
abbrev cX12_parts : ByteArray := prog_14_method_29_code
def yX12_parts : MethodName := ⟨RX12, "parts", "(I)I"⟩
abbrev cX12_layMembers : ByteArray := prog_14_method_30_code
def yX12_layMembers : MethodName := ⟨RX12, "layMembers", "(I)V"⟩
abbrev cX12_weightOf : ByteArray := prog_14_method_31_code
def yX12_weightOf : MethodName := ⟨RX12, "weightOf", "(I)J"⟩
abbrev cX12_layRest : ByteArray := prog_14_method_32_code
def yX12_layRest : MethodName := ⟨RX12, "layRest", "(I)I"⟩
abbrev cX12_weightAll : ByteArray := prog_14_method_33_code
def yX12_weightAll : MethodName := ⟨RX12, "weightAll", "()J"⟩
abbrev cX12_lowest : ByteArray := prog_14_method_34_code
def yX12_lowest : MethodName := ⟨RX12, "lowest", "(JJI)J"⟩
abbrev cX12_rest : ByteArray := prog_14_method_35_code
def yX12_rest : MethodName := ⟨RX12, "rest", "(II)J"⟩
abbrev cX12_goesIn : ByteArray := prog_14_method_36_code
def yX12_goesIn : MethodName := ⟨RX12, "goesIn", "(I)I"⟩
abbrev cX12_through : ByteArray := prog_14_method_37_code
def yX12_through : MethodName := ⟨RX12, "through", "(II)J"⟩
abbrev cX12_even : ByteArray := prog_14_method_38_code
def yX12_even : MethodName := ⟨RX12, "even", "(I)I"⟩
abbrev cX12_haveWords : ByteArray := prog_14_method_39_code
def yX12_haveWords : MethodName := ⟨RX12, "haveWords", "()Z"⟩
abbrev cX12_without : ByteArray := prog_14_method_40_code
def yX12_without : MethodName := ⟨RX12, "without", "(II)I"⟩
abbrev cX12_layWorths : ByteArray := prog_14_method_41_code
def yX12_layWorths : MethodName := ⟨RX12, "layWorths", "()V"⟩
abbrev cX12_allOf : ByteArray := prog_14_method_42_code
def yX12_allOf : MethodName := ⟨RX12, "allOf", "(I)J"⟩
abbrev cX12_worth : ByteArray := prog_14_method_43_code
def yX12_worth : MethodName := ⟨RX12, "worth", "(I)J"⟩
abbrev cX12_all : ByteArray := prog_14_method_44_code
def yX12_all : MethodName := ⟨RX12, "all", "(I)J"⟩
abbrev cX12_flow : ByteArray := prog_14_method_45_code
def yX12_flow : MethodName := ⟨RX12, "flow", "(I)J"⟩
abbrev cX12_withAll : ByteArray := prog_14_method_46_code
def yX12_withAll : MethodName := ⟨RX12, "withAll", "(I)J"⟩
abbrev cX12_full : ByteArray := prog_14_method_47_code
def yX12_full : MethodName := ⟨RX12, "full", "(II)J"⟩
abbrev cX12_both : ByteArray := prog_14_method_48_code
def yX12_both : MethodName := ⟨RX12, "both", "(III)J"⟩
abbrev cX12_rule : ByteArray := prog_14_method_49_code
def yX12_rule : MethodName := ⟨RX12, "rule", "(II)I"⟩
abbrev cX12_shock : ByteArray := prog_14_method_50_code
def yX12_shock : MethodName := ⟨RX12, "shock", "(III)I"⟩
abbrev cX12_onceMore : ByteArray := prog_14_method_51_code
def yX12_onceMore : MethodName := ⟨RX12, "onceMore", "(I)I"⟩
abbrev cX12_atOnce : ByteArray := prog_14_method_52_code
def yX12_atOnce : MethodName := ⟨RX12, "atOnce", "(II)I"⟩
abbrev cX12_round : ByteArray := prog_14_method_53_code
def yX12_round : MethodName := ⟨RX12, "round", "(II)I"⟩
abbrev cX12_draw : ByteArray := prog_14_method_54_code
def yX12_draw : MethodName := ⟨RX12, "draw", "()I"⟩
abbrev cX12_hopAt : ByteArray := prog_14_method_55_code
def yX12_hopAt : MethodName := ⟨RX12, "hopAt", "(II)I"⟩
abbrev cX12_run : ByteArray := prog_14_method_56_code
def yX12_run : MethodName := ⟨RX12, "run", "(IIII)I"⟩
abbrev cX12_coupled : ByteArray := prog_14_method_57_code
def yX12_coupled : MethodName := ⟨RX12, "coupled", "(IIIII)I"⟩
abbrev cX12_isRim : ByteArray := prog_14_method_58_code
def yX12_isRim : MethodName := ⟨RX12, "isRim", "(I)Z"⟩
abbrev cX12_ordersOf : ByteArray := prog_14_method_59_code
def yX12_ordersOf : MethodName := ⟨RX12, "ordersOf", "(II)J"⟩
abbrev cX12_weightSum : ByteArray := prog_14_method_60_code
def yX12_weightSum : MethodName := ⟨RX12, "weightSum", "(I)I"⟩
abbrev cX12_cells : ByteArray := prog_14_method_61_code
def yX12_cells : MethodName := ⟨RX12, "cells", "(II)I"⟩
abbrev cX12_orders : ByteArray := prog_14_method_62_code
def yX12_orders : MethodName := ⟨RX12, "orders", "(II)J"⟩
abbrev cX12_stepped : ByteArray := prog_14_method_63_code
def yX12_stepped : MethodName := ⟨RX12, "stepped", "(II)I"⟩
abbrev cX12_ways : ByteArray := prog_14_method_64_code
def yX12_ways : MethodName := ⟨RX12, "ways", "(III)J"⟩
abbrev cX12_wordAll : ByteArray := prog_14_method_65_code
def yX12_wordAll : MethodName := ⟨RX12, "wordAll", "()I"⟩
abbrev cX12_viewOf : ByteArray := prog_14_method_66_code
def yX12_viewOf : MethodName := ⟨RX12, "viewOf", "(II)I"⟩
abbrev cX12_view : ByteArray := prog_14_method_67_code
def yX12_view : MethodName := ⟨RX12, "view", "(II)I"⟩
abbrev cX12_layKinds : ByteArray := prog_14_method_68_code
def yX12_layKinds : MethodName := ⟨RX12, "layKinds", "(I)V"⟩
abbrev cX12_manyOf : ByteArray := prog_14_method_69_code
def yX12_manyOf : MethodName := ⟨RX12, "manyOf", "(I)I"⟩
abbrev cX12_seenOf : ByteArray := prog_14_method_70_code
def yX12_seenOf : MethodName := ⟨RX12, "seenOf", "(I)I"⟩
abbrev cX12_seen : ByteArray := prog_14_method_71_code
def yX12_seen : MethodName := ⟨RX12, "seen", "(I)I"⟩
abbrev cX12_change : ByteArray := prog_14_method_72_code
def yX12_change : MethodName := ⟨RX12, "change", "(II)Z"⟩
abbrev cX12_behind : ByteArray := prog_14_method_73_code
def yX12_behind : MethodName := ⟨RX12, "behind", "(I)I"⟩
abbrev cX12_wordSeen : ByteArray := prog_14_method_74_code
def yX12_wordSeen : MethodName := ⟨RX12, "wordSeen", "(I)I"⟩
abbrev cX12_word : ByteArray := prog_14_method_75_code
def yX12_word : MethodName := ⟨RX12, "word", "(II)I"⟩
abbrev cX12_sheet : ByteArray := prog_14_method_76_code
def yX12_sheet : MethodName := ⟨RX12, "sheet", "(III)I"⟩
abbrev cX12_lay : ByteArray := prog_14_method_77_code
def yX12_lay : MethodName := ⟨RX12, "lay", "(III)I"⟩
abbrev cX12_judge : ByteArray := prog_14_method_78_code
def yX12_judge : MethodName := ⟨RX12, "judge", "(IIII)I"⟩
abbrev cX12_count : ByteArray := prog_14_method_79_code
def yX12_count : MethodName := ⟨RX12, "count", "(I)I"⟩
def RJ6 : String := "java/lang/Integer"
def TJ6 : u_T := fun k => match k with
  | _ => ("", "", "", false)
def tyJ6 : Nat → FieldType := fun k => match k with
  | _ => .int
abbrev wsJ60 : List Cond := u_ws RJ6 TJ6 0
abbrev cJ6_numberOfTrailingZeros_0f7a4 : ByteArray := prog_15_method_48_code
def yJ6_numberOfTrailingZeros_0f7a4 : MethodName := ⟨RJ6, "numberOfTrailingZeros", "(I)I"⟩
abbrev cJ6_bitCount_0f7a4 : ByteArray := prog_15_method_49_code
def yJ6_bitCount_0f7a4 : MethodName := ⟨RJ6, "bitCount", "(I)I"⟩
def RJ13 : String := "java/lang/Long"
def TJ13 : u_T := fun k => match k with
  | _ => ("", "", "", false)
def tyJ13 : Nat → FieldType := fun k => match k with
  | _ => .int
abbrev wsJ130 : List Cond := u_ws RJ13 TJ13 0
abbrev cJ13_numberOfTrailingZeros_95d88 : ByteArray := prog_16_method_49_code
def yJ13_numberOfTrailingZeros_95d88 : MethodName := ⟨RJ13, "numberOfTrailingZeros", "(J)I"⟩
abbrev cJ13_bitCount_95d88 : ByteArray := prog_16_method_50_code
def yJ13_bitCount_95d88 : MethodName := ⟨RJ13, "bitCount", "(J)I"⟩
def RJ9 : String := "java/lang/Math"
def TJ9 : u_T := fun k => match k with
  | _ => ("", "", "", false)
def tyJ9 : Nat → FieldType := fun k => match k with
  | _ => .int
abbrev wsJ90 : List Cond := u_ws RJ9 TJ9 0
abbrev cJ9_abs_067f4 : ByteArray := prog_17_method_61_code
def yJ9_abs_067f4 : MethodName := ⟨RJ9, "abs", "(J)J"⟩
abbrev cJ9_max_7cf53 : ByteArray := prog_17_method_65_code
def yJ9_max_7cf53 : MethodName := ⟨RJ9, "max", "(II)I"⟩
abbrev cJ9_min_7cf53 : ByteArray := prog_17_method_69_code
def yJ9_min_7cf53 : MethodName := ⟨RJ9, "min", "(II)I"⟩
def RL : String := "CrowdedLanesLaw"
abbrev cL_law : ByteArray := code
def yL_law : MethodName := ⟨RL, "law", "([I)Z"⟩
theorem inX0 : ∀ w ∈ wsX00, w ∈ lw_tbl := by decide +kernel
theorem inX1 : ∀ w ∈ wsX10, w ∈ lw_tbl := by decide +kernel
theorem inX2 : ∀ w ∈ wsX20, w ∈ lw_tbl := by decide +kernel
theorem inX3 : ∀ w ∈ wsX30, w ∈ lw_tbl := by decide +kernel
theorem inX4 : ∀ w ∈ wsX40, w ∈ lw_tbl := by decide +kernel
theorem inX5 : ∀ w ∈ wsX50, w ∈ lw_tbl := by decide +kernel
theorem inX6 : ∀ w ∈ wsX60, w ∈ lw_tbl := by decide +kernel
theorem inX7 : ∀ w ∈ wsX70, w ∈ lw_tbl := by decide +kernel
theorem inX8 : ∀ w ∈ wsX80, w ∈ lw_tbl := by decide +kernel
theorem inX9 : ∀ w ∈ wsX90, w ∈ lw_tbl := by decide +kernel
theorem inX10 : ∀ w ∈ wsX100, w ∈ lw_tbl := by decide +kernel
theorem inX11 : ∀ w ∈ wsX110, w ∈ lw_tbl := by decide +kernel
theorem inX12 : ∀ w ∈ wsX120, w ∈ lw_tbl := by decide +kernel
abbrev vwCl : List vw_C := [(RX1, TX1, 1), (RX2, TX2, 6), (RX3, TX3, 4), (RX4, TX4, 9), (RX5, TX5, 10), (RX7, TX7, 3), (RX8, TX8, 2), (RX10, TX10, 3), (RX11, TX11, 8), (RX12, TX12, 31)]
def MX0_isWord : hz_M := (yX0_isWord, cX0_isWord, 4, (some .boolean), 0, 0)
def MX0_placesOf : hz_M := (yX0_placesOf, cX0_placesOf, 6, (some .int), 0, 0)
def MX0_wordOf : hz_M := (yX0_wordOf, cX0_wordOf, 5, (some .int), 1, 22)
def MX0_kindAt : hz_M := (yX0_kindAt, cX0_kindAt, 3, (some .int), 0, 0)
def MX0_taken : hz_M := (yX0_taken, cX0_taken, 5, (some .int), 1, 24)
def MX0_firstToTheLeft : hz_M := (yX0_firstToTheLeft, cX0_firstToTheLeft, 5, (some .int), 0, 0)
def MX0_seenAs : hz_M := (yX0_seenAs, cX0_seenAs, 6, (some .int), 2, 48)
def MX0_hops : hz_M := (yX0_hops, cX0_hops, 2, (some .boolean), 0, 0)
def MX0_nextPlace : hz_M := (yX0_nextPlace, cX0_nextPlace, 2, (some .int), 0, 0)
def MX0_hopsOut : hz_M := (yX0_hopsOut, cX0_hopsOut, 5, (some .int), 1, 22)
def MX0_seenBefore : hz_M := (yX0_seenBefore, cX0_seenBefore, 6, (some .int), 3, 73)
def MX0_changed : hz_M := (yX0_changed, cX0_changed, 4, (some .int), 0, 0)
def MX1_init : hz_M := (yX1_init, cX1_init, 2, none, 1, 20)
def MX1_atFirst : hz_M := (yX1_atFirst, cX1_atFirst, 1, (some .int), 0, 0)
def MX1_value : hz_M := (yX1_value, cX1_value, 2, (some .int), 0, 0)
def MX1_tellValue : hz_M := (yX1_tellValue, cX1_tellValue, 3, none, 0, 0)
def MX1_places : hz_M := (yX1_places, cX1_places, 1, (some .int), 0, 0)
def MX1_isOpen : hz_M := (yX1_isOpen, cX1_isOpen, 1, (some .boolean), 0, 0)
def MX1_states : hz_M := (yX1_states, cX1_states, 1, (some .int), 1, 20)
def MX1_isState : hz_M := (yX1_isState, cX1_isState, 2, (some .boolean), 2, 40)
def MX1_isPlace : hz_M := (yX1_isPlace, cX1_isPlace, 2, (some .boolean), 1, 20)
def MX1_hasWords : hz_M := (yX1_hasWords, cX1_hasWords, 1, (some .boolean), 1, 20)
def MX1_gates : hz_M := (yX1_gates, cX1_gates, 1, (some .int), 1, 20)
def MX1_besideGate : hz_M := (yX1_besideGate, cX1_besideGate, 3, (some .int), 1, 20)
def MX1_rateOver : hz_M := (yX1_rateOver, cX1_rateOver, 4, (some .int), 1, 24)
def MX1_rateOverBond : hz_M := (yX1_rateOverBond, cX1_rateOverBond, 5, (some .int), 0, 0)
def MX1_rateBetween : hz_M := (yX1_rateBetween, cX1_rateBetween, 5, (some .int), 2, 47)
def MX1_rateOut : hz_M := (yX1_rateOut, cX1_rateOut, 4, (some .int), 2, 47)
def MX1_targets : hz_M := (yX1_targets, cX1_targets, 5, (some .long), 2, 47)
def MX1_passing : hz_M := (yX1_passing, cX1_passing, 3, (some .int), 1, 24)
def MX2_init : hz_M := (yX2_init, cX2_init, 1, none, 1, 20)
def MX2_isRim : hz_M := (yX2_isRim, cX2_isRim, 1, (some .boolean), 0, 0)
def MX2_areWalkers : hz_M := (yX2_areWalkers, cX2_areWalkers, 2, (some .boolean), 1, 20)
def MX2_hopsBetween : hz_M := (yX2_hopsBetween, cX2_hopsBetween, 7, (some .int), 1, 21)
def MX2_ordersBetween : hz_M := (yX2_ordersBetween, cX2_ordersBetween, 4, (some .long), 1, 25)
def MX2_passOn : hz_M := (yX2_passOn, cX2_passOn, 6, none, 0, 0)
def MX2_waysBetween : hz_M := (yX2_waysBetween, cX2_waysBetween, 7, (some .long), 2, 54)
def MX2_listPlaces : hz_M := (yX2_listPlaces, cX2_listPlaces, 6, none, 0, 0)
def MX2_walkFrom : hz_M := (yX2_walkFrom, cX2_walkFrom, 5, none, 1, 21)
def MX2_walksTo : hz_M := (yX2_walksTo, cX2_walksTo, 2, (some .long), 0, 0)
def MX3_init : hz_M := (yX3_init, cX3_init, 2, none, 1, 20)
def MX3_forget : hz_M := (yX3_forget, cX3_forget, 1, none, 0, 0)
def MX3_ready : hz_M := (yX3_ready, cX3_ready, 1, (some (.object "CrowdedLanes$Parts")), 4, 94)
def MX3_reached : hz_M := (yX3_reached, cX3_reached, 2, (some .long), 0, 0)
def MX3_partOf : hz_M := (yX3_partOf, cX3_partOf, 2, (some .long), 0, 0)
def MX3_isShut : hz_M := (yX3_isShut, cX3_isShut, 2, (some .boolean), 1, 21)
def MX3_number : hz_M := (yX3_number, cX3_number, 4, (some .int), 3, 64)
def MX3_greatestShut : hz_M := (yX3_greatestShut, cX3_greatestShut, 3, (some .int), 2, 42)
def MX3_isLeast : hz_M := (yX3_isLeast, cX3_isLeast, 2, (some .boolean), 2, 43)
def MX3_findReach : hz_M := (yX3_findReach, cX3_findReach, 4, none, 3, 71)
def MX3_findParts : hz_M := (yX3_findParts, cX3_findParts, 3, none, 2, 40)
def MX3_spreadPart : hz_M := (yX3_spreadPart, cX3_spreadPart, 6, none, 0, 0)
def MX4_init : hz_M := (yX4_init, cX4_init, 2, none, 1, 20)
def MX4_faultFound : hz_M := (yX4_faultFound, cX4_faultFound, 1, (some .int), 0, 0)
def MX4_faultPlace : hz_M := (yX4_faultPlace, cX4_faultPlace, 1, (some .int), 0, 0)
def MX4_lines : hz_M := (yX4_lines, cX4_lines, 1, (some .int), 0, 0)
def MX4_tellTo : hz_M := (yX4_tellTo, cX4_tellTo, 3, none, 1, 22)
def MX4_readText : hz_M := (yX4_readText, cX4_readText, 2, (some .boolean), 5, 110)
def MX4_takeLine : hz_M := (yX4_takeLine, cX4_takeLine, 4, (some .boolean), 4, 87)
def MX4_firstValue : hz_M := (yX4_firstValue, cX4_firstValue, 1, (some .int), 0, 0)
def MX4_takeNumber : hz_M := (yX4_takeNumber, cX4_takeNumber, 4, (some .boolean), 3, 64)
def MX4_tellFresh : hz_M := (yX4_tellFresh, cX4_tellFresh, 3, none, 0, 0)
def MX4_expect : hz_M := (yX4_expect, cX4_expect, 2, (some .boolean), 1, 21)
def MX4_refuse : hz_M := (yX4_refuse, cX4_refuse, 2, (some .boolean), 0, 0)
def MX4_readToken : hz_M := (yX4_readToken, cX4_readToken, 2, none, 2, 43)
def MX4_readName : hz_M := (yX4_readName, cX4_readName, 3, none, 1, 21)
def MX4_nameOf : hz_M := (yX4_nameOf, cX4_nameOf, 1, (some .int), 0, 0)
def MX4_readNumber : hz_M := (yX4_readNumber, cX4_readNumber, 2, none, 1, 21)
def MX4_isLetter : hz_M := (yX4_isLetter, cX4_isLetter, 1, (some .boolean), 0, 0)
def MX4_isFigure : hz_M := (yX4_isFigure, cX4_isFigure, 1, (some .boolean), 0, 0)
def MX5_init : hz_M := (yX5_init, cX5_init, 2, none, 1, 20)
def MX5_forget : hz_M := (yX5_forget, cX5_forget, 1, none, 0, 0)
def MX5_weighPart : hz_M := (yX5_weighPart, cX5_weighPart, 4, none, 4, 94)
def MX5_listStates : hz_M := (yX5_listStates, cX5_listStates, 4, none, 0, 0)
def MX5_fillOutflow : hz_M := (yX5_fillOutflow, cX5_fillOutflow, 4, none, 3, 71)
def MX5_treesTo : hz_M := (yX5_treesTo, cX5_treesTo, 5, (some .long), 2, 54)
def MX5_total : hz_M := (yX5_total, cX5_total, 1, (some .long), 0, 0)
def MX5_weightOf : hz_M := (yX5_weightOf, cX5_weightOf, 3, (some .long), 0, 0)
def MX5_passing : hz_M := (yX5_passing, cX5_passing, 4, (some .long), 2, 46)
def MX5_agreesBothWays : hz_M := (yX5_agreesBothWays, cX5_agreesBothWays, 3, (some .boolean), 0, 0)
def MX5_emptyShares : hz_M := (yX5_emptyShares, cX5_emptyShares, 2, none, 0, 0)
def MX5_pourShare : hz_M := (yX5_pourShare, cX5_pourShare, 7, none, 2, 47)
def MX5_sharesStand : hz_M := (yX5_sharesStand, cX5_sharesStand, 2, (some .boolean), 0, 0)
def MX6_ready : hz_M := (yX6_ready, cX6_ready, 3, (some .int), 0, 0)
def MX6_step : hz_M := (yX6_step, cX6_step, 4, (some .int), 1, 22)
def MX6_after : hz_M := (yX6_after, cX6_after, 5, (some .int), 2, 45)
def MX6_onRound : hz_M := (yX6_onRound, cX6_onRound, 2, (some .int), 3, 69)
def MX6_roundLength : hz_M := (yX6_roundLength, cX6_roundLength, 6, (some .int), 4, 90)
def MX6_tailLength : hz_M := (yX6_tailLength, cX6_tailLength, 6, (some .int), 5, 115)
def MX6_roundHops : hz_M := (yX6_roundHops, cX6_roundHops, 6, (some .int), 5, 115)
def MX6_leadOn : hz_M := (yX6_leadOn, cX6_leadOn, 1, (some .int), 0, 0)
def MX6_draw : hz_M := (yX6_draw, cX6_draw, 2, (some .int), 0, 0)
def MX6_tick : hz_M := (yX6_tick, cX6_tick, 5, (some .int), 1, 22)
def MX6_drawn : hz_M := (yX6_drawn, cX6_drawn, 7, (some .int), 2, 46)
def MX6_drawnHops : hz_M := (yX6_drawnHops, cX6_drawnHops, 9, (some .int), 2, 46)
def MX6_alikeFrom : hz_M := (yX6_alikeFrom, cX6_alikeFrom, 9, (some .int), 2, 46)
def MX6_mostUnlike : hz_M := (yX6_mostUnlike, cX6_mostUnlike, 10, (some .int), 2, 46)
def MX7_init : hz_M := (yX7_init, cX7_init, 2, none, 1, 20)
def MX7_isSheet : hz_M := (yX7_isSheet, cX7_isSheet, 1, (some .boolean), 0, 0)
def MX7_isKind : hz_M := (yX7_isKind, cX7_isKind, 1, (some .boolean), 0, 0)
def MX7_renew : hz_M := (yX7_renew, cX7_renew, 5, none, 1, 20)
def MX7_isNothing : hz_M := (yX7_isNothing, cX7_isNothing, 2, (some .boolean), 1, 20)
def MX7_isOfKind : hz_M := (yX7_isOfKind, cX7_isOfKind, 3, (some .boolean), 1, 20)
def MX7_size : hz_M := (yX7_size, cX7_size, 2, (some .int), 1, 20)
def MX7_hasCell : hz_M := (yX7_hasCell, cX7_hasCell, 3, (some .boolean), 1, 20)
def MX7_cell : hz_M := (yX7_cell, cX7_cell, 3, (some .int), 2, 42)
def MX7_put : hz_M := (yX7_put, cX7_put, 4, none, 2, 42)
def MX7_narrowed : hz_M := (yX7_narrowed, cX7_narrowed, 2, (some .int), 0, 0)
def MX8_init : hz_M := (yX8_init, cX8_init, 1, none, 1, 20)
def MX8_length : hz_M := (yX8_length, cX8_length, 1, (some .int), 0, 0)
def MX8_append : hz_M := (yX8_append, cX8_append, 4, (some .boolean), 0, 0)
def MX8_cut : hz_M := (yX8_cut, cX8_cut, 2, (some .boolean), 0, 0)
def MX8_byteAt : hz_M := (yX8_byteAt, cX8_byteAt, 2, (some .int), 0, 0)
def MX9_lowest : hz_M := (yX9_lowest, cX9_lowest, 7, (some .long), 1, 30)
def MX9_commonDivisor : hz_M := (yX9_commonDivisor, cX9_commonDivisor, 11, (some .long), 0, 0)
def MX9_determinant : hz_M := (yX9_determinant, cX9_determinant, 5, (some .long), 1, 30)
def MX9_clearBelow : hz_M := (yX9_clearBelow, cX9_clearBelow, 11, none, 0, 0)
def MX10_init : hz_M := (yX10_init, cX10_init, 2, none, 1, 20)
def MX10_forget : hz_M := (yX10_forget, cX10_forget, 1, none, 0, 0)
def MX10_worthOf : hz_M := (yX10_worthOf, cX10_worthOf, 2, (some .long), 3, 76)
def MX10_sum : hz_M := (yX10_sum, cX10_sum, 6, (some .long), 3, 76)
def MX10_at : hz_M := (yX10_at, cX10_at, 4, (some .long), 0, 0)
def MX10_find : hz_M := (yX10_find, cX10_find, 4, none, 2, 53)
def MX10_fromShorter : hz_M := (yX10_fromShorter, cX10_fromShorter, 9, (some .long), 1, 25)
def MX10_without : hz_M := (yX10_without, cX10_without, 2, (some .int), 0, 0)
def MX10_power : hz_M := (yX10_power, cX10_power, 6, (some .long), 0, 0)
def MX11_init : hz_M := (yX11_init, cX11_init, 1, none, 2, 41)
def MX11_feed : hz_M := (yX11_feed, cX11_feed, 3, (some .int), 1, 23)
def MX11_end : hz_M := (yX11_end, cX11_end, 3, (some .int), 1, 21)
def MX11_text : hz_M := (yX11_text, cX11_text, 2, (some .int), 6, 131)
def MX11_fault : hz_M := (yX11_fault, cX11_fault, 1, (some .int), 1, 20)
def MX11_told : hz_M := (yX11_told, cX11_told, 2, (some .int), 1, 22)
def MX11_rate : hz_M := (yX11_rate, cX11_rate, 3, (some .int), 3, 71)
def MX11_of : hz_M := (yX11_of, cX11_of, 3, (some .int), 5, 114)
def MX11_parts : hz_M := (yX11_parts, cX11_parts, 2, (some .int), 5, 114)
def MX11_rest : hz_M := (yX11_rest, cX11_rest, 4, (some .long), 6, 140)
def MX11_through : hz_M := (yX11_through, cX11_through, 4, (some .long), 6, 140)
def MX11_even : hz_M := (yX11_even, cX11_even, 3, (some .int), 6, 140)
def MX11_worth : hz_M := (yX11_worth, cX11_worth, 2, (some .long), 4, 97)
def MX11_all : hz_M := (yX11_all, cX11_all, 2, (some .long), 4, 101)
def MX11_flow : hz_M := (yX11_flow, cX11_flow, 5, (some .long), 4, 101)
def MX11_full : hz_M := (yX11_full, cX11_full, 3, (some .long), 5, 124)
def MX11_both : hz_M := (yX11_both, cX11_both, 4, (some .long), 5, 124)
def MX11_rule : hz_M := (yX11_rule, cX11_rule, 3, (some .int), 1, 22)
def MX11_shock : hz_M := (yX11_shock, cX11_shock, 5, (some .int), 2, 56)
def MX11_atOnce : hz_M := (yX11_atOnce, cX11_atOnce, 3, (some .int), 3, 69)
def MX11_round : hz_M := (yX11_round, cX11_round, 4, (some .int), 6, 140)
def MX11_run : hz_M := (yX11_run, cX11_run, 6, (some .int), 3, 74)
def MX11_coupled : hz_M := (yX11_coupled, cX11_coupled, 7, (some .int), 3, 75)
def MX11_cells : hz_M := (yX11_cells, cX11_cells, 3, (some .int), 2, 47)
def MX11_orders : hz_M := (yX11_orders, cX11_orders, 3, (some .long), 2, 48)
def MX11_ways : hz_M := (yX11_ways, cX11_ways, 4, (some .long), 3, 80)
def MX11_view : hz_M := (yX11_view, cX11_view, 5, (some .int), 3, 61)
def MX11_seen : hz_M := (yX11_seen, cX11_seen, 3, (some .int), 3, 73)
def MX11_word : hz_M := (yX11_word, cX11_word, 6, (some .int), 4, 98)
def MX11_sheet : hz_M := (yX11_sheet, cX11_sheet, 4, (some .int), 2, 44)
def MX11_lay : hz_M := (yX11_lay, cX11_lay, 4, (some .int), 3, 65)
def MX11_judge : hz_M := (yX11_judge, cX11_judge, 5, (some .int), 5, 114)
def MX11_count : hz_M := (yX11_count, cX11_count, 2, (some .int), 2, 41)
def MX11_within : hz_M := (yX11_within, cX11_within, 3, (some .boolean), 0, 0)
def MX11_isFractionPart : hz_M := (yX11_isFractionPart, cX11_isFractionPart, 1, (some .boolean), 0, 0)
def MX11_weigh : hz_M := (yX11_weigh, cX11_weigh, 4, (some .int), 5, 117)
def MX11_shareByWords : hz_M := (yX11_shareByWords, cX11_shareByWords, 4, (some .long), 4, 101)
def MX11_judgeCells : hz_M := (yX11_judgeCells, cX11_judgeCells, 8, (some .int), 3, 73)
def MX12_init : hz_M := (yX12_init, cX12_init, 1, none, 1, 20)
def MX12_in : hz_M := (yX12_in, cX12_in, 6, (some .boolean), 0, 0)
def MX12_places : hz_M := (yX12_places, cX12_places, 1, (some .int), 0, 0)
def MX12_isOpen : hz_M := (yX12_isOpen, cX12_isOpen, 1, (some .boolean), 0, 0)
def MX12_states : hz_M := (yX12_states, cX12_states, 1, (some .int), 0, 0)
def MX12_isState : hz_M := (yX12_isState, cX12_isState, 2, (some .boolean), 1, 25)
def MX12_feed : hz_M := (yX12_feed, cX12_feed, 4, (some .int), 0, 0)
def MX12_end : hz_M := (yX12_end, cX12_end, 3, (some .int), 1, 25)
def MX12_byteAt : hz_M := (yX12_byteAt, cX12_byteAt, 2, (some .int), 0, 0)
def MX12_fails : hz_M := (yX12_fails, cX12_fails, 2, none, 0, 0)
def MX12_nameAt : hz_M := (yX12_nameAt, cX12_nameAt, 6, (some .int), 1, 21)
def MX12_next : hz_M := (yX12_next, cX12_next, 2, none, 2, 46)
def MX12_number : hz_M := (yX12_number, cX12_number, 4, (some .int), 3, 67)
def MX12_oneLine : hz_M := (yX12_oneLine, cX12_oneLine, 3, none, 4, 90)
def MX12_text : hz_M := (yX12_text, cX12_text, 3, (some .int), 5, 112)
def MX12_fault : hz_M := (yX12_fault, cX12_fault, 1, (some .int), 0, 0)
def MX12_told : hz_M := (yX12_told, cX12_told, 2, (some .int), 1, 25)
def MX12_has : hz_M := (yX12_has, cX12_has, 3, (some .boolean), 0, 0)
def MX12_gone : hz_M := (yX12_gone, cX12_gone, 4, (some .int), 1, 22)
def MX12_rateOf : hz_M := (yX12_rateOf, cX12_rateOf, 8, (some .int), 2, 45)
def MX12_rate : hz_M := (yX12_rate, cX12_rate, 3, (some .int), 3, 72)
def MX12_layReaches : hz_M := (yX12_layReaches, cX12_layReaches, 4, none, 3, 72)
def MX12_partOf : hz_M := (yX12_partOf, cX12_partOf, 5, (some .long), 1, 20)
def MX12_isShut : hz_M := (yX12_isShut, cX12_isShut, 2, (some .boolean), 2, 44)
def MX12_sizeOf : hz_M := (yX12_sizeOf, cX12_sizeOf, 4, (some .int), 0, 0)
def MX12_leastOf : hz_M := (yX12_leastOf, cX12_leastOf, 3, (some .int), 0, 0)
def MX12_of : hz_M := (yX12_of, cX12_of, 7, (some .int), 4, 95)
def MX12_parts : hz_M := (yX12_parts, cX12_parts, 7, (some .int), 4, 95)
def MX12_layMembers : hz_M := (yX12_layMembers, cX12_layMembers, 5, none, 2, 44)
def MX12_weightOf : hz_M := (yX12_weightOf, cX12_weightOf, 8, (some .long), 3, 72)
def MX12_layRest : hz_M := (yX12_layRest, cX12_layRest, 3, (some .int), 4, 99)
def MX12_weightAll : hz_M := (yX12_weightAll, cX12_weightAll, 4, (some .long), 0, 0)
def MX12_lowest : hz_M := (yX12_lowest, cX12_lowest, 11, (some .long), 0, 0)
def MX12_rest : hz_M := (yX12_rest, cX12_rest, 7, (some .long), 5, 121)
def MX12_goesIn : hz_M := (yX12_goesIn, cX12_goesIn, 2, (some .int), 1, 22)
def MX12_through : hz_M := (yX12_through, cX12_through, 7, (some .long), 5, 121)
def MX12_even : hz_M := (yX12_even, cX12_even, 6, (some .int), 5, 121)
def MX12_haveWords : hz_M := (yX12_haveWords, cX12_haveWords, 1, (some .boolean), 1, 20)
def MX12_without : hz_M := (yX12_without, cX12_without, 2, (some .int), 0, 0)
def MX12_layWorths : hz_M := (yX12_layWorths, cX12_layWorths, 9, none, 1, 22)
def MX12_allOf : hz_M := (yX12_allOf, cX12_allOf, 5, (some .long), 0, 0)
def MX12_worth : hz_M := (yX12_worth, cX12_worth, 2, (some .long), 2, 50)
def MX12_all : hz_M := (yX12_all, cX12_all, 2, (some .long), 2, 50)
def MX12_flow : hz_M := (yX12_flow, cX12_flow, 2, (some .long), 2, 50)
def MX12_withAll : hz_M := (yX12_withAll, cX12_withAll, 5, (some .long), 1, 20)
def MX12_full : hz_M := (yX12_full, cX12_full, 3, (some .long), 2, 50)
def MX12_both : hz_M := (yX12_both, cX12_both, 4, (some .long), 2, 50)
def MX12_rule : hz_M := (yX12_rule, cX12_rule, 3, (some .int), 1, 25)
def MX12_shock : hz_M := (yX12_shock, cX12_shock, 4, (some .int), 1, 30)
def MX12_onceMore : hz_M := (yX12_onceMore, cX12_onceMore, 6, (some .int), 1, 22)
def MX12_atOnce : hz_M := (yX12_atOnce, cX12_atOnce, 5, (some .int), 2, 47)
def MX12_round : hz_M := (yX12_round, cX12_round, 9, (some .int), 2, 47)
def MX12_draw : hz_M := (yX12_draw, cX12_draw, 1, (some .int), 1, 20)
def MX12_hopAt : hz_M := (yX12_hopAt, cX12_hopAt, 3, (some .int), 2, 45)
def MX12_run : hz_M := (yX12_run, cX12_run, 9, (some .int), 3, 67)
def MX12_coupled : hz_M := (yX12_coupled, cX12_coupled, 13, (some .int), 3, 67)
def MX12_isRim : hz_M := (yX12_isRim, cX12_isRim, 1, (some .boolean), 1, 25)
def MX12_ordersOf : hz_M := (yX12_ordersOf, cX12_ordersOf, 6, (some .long), 2, 45)
def MX12_weightSum : hz_M := (yX12_weightSum, cX12_weightSum, 3, (some .int), 0, 0)
def MX12_cells : hz_M := (yX12_cells, cX12_cells, 3, (some .int), 3, 70)
def MX12_orders : hz_M := (yX12_orders, cX12_orders, 3, (some .long), 3, 70)
def MX12_stepped : hz_M := (yX12_stepped, cX12_stepped, 6, (some .int), 1, 25)
def MX12_ways : hz_M := (yX12_ways, cX12_ways, 10, (some .long), 2, 50)
def MX12_wordAll : hz_M := (yX12_wordAll, cX12_wordAll, 3, (some .int), 1, 20)
def MX12_viewOf : hz_M := (yX12_viewOf, cX12_viewOf, 7, (some .int), 1, 22)
def MX12_view : hz_M := (yX12_view, cX12_view, 3, (some .int), 2, 48)
def MX12_layKinds : hz_M := (yX12_layKinds, cX12_layKinds, 4, none, 1, 20)
def MX12_manyOf : hz_M := (yX12_manyOf, cX12_manyOf, 4, (some .int), 1, 20)
def MX12_seenOf : hz_M := (yX12_seenOf, cX12_seenOf, 6, (some .int), 2, 48)
def MX12_seen : hz_M := (yX12_seen, cX12_seen, 2, (some .int), 3, 73)
def MX12_change : hz_M := (yX12_change, cX12_change, 2, (some .boolean), 0, 0)
def MX12_behind : hz_M := (yX12_behind, cX12_behind, 2, (some .int), 1, 20)
def MX12_wordSeen : hz_M := (yX12_wordSeen, cX12_wordSeen, 9, (some .int), 3, 73)
def MX12_word : hz_M := (yX12_word, cX12_word, 5, (some .int), 4, 101)
def MX12_sheet : hz_M := (yX12_sheet, cX12_sheet, 5, (some .int), 1, 25)
def MX12_lay : hz_M := (yX12_lay, cX12_lay, 4, (some .int), 1, 25)
def MX12_judge : hz_M := (yX12_judge, cX12_judge, 12, (some .int), 4, 95)
def MX12_count : hz_M := (yX12_count, cX12_count, 2, (some .int), 1, 20)
def MJ6_numberOfTrailingZeros_0f7a4 : hz_M := (yJ6_numberOfTrailingZeros_0f7a4, cJ6_numberOfTrailingZeros_0f7a4, 2, (some .int), 0, 0)
def MJ6_bitCount_0f7a4 : hz_M := (yJ6_bitCount_0f7a4, cJ6_bitCount_0f7a4, 1, (some .int), 0, 0)
def MJ13_numberOfTrailingZeros_95d88 : hz_M := (yJ13_numberOfTrailingZeros_95d88, cJ13_numberOfTrailingZeros_95d88, 3, (some .int), 1, 21)
def MJ13_bitCount_95d88 : hz_M := (yJ13_bitCount_95d88, cJ13_bitCount_95d88, 2, (some .int), 0, 0)
def MJ9_abs_067f4 : hz_M := (yJ9_abs_067f4, cJ9_abs_067f4, 2, (some .long), 0, 0)
def MJ9_max_7cf53 : hz_M := (yJ9_max_7cf53, cJ9_max_7cf53, 2, (some .int), 0, 0)
def MJ9_min_7cf53 : hz_M := (yJ9_min_7cf53, cJ9_min_7cf53, 2, (some .int), 0, 0)
def ML_law : hz_M := (yL_law, cL_law, 4, (some .boolean), 7, 163)
end
section
theorem dX0_isWord_0 : decode cX0_isWord 0 = .ok (.iconst 1, 1) := by decide +kernel
theorem dX0_isWord_1 : decode cX0_isWord 1 = .ok (.istore_n 2, 1) := by decide +kernel
theorem dX0_isWord_2 : decode cX0_isWord 2 = .ok (.iconst 0, 1) := by decide +kernel
theorem dX0_isWord_3 : decode cX0_isWord 3 = .ok (.istore_n 3, 1) := by decide +kernel
theorem dX0_isWord_4 : decode cX0_isWord 4 = .ok (.iload_n 3, 1) := by decide +kernel
theorem dX0_isWord_5 : decode cX0_isWord 5 = .ok (.iload_n 1, 1) := by decide +kernel
theorem dX0_isWord_6 : decode cX0_isWord 6 = .ok (.if_icmp .ge 13, 3) := by decide +kernel
theorem dX0_isWord_9 : decode cX0_isWord 9 = .ok (.iload_n 2, 1) := by decide +kernel
theorem dX0_isWord_10 : decode cX0_isWord 10 = .ok (.iconst 3, 1) := by decide +kernel
theorem dX0_isWord_11 : decode cX0_isWord 11 = .ok (.imul, 1) := by decide +kernel
theorem dX0_isWord_12 : decode cX0_isWord 12 = .ok (.istore_n 2, 1) := by decide +kernel
theorem dX0_isWord_13 : decode cX0_isWord 13 = .ok (.iinc 3 1, 3) := by decide +kernel
theorem dX0_isWord_16 : decode cX0_isWord 16 = .ok (.goto (-12), 3) := by decide +kernel
theorem dX0_isWord_19 : decode cX0_isWord 19 = .ok (.iload_n 0, 1) := by decide +kernel
theorem dX0_isWord_20 : decode cX0_isWord 20 = .ok (.ifCond .lt 12, 3) := by decide +kernel
theorem dX0_isWord_23 : decode cX0_isWord 23 = .ok (.iload_n 0, 1) := by decide +kernel
theorem dX0_isWord_24 : decode cX0_isWord 24 = .ok (.iload_n 2, 1) := by decide +kernel
theorem dX0_isWord_25 : decode cX0_isWord 25 = .ok (.if_icmp .ge 7, 3) := by decide +kernel
theorem dX0_isWord_28 : decode cX0_isWord 28 = .ok (.iconst 1, 1) := by decide +kernel
theorem dX0_isWord_29 : decode cX0_isWord 29 = .ok (.goto 4, 3) := by decide +kernel
theorem dX0_isWord_32 : decode cX0_isWord 32 = .ok (.iconst 0, 1) := by decide +kernel
theorem dX0_isWord_33 : decode cX0_isWord 33 = .ok (.ireturn, 1) := by decide +kernel
theorem dX0_placesOf_0 : decode cX0_placesOf 0 = .ok (.iconst 0, 1) := by decide +kernel
theorem dX0_placesOf_1 : decode cX0_placesOf 1 = .ok (.istore_n 3, 1) := by decide +kernel
theorem dX0_placesOf_2 : decode cX0_placesOf 2 = .ok (.iload_n 0, 1) := by decide +kernel
theorem dX0_placesOf_3 : decode cX0_placesOf 3 = .ok (.istore 4, 2) := by decide +kernel
theorem dX0_placesOf_5 : decode cX0_placesOf 5 = .ok (.iconst 0, 1) := by decide +kernel
theorem dX0_placesOf_6 : decode cX0_placesOf 6 = .ok (.istore 5, 2) := by decide +kernel
theorem dX0_placesOf_8 : decode cX0_placesOf 8 = .ok (.iload 5, 2) := by decide +kernel
theorem dX0_placesOf_10 : decode cX0_placesOf 10 = .ok (.iload_n 2, 1) := by decide +kernel
theorem dX0_placesOf_11 : decode cX0_placesOf 11 = .ok (.if_icmp .ge 30, 3) := by decide +kernel
theorem dX0_placesOf_14 : decode cX0_placesOf 14 = .ok (.iload 4, 2) := by decide +kernel
theorem dX0_placesOf_16 : decode cX0_placesOf 16 = .ok (.iconst 3, 1) := by decide +kernel
theorem dX0_placesOf_17 : decode cX0_placesOf 17 = .ok (.irem, 1) := by decide +kernel
theorem dX0_placesOf_18 : decode cX0_placesOf 18 = .ok (.iload_n 1, 1) := by decide +kernel
theorem dX0_placesOf_19 : decode cX0_placesOf 19 = .ok (.if_icmp .ne 10, 3) := by decide +kernel
theorem dX0_placesOf_22 : decode cX0_placesOf 22 = .ok (.iload_n 3, 1) := by decide +kernel
theorem dX0_placesOf_23 : decode cX0_placesOf 23 = .ok (.iconst 1, 1) := by decide +kernel
theorem dX0_placesOf_24 : decode cX0_placesOf 24 = .ok (.iload 5, 2) := by decide +kernel
theorem dX0_placesOf_26 : decode cX0_placesOf 26 = .ok (.ishl, 1) := by decide +kernel
theorem dX0_placesOf_27 : decode cX0_placesOf 27 = .ok (.ior, 1) := by decide +kernel
theorem dX0_placesOf_28 : decode cX0_placesOf 28 = .ok (.istore_n 3, 1) := by decide +kernel
theorem dX0_placesOf_29 : decode cX0_placesOf 29 = .ok (.iload 4, 2) := by decide +kernel
theorem dX0_placesOf_31 : decode cX0_placesOf 31 = .ok (.iconst 3, 1) := by decide +kernel
theorem dX0_placesOf_32 : decode cX0_placesOf 32 = .ok (.idiv, 1) := by decide +kernel
theorem dX0_placesOf_33 : decode cX0_placesOf 33 = .ok (.istore 4, 2) := by decide +kernel
theorem dX0_placesOf_35 : decode cX0_placesOf 35 = .ok (.iinc 5 1, 3) := by decide +kernel
theorem dX0_placesOf_38 : decode cX0_placesOf 38 = .ok (.goto (-30), 3) := by decide +kernel
theorem dX0_placesOf_41 : decode cX0_placesOf 41 = .ok (.iload_n 3, 1) := by decide +kernel
theorem dX0_placesOf_42 : decode cX0_placesOf 42 = .ok (.ireturn, 1) := by decide +kernel
theorem dX0_wordOf_0 : decode cX0_wordOf 0 = .ok (.iconst 0, 1) := by decide +kernel
theorem dX0_wordOf_1 : decode cX0_wordOf 1 = .ok (.istore_n 3, 1) := by decide +kernel
theorem dX0_wordOf_2 : decode cX0_wordOf 2 = .ok (.iload_n 2, 1) := by decide +kernel
theorem dX0_wordOf_3 : decode cX0_wordOf 3 = .ok (.iconst 1, 1) := by decide +kernel
theorem dX0_wordOf_4 : decode cX0_wordOf 4 = .ok (.isub, 1) := by decide +kernel
theorem dX0_wordOf_5 : decode cX0_wordOf 5 = .ok (.istore 4, 2) := by decide +kernel
theorem dX0_wordOf_7 : decode cX0_wordOf 7 = .ok (.iload 4, 2) := by decide +kernel
theorem dX0_wordOf_9 : decode cX0_wordOf 9 = .ok (.ifCond .lt 21, 3) := by decide +kernel
theorem dX0_wordOf_12 : decode cX0_wordOf 12 = .ok (.iload_n 3, 1) := by decide +kernel
theorem dX0_wordOf_13 : decode cX0_wordOf 13 = .ok (.iconst 3, 1) := by decide +kernel
theorem dX0_wordOf_14 : decode cX0_wordOf 14 = .ok (.imul, 1) := by decide +kernel
theorem dX0_wordOf_15 : decode cX0_wordOf 15 = .ok (.iload_n 0, 1) := by decide +kernel
theorem dX0_wordOf_16 : decode cX0_wordOf 16 = .ok (.iload_n 1, 1) := by decide +kernel
theorem dX0_wordOf_17 : decode cX0_wordOf 17 = .ok (.iload 4, 2) := by decide +kernel
theorem dX0_wordOf_19 : decode cX0_wordOf 19 = .ok (.invokestatic 7, 3) := by decide +kernel
theorem dX0_wordOf_22 : decode cX0_wordOf 22 = .ok (.iadd, 1) := by decide +kernel
theorem dX0_wordOf_23 : decode cX0_wordOf 23 = .ok (.istore_n 3, 1) := by decide +kernel
theorem dX0_wordOf_24 : decode cX0_wordOf 24 = .ok (.iinc 4 (-1), 3) := by decide +kernel
theorem dX0_wordOf_27 : decode cX0_wordOf 27 = .ok (.goto (-20), 3) := by decide +kernel
theorem dX0_wordOf_30 : decode cX0_wordOf 30 = .ok (.iload_n 3, 1) := by decide +kernel
theorem dX0_wordOf_31 : decode cX0_wordOf 31 = .ok (.ireturn, 1) := by decide +kernel
theorem dX0_kindAt_0 : decode cX0_kindAt 0 = .ok (.iload_n 0, 1) := by decide +kernel
theorem dX0_kindAt_1 : decode cX0_kindAt 1 = .ok (.iload_n 2, 1) := by decide +kernel
theorem dX0_kindAt_2 : decode cX0_kindAt 2 = .ok (.ishr, 1) := by decide +kernel
theorem dX0_kindAt_3 : decode cX0_kindAt 3 = .ok (.iconst 1, 1) := by decide +kernel
theorem dX0_kindAt_4 : decode cX0_kindAt 4 = .ok (.iand, 1) := by decide +kernel
theorem dX0_kindAt_5 : decode cX0_kindAt 5 = .ok (.iconst 2, 1) := by decide +kernel
theorem dX0_kindAt_6 : decode cX0_kindAt 6 = .ok (.iload_n 1, 1) := by decide +kernel
theorem dX0_kindAt_7 : decode cX0_kindAt 7 = .ok (.iload_n 2, 1) := by decide +kernel
theorem dX0_kindAt_8 : decode cX0_kindAt 8 = .ok (.ishr, 1) := by decide +kernel
theorem dX0_kindAt_9 : decode cX0_kindAt 9 = .ok (.iconst 1, 1) := by decide +kernel
theorem dX0_kindAt_10 : decode cX0_kindAt 10 = .ok (.iand, 1) := by decide +kernel
theorem dX0_kindAt_11 : decode cX0_kindAt 11 = .ok (.imul, 1) := by decide +kernel
theorem dX0_kindAt_12 : decode cX0_kindAt 12 = .ok (.iadd, 1) := by decide +kernel
theorem dX0_kindAt_13 : decode cX0_kindAt 13 = .ok (.ireturn, 1) := by decide +kernel
theorem dX0_taken_0 : decode cX0_taken 0 = .ok (.iload_n 1, 1) := by decide +kernel
theorem dX0_taken_1 : decode cX0_taken 1 = .ok (.istore_n 3, 1) := by decide +kernel
theorem dX0_taken_2 : decode cX0_taken 2 = .ok (.iconst 0, 1) := by decide +kernel
theorem dX0_taken_3 : decode cX0_taken 3 = .ok (.istore 4, 2) := by decide +kernel
theorem dX0_taken_5 : decode cX0_taken 5 = .ok (.iload 4, 2) := by decide +kernel
theorem dX0_taken_7 : decode cX0_taken 7 = .ok (.iload_n 2, 1) := by decide +kernel
theorem dX0_taken_8 : decode cX0_taken 8 = .ok (.if_icmp .ge 31, 3) := by decide +kernel
theorem dX0_taken_11 : decode cX0_taken 11 = .ok (.iload_n 0, 1) := by decide +kernel
theorem dX0_taken_12 : decode cX0_taken 12 = .ok (.iload 4, 2) := by decide +kernel
theorem dX0_taken_14 : decode cX0_taken 14 = .ok (.ishr, 1) := by decide +kernel
theorem dX0_taken_15 : decode cX0_taken 15 = .ok (.iconst 1, 1) := by decide +kernel
theorem dX0_taken_16 : decode cX0_taken 16 = .ok (.iand, 1) := by decide +kernel
theorem dX0_taken_17 : decode cX0_taken 17 = .ok (.iconst 1, 1) := by decide +kernel
theorem dX0_taken_18 : decode cX0_taken 18 = .ok (.if_icmp .ne 15, 3) := by decide +kernel
theorem dX0_taken_21 : decode cX0_taken 21 = .ok (.iload_n 3, 1) := by decide +kernel
theorem dX0_taken_22 : decode cX0_taken 22 = .ok (.iload_n 3, 1) := by decide +kernel
theorem dX0_taken_23 : decode cX0_taken 23 = .ok (.iload 4, 2) := by decide +kernel
theorem dX0_taken_25 : decode cX0_taken 25 = .ok (.iload_n 2, 1) := by decide +kernel
theorem dX0_taken_26 : decode cX0_taken 26 = .ok (.invokestatic 13, 3) := by decide +kernel
theorem dX0_taken_29 : decode cX0_taken 29 = .ok (.iconst (-1), 1) := by decide +kernel
theorem dX0_taken_30 : decode cX0_taken 30 = .ok (.ixor, 1) := by decide +kernel
theorem dX0_taken_31 : decode cX0_taken 31 = .ok (.iand, 1) := by decide +kernel
theorem dX0_taken_32 : decode cX0_taken 32 = .ok (.istore_n 3, 1) := by decide +kernel
theorem dX0_taken_33 : decode cX0_taken 33 = .ok (.iinc 4 1, 3) := by decide +kernel
theorem dX0_taken_36 : decode cX0_taken 36 = .ok (.goto (-31), 3) := by decide +kernel
theorem dX0_taken_39 : decode cX0_taken 39 = .ok (.iload_n 1, 1) := by decide +kernel
theorem dX0_taken_40 : decode cX0_taken 40 = .ok (.iload_n 3, 1) := by decide +kernel
theorem dX0_taken_41 : decode cX0_taken 41 = .ok (.iconst (-1), 1) := by decide +kernel
theorem dX0_taken_42 : decode cX0_taken 42 = .ok (.ixor, 1) := by decide +kernel
theorem dX0_taken_43 : decode cX0_taken 43 = .ok (.iand, 1) := by decide +kernel
theorem dX0_taken_44 : decode cX0_taken 44 = .ok (.ireturn, 1) := by decide +kernel
theorem dX0_firstToTheLeft_0 : decode cX0_firstToTheLeft 0 = .ok (.iload_n 1, 1) := by decide +kernel
theorem dX0_firstToTheLeft_1 : decode cX0_firstToTheLeft 1 = .ok (.istore_n 3, 1) := by decide +kernel
theorem dX0_firstToTheLeft_2 : decode cX0_firstToTheLeft 2 = .ok (.iconst 0, 1) := by decide +kernel
theorem dX0_firstToTheLeft_3 : decode cX0_firstToTheLeft 3 = .ok (.istore 4, 2) := by decide +kernel
theorem dX0_firstToTheLeft_5 : decode cX0_firstToTheLeft 5 = .ok (.iload 4, 2) := by decide +kernel
theorem dX0_firstToTheLeft_7 : decode cX0_firstToTheLeft 7 = .ok (.iload_n 2, 1) := by decide +kernel
theorem dX0_firstToTheLeft_8 : decode cX0_firstToTheLeft 8 = .ok (.if_icmp .ge 36, 3) := by decide +kernel
theorem dX0_firstToTheLeft_11 : decode cX0_firstToTheLeft 11 = .ok (.iload_n 0, 1) := by decide +kernel
theorem dX0_firstToTheLeft_12 : decode cX0_firstToTheLeft 12 = .ok (.iload_n 3, 1) := by decide +kernel
theorem dX0_firstToTheLeft_13 : decode cX0_firstToTheLeft 13 = .ok (.ishr, 1) := by decide +kernel
theorem dX0_firstToTheLeft_14 : decode cX0_firstToTheLeft 14 = .ok (.iconst 1, 1) := by decide +kernel
theorem dX0_firstToTheLeft_15 : decode cX0_firstToTheLeft 15 = .ok (.iand, 1) := by decide +kernel
theorem dX0_firstToTheLeft_16 : decode cX0_firstToTheLeft 16 = .ok (.iconst 1, 1) := by decide +kernel
theorem dX0_firstToTheLeft_17 : decode cX0_firstToTheLeft 17 = .ok (.if_icmp .ne 7, 3) := by decide +kernel
theorem dX0_firstToTheLeft_20 : decode cX0_firstToTheLeft 20 = .ok (.iconst 1, 1) := by decide +kernel
theorem dX0_firstToTheLeft_21 : decode cX0_firstToTheLeft 21 = .ok (.iload_n 3, 1) := by decide +kernel
theorem dX0_firstToTheLeft_22 : decode cX0_firstToTheLeft 22 = .ok (.ishl, 1) := by decide +kernel
theorem dX0_firstToTheLeft_23 : decode cX0_firstToTheLeft 23 = .ok (.ireturn, 1) := by decide +kernel
theorem dX0_firstToTheLeft_24 : decode cX0_firstToTheLeft 24 = .ok (.iload_n 3, 1) := by decide +kernel
theorem dX0_firstToTheLeft_25 : decode cX0_firstToTheLeft 25 = .ok (.ifCond .ne 9, 3) := by decide +kernel
theorem dX0_firstToTheLeft_28 : decode cX0_firstToTheLeft 28 = .ok (.iload_n 2, 1) := by decide +kernel
theorem dX0_firstToTheLeft_29 : decode cX0_firstToTheLeft 29 = .ok (.iconst 1, 1) := by decide +kernel
theorem dX0_firstToTheLeft_30 : decode cX0_firstToTheLeft 30 = .ok (.isub, 1) := by decide +kernel
theorem dX0_firstToTheLeft_31 : decode cX0_firstToTheLeft 31 = .ok (.goto 6, 3) := by decide +kernel
theorem dX0_firstToTheLeft_34 : decode cX0_firstToTheLeft 34 = .ok (.iload_n 3, 1) := by decide +kernel
theorem dX0_firstToTheLeft_35 : decode cX0_firstToTheLeft 35 = .ok (.iconst 1, 1) := by decide +kernel
theorem dX0_firstToTheLeft_36 : decode cX0_firstToTheLeft 36 = .ok (.isub, 1) := by decide +kernel
theorem dX0_firstToTheLeft_37 : decode cX0_firstToTheLeft 37 = .ok (.istore_n 3, 1) := by decide +kernel
theorem dX0_firstToTheLeft_38 : decode cX0_firstToTheLeft 38 = .ok (.iinc 4 1, 3) := by decide +kernel
theorem dX0_firstToTheLeft_41 : decode cX0_firstToTheLeft 41 = .ok (.goto (-36), 3) := by decide +kernel
theorem dX0_firstToTheLeft_44 : decode cX0_firstToTheLeft 44 = .ok (.iconst 0, 1) := by decide +kernel
theorem dX0_firstToTheLeft_45 : decode cX0_firstToTheLeft 45 = .ok (.ireturn, 1) := by decide +kernel
theorem dX0_seenAs_0 : decode cX0_seenAs 0 = .ok (.iconst 0, 1) := by decide +kernel
theorem dX0_seenAs_1 : decode cX0_seenAs 1 = .ok (.istore_n 3, 1) := by decide +kernel
theorem dX0_seenAs_2 : decode cX0_seenAs 2 = .ok (.iload_n 0, 1) := by decide +kernel
theorem dX0_seenAs_3 : decode cX0_seenAs 3 = .ok (.invokestatic 16, 3) := by decide +kernel
theorem dX0_seenAs_6 : decode cX0_seenAs 6 = .ok (.istore 4, 2) := by decide +kernel
theorem dX0_seenAs_8 : decode cX0_seenAs 8 = .ok (.iconst 0, 1) := by decide +kernel
theorem dX0_seenAs_9 : decode cX0_seenAs 9 = .ok (.istore 5, 2) := by decide +kernel
theorem dX0_seenAs_11 : decode cX0_seenAs 11 = .ok (.iload 5, 2) := by decide +kernel
theorem dX0_seenAs_13 : decode cX0_seenAs 13 = .ok (.iconst 1, 1) := by decide +kernel
theorem dX0_seenAs_14 : decode cX0_seenAs 14 = .ok (.iload_n 2, 1) := by decide +kernel
theorem dX0_seenAs_15 : decode cX0_seenAs 15 = .ok (.ishl, 1) := by decide +kernel
theorem dX0_seenAs_16 : decode cX0_seenAs 16 = .ok (.if_icmp .ge 35, 3) := by decide +kernel
theorem dX0_seenAs_19 : decode cX0_seenAs 19 = .ok (.iload 5, 2) := by decide +kernel
theorem dX0_seenAs_21 : decode cX0_seenAs 21 = .ok (.invokestatic 16, 3) := by decide +kernel
theorem dX0_seenAs_24 : decode cX0_seenAs 24 = .ok (.iload 4, 2) := by decide +kernel
theorem dX0_seenAs_26 : decode cX0_seenAs 26 = .ok (.if_icmp .ne 19, 3) := by decide +kernel
theorem dX0_seenAs_29 : decode cX0_seenAs 29 = .ok (.iload 5, 2) := by decide +kernel
theorem dX0_seenAs_31 : decode cX0_seenAs 31 = .ok (.iload_n 0, 1) := by decide +kernel
theorem dX0_seenAs_32 : decode cX0_seenAs 32 = .ok (.iload_n 1, 1) := by decide +kernel
theorem dX0_seenAs_33 : decode cX0_seenAs 33 = .ok (.ior, 1) := by decide +kernel
theorem dX0_seenAs_34 : decode cX0_seenAs 34 = .ok (.iload_n 2, 1) := by decide +kernel
theorem dX0_seenAs_35 : decode cX0_seenAs 35 = .ok (.invokestatic 22, 3) := by decide +kernel
theorem dX0_seenAs_38 : decode cX0_seenAs 38 = .ok (.iload_n 0, 1) := by decide +kernel
theorem dX0_seenAs_39 : decode cX0_seenAs 39 = .ok (.if_icmp .ne 6, 3) := by decide +kernel
theorem dX0_seenAs_42 : decode cX0_seenAs 42 = .ok (.iinc 3 1, 3) := by decide +kernel
theorem dX0_seenAs_45 : decode cX0_seenAs 45 = .ok (.iinc 5 1, 3) := by decide +kernel
theorem dX0_seenAs_48 : decode cX0_seenAs 48 = .ok (.goto (-37), 3) := by decide +kernel
theorem dX0_seenAs_51 : decode cX0_seenAs 51 = .ok (.iload_n 3, 1) := by decide +kernel
theorem dX0_seenAs_52 : decode cX0_seenAs 52 = .ok (.ireturn, 1) := by decide +kernel
theorem dX0_hops_0 : decode cX0_hops 0 = .ok (.iload_n 0, 1) := by decide +kernel
theorem dX0_hops_1 : decode cX0_hops 1 = .ok (.iconst 1, 1) := by decide +kernel
theorem dX0_hops_2 : decode cX0_hops 2 = .ok (.if_icmp .ne 8, 3) := by decide +kernel
theorem dX0_hops_5 : decode cX0_hops 5 = .ok (.iload_n 1, 1) := by decide +kernel
theorem dX0_hops_6 : decode cX0_hops 6 = .ok (.iconst 1, 1) := by decide +kernel
theorem dX0_hops_7 : decode cX0_hops 7 = .ok (.if_icmp .ne 12, 3) := by decide +kernel
theorem dX0_hops_10 : decode cX0_hops 10 = .ok (.iload_n 0, 1) := by decide +kernel
theorem dX0_hops_11 : decode cX0_hops 11 = .ok (.iconst 2, 1) := by decide +kernel
theorem dX0_hops_12 : decode cX0_hops 12 = .ok (.if_icmp .ne 11, 3) := by decide +kernel
theorem dX0_hops_15 : decode cX0_hops 15 = .ok (.iload_n 1, 1) := by decide +kernel
theorem dX0_hops_16 : decode cX0_hops 16 = .ok (.ifCond .ne 7, 3) := by decide +kernel
theorem dX0_hops_19 : decode cX0_hops 19 = .ok (.iconst 1, 1) := by decide +kernel
theorem dX0_hops_20 : decode cX0_hops 20 = .ok (.goto 4, 3) := by decide +kernel
theorem dX0_hops_23 : decode cX0_hops 23 = .ok (.iconst 0, 1) := by decide +kernel
theorem dX0_hops_24 : decode cX0_hops 24 = .ok (.ireturn, 1) := by decide +kernel
theorem dX0_nextPlace_0 : decode cX0_nextPlace 0 = .ok (.iload_n 0, 1) := by decide +kernel
theorem dX0_nextPlace_1 : decode cX0_nextPlace 1 = .ok (.iconst 1, 1) := by decide +kernel
theorem dX0_nextPlace_2 : decode cX0_nextPlace 2 = .ok (.iadd, 1) := by decide +kernel
theorem dX0_nextPlace_3 : decode cX0_nextPlace 3 = .ok (.iload_n 1, 1) := by decide +kernel
theorem dX0_nextPlace_4 : decode cX0_nextPlace 4 = .ok (.if_icmp .ne 7, 3) := by decide +kernel
theorem dX0_nextPlace_7 : decode cX0_nextPlace 7 = .ok (.iconst 0, 1) := by decide +kernel
theorem dX0_nextPlace_8 : decode cX0_nextPlace 8 = .ok (.goto 6, 3) := by decide +kernel
theorem dX0_nextPlace_11 : decode cX0_nextPlace 11 = .ok (.iload_n 0, 1) := by decide +kernel
theorem dX0_nextPlace_12 : decode cX0_nextPlace 12 = .ok (.iconst 1, 1) := by decide +kernel
theorem dX0_nextPlace_13 : decode cX0_nextPlace 13 = .ok (.iadd, 1) := by decide +kernel
theorem dX0_nextPlace_14 : decode cX0_nextPlace 14 = .ok (.ireturn, 1) := by decide +kernel
theorem dX0_hopsOut_0 : decode cX0_hopsOut 0 = .ok (.iconst 0, 1) := by decide +kernel
theorem dX0_hopsOut_1 : decode cX0_hopsOut 1 = .ok (.istore_n 3, 1) := by decide +kernel
theorem dX0_hopsOut_2 : decode cX0_hopsOut 2 = .ok (.iconst 0, 1) := by decide +kernel
theorem dX0_hopsOut_3 : decode cX0_hopsOut 3 = .ok (.istore 4, 2) := by decide +kernel
theorem dX0_hopsOut_5 : decode cX0_hopsOut 5 = .ok (.iload 4, 2) := by decide +kernel
theorem dX0_hopsOut_7 : decode cX0_hopsOut 7 = .ok (.iload_n 2, 1) := by decide +kernel
theorem dX0_hopsOut_8 : decode cX0_hopsOut 8 = .ok (.if_icmp .ge 36, 3) := by decide +kernel
theorem dX0_hopsOut_11 : decode cX0_hopsOut 11 = .ok (.iload_n 0, 1) := by decide +kernel
theorem dX0_hopsOut_12 : decode cX0_hopsOut 12 = .ok (.iload_n 1, 1) := by decide +kernel
theorem dX0_hopsOut_13 : decode cX0_hopsOut 13 = .ok (.iload 4, 2) := by decide +kernel
theorem dX0_hopsOut_15 : decode cX0_hopsOut 15 = .ok (.invokestatic 7, 3) := by decide +kernel
theorem dX0_hopsOut_18 : decode cX0_hopsOut 18 = .ok (.iload_n 0, 1) := by decide +kernel
theorem dX0_hopsOut_19 : decode cX0_hopsOut 19 = .ok (.iload_n 1, 1) := by decide +kernel
theorem dX0_hopsOut_20 : decode cX0_hopsOut 20 = .ok (.iload 4, 2) := by decide +kernel
theorem dX0_hopsOut_22 : decode cX0_hopsOut 22 = .ok (.iload_n 2, 1) := by decide +kernel
theorem dX0_hopsOut_23 : decode cX0_hopsOut 23 = .ok (.invokestatic 25, 3) := by decide +kernel
theorem dX0_hopsOut_26 : decode cX0_hopsOut 26 = .ok (.invokestatic 7, 3) := by decide +kernel
theorem dX0_hopsOut_29 : decode cX0_hopsOut 29 = .ok (.invokestatic 29, 3) := by decide +kernel
theorem dX0_hopsOut_32 : decode cX0_hopsOut 32 = .ok (.ifCond .eq 6, 3) := by decide +kernel
theorem dX0_hopsOut_35 : decode cX0_hopsOut 35 = .ok (.iinc 3 1, 3) := by decide +kernel
theorem dX0_hopsOut_38 : decode cX0_hopsOut 38 = .ok (.iinc 4 1, 3) := by decide +kernel
theorem dX0_hopsOut_41 : decode cX0_hopsOut 41 = .ok (.goto (-36), 3) := by decide +kernel
theorem dX0_hopsOut_44 : decode cX0_hopsOut 44 = .ok (.iload_n 3, 1) := by decide +kernel
theorem dX0_hopsOut_45 : decode cX0_hopsOut 45 = .ok (.ireturn, 1) := by decide +kernel
theorem dX0_seenBefore_0 : decode cX0_seenBefore 0 = .ok (.iconst 0, 1) := by decide +kernel
theorem dX0_seenBefore_1 : decode cX0_seenBefore 1 = .ok (.istore_n 3, 1) := by decide +kernel
theorem dX0_seenBefore_2 : decode cX0_seenBefore 2 = .ok (.iconst 0, 1) := by decide +kernel
theorem dX0_seenBefore_3 : decode cX0_seenBefore 3 = .ok (.istore 4, 2) := by decide +kernel
theorem dX0_seenBefore_5 : decode cX0_seenBefore 5 = .ok (.iload 4, 2) := by decide +kernel
theorem dX0_seenBefore_7 : decode cX0_seenBefore 7 = .ok (.iload_n 2, 1) := by decide +kernel
theorem dX0_seenBefore_8 : decode cX0_seenBefore 8 = .ok (.if_icmp .ge 60, 3) := by decide +kernel
theorem dX0_seenBefore_11 : decode cX0_seenBefore 11 = .ok (.iload 4, 2) := by decide +kernel
theorem dX0_seenBefore_13 : decode cX0_seenBefore 13 = .ok (.iload_n 2, 1) := by decide +kernel
theorem dX0_seenBefore_14 : decode cX0_seenBefore 14 = .ok (.invokestatic 25, 3) := by decide +kernel
theorem dX0_seenBefore_17 : decode cX0_seenBefore 17 = .ok (.istore 5, 2) := by decide +kernel
theorem dX0_seenBefore_19 : decode cX0_seenBefore 19 = .ok (.iload_n 0, 1) := by decide +kernel
theorem dX0_seenBefore_20 : decode cX0_seenBefore 20 = .ok (.iload_n 1, 1) := by decide +kernel
theorem dX0_seenBefore_21 : decode cX0_seenBefore 21 = .ok (.iload 5, 2) := by decide +kernel
theorem dX0_seenBefore_23 : decode cX0_seenBefore 23 = .ok (.invokestatic 7, 3) := by decide +kernel
theorem dX0_seenBefore_26 : decode cX0_seenBefore 26 = .ok (.iload_n 0, 1) := by decide +kernel
theorem dX0_seenBefore_27 : decode cX0_seenBefore 27 = .ok (.iload_n 1, 1) := by decide +kernel
theorem dX0_seenBefore_28 : decode cX0_seenBefore 28 = .ok (.iload 4, 2) := by decide +kernel
theorem dX0_seenBefore_30 : decode cX0_seenBefore 30 = .ok (.invokestatic 7, 3) := by decide +kernel
theorem dX0_seenBefore_33 : decode cX0_seenBefore 33 = .ok (.invokestatic 29, 3) := by decide +kernel
theorem dX0_seenBefore_36 : decode cX0_seenBefore 36 = .ok (.ifCond .eq 26, 3) := by decide +kernel
theorem dX0_seenBefore_39 : decode cX0_seenBefore 39 = .ok (.iload_n 3, 1) := by decide +kernel
theorem dX0_seenBefore_40 : decode cX0_seenBefore 40 = .ok (.iload_n 0, 1) := by decide +kernel
theorem dX0_seenBefore_41 : decode cX0_seenBefore 41 = .ok (.iload 4, 2) := by decide +kernel
theorem dX0_seenBefore_43 : decode cX0_seenBefore 43 = .ok (.iload 5, 2) := by decide +kernel
theorem dX0_seenBefore_45 : decode cX0_seenBefore 45 = .ok (.invokestatic 33, 3) := by decide +kernel
theorem dX0_seenBefore_48 : decode cX0_seenBefore 48 = .ok (.iload_n 1, 1) := by decide +kernel
theorem dX0_seenBefore_49 : decode cX0_seenBefore 49 = .ok (.iload 4, 2) := by decide +kernel
theorem dX0_seenBefore_51 : decode cX0_seenBefore 51 = .ok (.iload 5, 2) := by decide +kernel
theorem dX0_seenBefore_53 : decode cX0_seenBefore 53 = .ok (.invokestatic 33, 3) := by decide +kernel
theorem dX0_seenBefore_56 : decode cX0_seenBefore 56 = .ok (.iload_n 2, 1) := by decide +kernel
theorem dX0_seenBefore_57 : decode cX0_seenBefore 57 = .ok (.invokestatic 36, 3) := by decide +kernel
theorem dX0_seenBefore_60 : decode cX0_seenBefore 60 = .ok (.iadd, 1) := by decide +kernel
theorem dX0_seenBefore_61 : decode cX0_seenBefore 61 = .ok (.istore_n 3, 1) := by decide +kernel
theorem dX0_seenBefore_62 : decode cX0_seenBefore 62 = .ok (.iinc 4 1, 3) := by decide +kernel
theorem dX0_seenBefore_65 : decode cX0_seenBefore 65 = .ok (.goto (-60), 3) := by decide +kernel
theorem dX0_seenBefore_68 : decode cX0_seenBefore 68 = .ok (.iload_n 3, 1) := by decide +kernel
theorem dX0_seenBefore_69 : decode cX0_seenBefore 69 = .ok (.ireturn, 1) := by decide +kernel
theorem dX0_changed_0 : decode cX0_changed 0 = .ok (.iload_n 0, 1) := by decide +kernel
theorem dX0_changed_1 : decode cX0_changed 1 = .ok (.iload_n 1, 1) := by decide +kernel
theorem dX0_changed_2 : decode cX0_changed 2 = .ok (.ishr, 1) := by decide +kernel
theorem dX0_changed_3 : decode cX0_changed 3 = .ok (.iconst 1, 1) := by decide +kernel
theorem dX0_changed_4 : decode cX0_changed 4 = .ok (.iand, 1) := by decide +kernel
theorem dX0_changed_5 : decode cX0_changed 5 = .ok (.iload_n 0, 1) := by decide +kernel
theorem dX0_changed_6 : decode cX0_changed 6 = .ok (.iload_n 2, 1) := by decide +kernel
theorem dX0_changed_7 : decode cX0_changed 7 = .ok (.ishr, 1) := by decide +kernel
theorem dX0_changed_8 : decode cX0_changed 8 = .ok (.iconst 1, 1) := by decide +kernel
theorem dX0_changed_9 : decode cX0_changed 9 = .ok (.iand, 1) := by decide +kernel
theorem dX0_changed_10 : decode cX0_changed 10 = .ok (.if_icmp .ne 7, 3) := by decide +kernel
theorem dX0_changed_13 : decode cX0_changed 13 = .ok (.iconst 1, 1) := by decide +kernel
theorem dX0_changed_14 : decode cX0_changed 14 = .ok (.goto 4, 3) := by decide +kernel
theorem dX0_changed_17 : decode cX0_changed 17 = .ok (.iconst 0, 1) := by decide +kernel
theorem dX0_changed_18 : decode cX0_changed 18 = .ok (.istore_n 3, 1) := by decide +kernel
theorem dX0_changed_19 : decode cX0_changed 19 = .ok (.iload_n 3, 1) := by decide +kernel
theorem dX0_changed_20 : decode cX0_changed 20 = .ok (.ifCond .eq 7, 3) := by decide +kernel
theorem dX0_changed_23 : decode cX0_changed 23 = .ok (.iload_n 0, 1) := by decide +kernel
theorem dX0_changed_24 : decode cX0_changed 24 = .ok (.goto 12, 3) := by decide +kernel
theorem dX0_changed_27 : decode cX0_changed 27 = .ok (.iload_n 0, 1) := by decide +kernel
theorem dX0_changed_28 : decode cX0_changed 28 = .ok (.iconst 1, 1) := by decide +kernel
theorem dX0_changed_29 : decode cX0_changed 29 = .ok (.iload_n 1, 1) := by decide +kernel
theorem dX0_changed_30 : decode cX0_changed 30 = .ok (.ishl, 1) := by decide +kernel
theorem dX0_changed_31 : decode cX0_changed 31 = .ok (.iconst 1, 1) := by decide +kernel
theorem dX0_changed_32 : decode cX0_changed 32 = .ok (.iload_n 2, 1) := by decide +kernel
theorem dX0_changed_33 : decode cX0_changed 33 = .ok (.ishl, 1) := by decide +kernel
theorem dX0_changed_34 : decode cX0_changed 34 = .ok (.ior, 1) := by decide +kernel
theorem dX0_changed_35 : decode cX0_changed 35 = .ok (.ixor, 1) := by decide +kernel
theorem dX0_changed_36 : decode cX0_changed 36 = .ok (.ireturn, 1) := by decide +kernel
theorem dX1_init_0 : decode cX1_init 0 = .ok (.aload_n 0, 1) := by decide +kernel
theorem dX1_init_1 : decode cX1_init 1 = .ok (.invokespecial 1, 3) := by decide +kernel
theorem dX1_init_4 : decode cX1_init 4 = .ok (.aload_n 0, 1) := by decide +kernel
theorem dX1_init_5 : decode cX1_init 5 = .ok (.bipush 8, 2) := by decide +kernel
theorem dX1_init_7 : decode cX1_init 7 = .ok (.newarray .int, 2) := by decide +kernel
theorem dX1_init_9 : decode cX1_init 9 = .ok (.putfield 9, 3) := by decide +kernel
theorem dX1_init_12 : decode cX1_init 12 = .ok (.iconst 0, 1) := by decide +kernel
theorem dX1_init_13 : decode cX1_init 13 = .ok (.istore_n 1, 1) := by decide +kernel
theorem dX1_init_14 : decode cX1_init 14 = .ok (.iload_n 1, 1) := by decide +kernel
theorem dX1_init_15 : decode cX1_init 15 = .ok (.bipush 8, 2) := by decide +kernel
theorem dX1_init_17 : decode cX1_init 17 = .ok (.if_icmp .ge 19, 3) := by decide +kernel
theorem dX1_init_20 : decode cX1_init 20 = .ok (.aload_n 0, 1) := by decide +kernel
theorem dX1_init_21 : decode cX1_init 21 = .ok (.getfield 9, 3) := by decide +kernel
theorem dX1_init_24 : decode cX1_init 24 = .ok (.iload_n 1, 1) := by decide +kernel
theorem dX1_init_25 : decode cX1_init 25 = .ok (.iload_n 1, 1) := by decide +kernel
theorem dX1_init_26 : decode cX1_init 26 = .ok (.invokestatic 13, 3) := by decide +kernel
theorem dX1_init_29 : decode cX1_init 29 = .ok (.iastore, 1) := by decide +kernel
theorem dX1_init_30 : decode cX1_init 30 = .ok (.iinc 1 1, 3) := by decide +kernel
theorem dX1_init_33 : decode cX1_init 33 = .ok (.goto (-19), 3) := by decide +kernel
theorem dX1_init_36 : decode cX1_init 36 = .ok (.return_, 1) := by decide +kernel
theorem dX1_atFirst_0 : decode cX1_atFirst 0 = .ok (.iload_n 0, 1) := by decide +kernel
theorem dX1_atFirst_1 : decode cX1_atFirst 1 = .ok (.tableswitch 51 0 6 #[43, 51, 45, 51, 47, 51, 49], 43) := by decide +kernel
theorem dX1_atFirst_44 : decode cX1_atFirst 44 = .ok (.iconst 4, 1) := by decide +kernel
theorem dX1_atFirst_45 : decode cX1_atFirst 45 = .ok (.ireturn, 1) := by decide +kernel
theorem dX1_atFirst_46 : decode cX1_atFirst 46 = .ok (.iconst 1, 1) := by decide +kernel
theorem dX1_atFirst_47 : decode cX1_atFirst 47 = .ok (.ireturn, 1) := by decide +kernel
theorem dX1_atFirst_48 : decode cX1_atFirst 48 = .ok (.iconst 1, 1) := by decide +kernel
theorem dX1_atFirst_49 : decode cX1_atFirst 49 = .ok (.ireturn, 1) := by decide +kernel
theorem dX1_atFirst_50 : decode cX1_atFirst 50 = .ok (.iconst 1, 1) := by decide +kernel
theorem dX1_atFirst_51 : decode cX1_atFirst 51 = .ok (.ireturn, 1) := by decide +kernel
theorem dX1_atFirst_52 : decode cX1_atFirst 52 = .ok (.iconst 0, 1) := by decide +kernel
theorem dX1_atFirst_53 : decode cX1_atFirst 53 = .ok (.ireturn, 1) := by decide +kernel
theorem dX1_value_0 : decode cX1_value 0 = .ok (.iload_n 1, 1) := by decide +kernel
theorem dX1_value_1 : decode cX1_value 1 = .ok (.ifCond .lt 21, 3) := by decide +kernel
theorem dX1_value_4 : decode cX1_value 4 = .ok (.iload_n 1, 1) := by decide +kernel
theorem dX1_value_5 : decode cX1_value 5 = .ok (.aload_n 0, 1) := by decide +kernel
theorem dX1_value_6 : decode cX1_value 6 = .ok (.getfield 9, 3) := by decide +kernel
theorem dX1_value_9 : decode cX1_value 9 = .ok (.arraylength, 1) := by decide +kernel
theorem dX1_value_10 : decode cX1_value 10 = .ok (.if_icmp .ge 12, 3) := by decide +kernel
theorem dX1_value_13 : decode cX1_value 13 = .ok (.aload_n 0, 1) := by decide +kernel
theorem dX1_value_14 : decode cX1_value 14 = .ok (.getfield 9, 3) := by decide +kernel
theorem dX1_value_17 : decode cX1_value 17 = .ok (.iload_n 1, 1) := by decide +kernel
theorem dX1_value_18 : decode cX1_value 18 = .ok (.iaload, 1) := by decide +kernel
theorem dX1_value_19 : decode cX1_value 19 = .ok (.goto 4, 3) := by decide +kernel
theorem dX1_value_22 : decode cX1_value 22 = .ok (.iconst 0, 1) := by decide +kernel
theorem dX1_value_23 : decode cX1_value 23 = .ok (.ireturn, 1) := by decide +kernel
theorem dX1_tellValue_0 : decode cX1_tellValue 0 = .ok (.iload_n 1, 1) := by decide +kernel
theorem dX1_tellValue_1 : decode cX1_tellValue 1 = .ok (.ifCond .lt 19, 3) := by decide +kernel
theorem dX1_tellValue_4 : decode cX1_tellValue 4 = .ok (.iload_n 1, 1) := by decide +kernel
theorem dX1_tellValue_5 : decode cX1_tellValue 5 = .ok (.aload_n 0, 1) := by decide +kernel
theorem dX1_tellValue_6 : decode cX1_tellValue 6 = .ok (.getfield 9, 3) := by decide +kernel
theorem dX1_tellValue_9 : decode cX1_tellValue 9 = .ok (.arraylength, 1) := by decide +kernel
theorem dX1_tellValue_10 : decode cX1_tellValue 10 = .ok (.if_icmp .ge 10, 3) := by decide +kernel
theorem dX1_tellValue_13 : decode cX1_tellValue 13 = .ok (.aload_n 0, 1) := by decide +kernel
theorem dX1_tellValue_14 : decode cX1_tellValue 14 = .ok (.getfield 9, 3) := by decide +kernel
theorem dX1_tellValue_17 : decode cX1_tellValue 17 = .ok (.iload_n 1, 1) := by decide +kernel
theorem dX1_tellValue_18 : decode cX1_tellValue 18 = .ok (.iload_n 2, 1) := by decide +kernel
theorem dX1_tellValue_19 : decode cX1_tellValue 19 = .ok (.iastore, 1) := by decide +kernel
theorem dX1_tellValue_20 : decode cX1_tellValue 20 = .ok (.return_, 1) := by decide +kernel
theorem dX1_places_0 : decode cX1_places 0 = .ok (.aload_n 0, 1) := by decide +kernel
theorem dX1_places_1 : decode cX1_places 1 = .ok (.getfield 9, 3) := by decide +kernel
theorem dX1_places_4 : decode cX1_places 4 = .ok (.iconst 0, 1) := by decide +kernel
theorem dX1_places_5 : decode cX1_places 5 = .ok (.iaload, 1) := by decide +kernel
theorem dX1_places_6 : decode cX1_places 6 = .ok (.ireturn, 1) := by decide +kernel
theorem dX1_isOpen_0 : decode cX1_isOpen 0 = .ok (.aload_n 0, 1) := by decide +kernel
theorem dX1_isOpen_1 : decode cX1_isOpen 1 = .ok (.getfield 9, 3) := by decide +kernel
theorem dX1_isOpen_4 : decode cX1_isOpen 4 = .ok (.iconst 1, 1) := by decide +kernel
theorem dX1_isOpen_5 : decode cX1_isOpen 5 = .ok (.iaload, 1) := by decide +kernel
theorem dX1_isOpen_6 : decode cX1_isOpen 6 = .ok (.iconst 1, 1) := by decide +kernel
theorem dX1_isOpen_7 : decode cX1_isOpen 7 = .ok (.if_icmp .ne 7, 3) := by decide +kernel
theorem dX1_isOpen_10 : decode cX1_isOpen 10 = .ok (.iconst 1, 1) := by decide +kernel
theorem dX1_isOpen_11 : decode cX1_isOpen 11 = .ok (.goto 4, 3) := by decide +kernel
theorem dX1_isOpen_14 : decode cX1_isOpen 14 = .ok (.iconst 0, 1) := by decide +kernel
theorem dX1_isOpen_15 : decode cX1_isOpen 15 = .ok (.ireturn, 1) := by decide +kernel
theorem dX1_states_0 : decode cX1_states 0 = .ok (.iconst 1, 1) := by decide +kernel
theorem dX1_states_1 : decode cX1_states 1 = .ok (.aload_n 0, 1) := by decide +kernel
theorem dX1_states_2 : decode cX1_states 2 = .ok (.invokevirtual 17, 3) := by decide +kernel
theorem dX1_states_5 : decode cX1_states 5 = .ok (.ishl, 1) := by decide +kernel
theorem dX1_states_6 : decode cX1_states 6 = .ok (.ireturn, 1) := by decide +kernel
theorem dX1_isState_0 : decode cX1_isState 0 = .ok (.iload_n 1, 1) := by decide +kernel
theorem dX1_isState_1 : decode cX1_isState 1 = .ok (.ifCond .lt 15, 3) := by decide +kernel
theorem dX1_isState_4 : decode cX1_isState 4 = .ok (.iload_n 1, 1) := by decide +kernel
theorem dX1_isState_5 : decode cX1_isState 5 = .ok (.aload_n 0, 1) := by decide +kernel
theorem dX1_isState_6 : decode cX1_isState 6 = .ok (.invokevirtual 21, 3) := by decide +kernel
theorem dX1_isState_9 : decode cX1_isState 9 = .ok (.if_icmp .ge 7, 3) := by decide +kernel
theorem dX1_isState_12 : decode cX1_isState 12 = .ok (.iconst 1, 1) := by decide +kernel
theorem dX1_isState_13 : decode cX1_isState 13 = .ok (.goto 4, 3) := by decide +kernel
theorem dX1_isState_16 : decode cX1_isState 16 = .ok (.iconst 0, 1) := by decide +kernel
theorem dX1_isState_17 : decode cX1_isState 17 = .ok (.ireturn, 1) := by decide +kernel
theorem dX1_isPlace_0 : decode cX1_isPlace 0 = .ok (.iload_n 1, 1) := by decide +kernel
theorem dX1_isPlace_1 : decode cX1_isPlace 1 = .ok (.ifCond .lt 15, 3) := by decide +kernel
theorem dX1_isPlace_4 : decode cX1_isPlace 4 = .ok (.iload_n 1, 1) := by decide +kernel
theorem dX1_isPlace_5 : decode cX1_isPlace 5 = .ok (.aload_n 0, 1) := by decide +kernel
theorem dX1_isPlace_6 : decode cX1_isPlace 6 = .ok (.invokevirtual 17, 3) := by decide +kernel
theorem dX1_isPlace_9 : decode cX1_isPlace 9 = .ok (.if_icmp .ge 7, 3) := by decide +kernel
theorem dX1_isPlace_12 : decode cX1_isPlace 12 = .ok (.iconst 1, 1) := by decide +kernel
theorem dX1_isPlace_13 : decode cX1_isPlace 13 = .ok (.goto 4, 3) := by decide +kernel
theorem dX1_isPlace_16 : decode cX1_isPlace 16 = .ok (.iconst 0, 1) := by decide +kernel
theorem dX1_isPlace_17 : decode cX1_isPlace 17 = .ok (.ireturn, 1) := by decide +kernel
theorem dX1_hasWords_0 : decode cX1_hasWords 0 = .ok (.aload_n 0, 1) := by decide +kernel
theorem dX1_hasWords_1 : decode cX1_hasWords 1 = .ok (.invokevirtual 24, 3) := by decide +kernel
theorem dX1_hasWords_4 : decode cX1_hasWords 4 = .ok (.ifCond .eq 64, 3) := by decide +kernel
theorem dX1_hasWords_7 : decode cX1_hasWords 7 = .ok (.aload_n 0, 1) := by decide +kernel
theorem dX1_hasWords_8 : decode cX1_hasWords 8 = .ok (.getfield 9, 3) := by decide +kernel
theorem dX1_hasWords_11 : decode cX1_hasWords 11 = .ok (.iconst 2, 1) := by decide +kernel
theorem dX1_hasWords_12 : decode cX1_hasWords 12 = .ok (.iaload, 1) := by decide +kernel
theorem dX1_hasWords_13 : decode cX1_hasWords 13 = .ok (.iconst 1, 1) := by decide +kernel
theorem dX1_hasWords_14 : decode cX1_hasWords 14 = .ok (.if_icmp .ne 54, 3) := by decide +kernel
theorem dX1_hasWords_17 : decode cX1_hasWords 17 = .ok (.aload_n 0, 1) := by decide +kernel
theorem dX1_hasWords_18 : decode cX1_hasWords 18 = .ok (.getfield 9, 3) := by decide +kernel
theorem dX1_hasWords_21 : decode cX1_hasWords 21 = .ok (.iconst 3, 1) := by decide +kernel
theorem dX1_hasWords_22 : decode cX1_hasWords 22 = .ok (.iaload, 1) := by decide +kernel
theorem dX1_hasWords_23 : decode cX1_hasWords 23 = .ok (.ifCond .ne 45, 3) := by decide +kernel
theorem dX1_hasWords_26 : decode cX1_hasWords 26 = .ok (.aload_n 0, 1) := by decide +kernel
theorem dX1_hasWords_27 : decode cX1_hasWords 27 = .ok (.getfield 9, 3) := by decide +kernel
theorem dX1_hasWords_30 : decode cX1_hasWords 30 = .ok (.iconst 5, 1) := by decide +kernel
theorem dX1_hasWords_31 : decode cX1_hasWords 31 = .ok (.iaload, 1) := by decide +kernel
theorem dX1_hasWords_32 : decode cX1_hasWords 32 = .ok (.ifCond .ne 36, 3) := by decide +kernel
theorem dX1_hasWords_35 : decode cX1_hasWords 35 = .ok (.aload_n 0, 1) := by decide +kernel
theorem dX1_hasWords_36 : decode cX1_hasWords 36 = .ok (.getfield 9, 3) := by decide +kernel
theorem dX1_hasWords_39 : decode cX1_hasWords 39 = .ok (.bipush 7, 2) := by decide +kernel
theorem dX1_hasWords_41 : decode cX1_hasWords 41 = .ok (.iaload, 1) := by decide +kernel
theorem dX1_hasWords_42 : decode cX1_hasWords 42 = .ok (.ifCond .ne 26, 3) := by decide +kernel
theorem dX1_hasWords_45 : decode cX1_hasWords 45 = .ok (.aload_n 0, 1) := by decide +kernel
theorem dX1_hasWords_46 : decode cX1_hasWords 46 = .ok (.getfield 9, 3) := by decide +kernel
theorem dX1_hasWords_49 : decode cX1_hasWords 49 = .ok (.iconst 4, 1) := by decide +kernel
theorem dX1_hasWords_50 : decode cX1_hasWords 50 = .ok (.iaload, 1) := by decide +kernel
theorem dX1_hasWords_51 : decode cX1_hasWords 51 = .ok (.ifCond .le 17, 3) := by decide +kernel
theorem dX1_hasWords_54 : decode cX1_hasWords 54 = .ok (.aload_n 0, 1) := by decide +kernel
theorem dX1_hasWords_55 : decode cX1_hasWords 55 = .ok (.getfield 9, 3) := by decide +kernel
theorem dX1_hasWords_58 : decode cX1_hasWords 58 = .ok (.bipush 6, 2) := by decide +kernel
theorem dX1_hasWords_60 : decode cX1_hasWords 60 = .ok (.iaload, 1) := by decide +kernel
theorem dX1_hasWords_61 : decode cX1_hasWords 61 = .ok (.ifCond .le 7, 3) := by decide +kernel
theorem dX1_hasWords_64 : decode cX1_hasWords 64 = .ok (.iconst 1, 1) := by decide +kernel
theorem dX1_hasWords_65 : decode cX1_hasWords 65 = .ok (.goto 4, 3) := by decide +kernel
theorem dX1_hasWords_68 : decode cX1_hasWords 68 = .ok (.iconst 0, 1) := by decide +kernel
theorem dX1_hasWords_69 : decode cX1_hasWords 69 = .ok (.ireturn, 1) := by decide +kernel
theorem dX1_gates_0 : decode cX1_gates 0 = .ok (.aload_n 0, 1) := by decide +kernel
theorem dX1_gates_1 : decode cX1_gates 1 = .ok (.invokevirtual 24, 3) := by decide +kernel
theorem dX1_gates_4 : decode cX1_gates 4 = .ok (.ifCond .eq 12, 3) := by decide +kernel
theorem dX1_gates_7 : decode cX1_gates 7 = .ok (.aload_n 0, 1) := by decide +kernel
theorem dX1_gates_8 : decode cX1_gates 8 = .ok (.invokevirtual 17, 3) := by decide +kernel
theorem dX1_gates_11 : decode cX1_gates 11 = .ok (.iconst 1, 1) := by decide +kernel
theorem dX1_gates_12 : decode cX1_gates 12 = .ok (.iadd, 1) := by decide +kernel
theorem dX1_gates_13 : decode cX1_gates 13 = .ok (.goto 7, 3) := by decide +kernel
theorem dX1_gates_16 : decode cX1_gates 16 = .ok (.aload_n 0, 1) := by decide +kernel
theorem dX1_gates_17 : decode cX1_gates 17 = .ok (.invokevirtual 17, 3) := by decide +kernel
theorem dX1_gates_20 : decode cX1_gates 20 = .ok (.ireturn, 1) := by decide +kernel
theorem dX1_besideGate_0 : decode cX1_besideGate 0 = .ok (.aload_n 0, 1) := by decide +kernel
theorem dX1_besideGate_1 : decode cX1_besideGate 1 = .ok (.invokevirtual 17, 3) := by decide +kernel
theorem dX1_besideGate_4 : decode cX1_besideGate 4 = .ok (.istore_n 2, 1) := by decide +kernel
theorem dX1_besideGate_5 : decode cX1_besideGate 5 = .ok (.aload_n 0, 1) := by decide +kernel
theorem dX1_besideGate_6 : decode cX1_besideGate 6 = .ok (.invokevirtual 24, 3) := by decide +kernel
theorem dX1_besideGate_9 : decode cX1_besideGate 9 = .ok (.ifCond .eq 15, 3) := by decide +kernel
theorem dX1_besideGate_12 : decode cX1_besideGate 12 = .ok (.iconst 3, 1) := by decide +kernel
theorem dX1_besideGate_13 : decode cX1_besideGate 13 = .ok (.iload_n 1, 1) := by decide +kernel
theorem dX1_besideGate_14 : decode cX1_besideGate 14 = .ok (.ishl, 1) := by decide +kernel
theorem dX1_besideGate_15 : decode cX1_besideGate 15 = .ok (.iconst 1, 1) := by decide +kernel
theorem dX1_besideGate_16 : decode cX1_besideGate 16 = .ok (.ishr, 1) := by decide +kernel
theorem dX1_besideGate_17 : decode cX1_besideGate 17 = .ok (.iconst 1, 1) := by decide +kernel
theorem dX1_besideGate_18 : decode cX1_besideGate 18 = .ok (.iload_n 2, 1) := by decide +kernel
theorem dX1_besideGate_19 : decode cX1_besideGate 19 = .ok (.ishl, 1) := by decide +kernel
theorem dX1_besideGate_20 : decode cX1_besideGate 20 = .ok (.iconst 1, 1) := by decide +kernel
theorem dX1_besideGate_21 : decode cX1_besideGate 21 = .ok (.isub, 1) := by decide +kernel
theorem dX1_besideGate_22 : decode cX1_besideGate 22 = .ok (.iand, 1) := by decide +kernel
theorem dX1_besideGate_23 : decode cX1_besideGate 23 = .ok (.ireturn, 1) := by decide +kernel
theorem dX1_besideGate_24 : decode cX1_besideGate 24 = .ok (.iconst 1, 1) := by decide +kernel
theorem dX1_besideGate_25 : decode cX1_besideGate 25 = .ok (.iload_n 1, 1) := by decide +kernel
theorem dX1_besideGate_26 : decode cX1_besideGate 26 = .ok (.ishl, 1) := by decide +kernel
theorem dX1_besideGate_27 : decode cX1_besideGate 27 = .ok (.iconst 1, 1) := by decide +kernel
theorem dX1_besideGate_28 : decode cX1_besideGate 28 = .ok (.iload_n 1, 1) := by decide +kernel
theorem dX1_besideGate_29 : decode cX1_besideGate 29 = .ok (.iconst 1, 1) := by decide +kernel
theorem dX1_besideGate_30 : decode cX1_besideGate 30 = .ok (.iadd, 1) := by decide +kernel
theorem dX1_besideGate_31 : decode cX1_besideGate 31 = .ok (.iload_n 2, 1) := by decide +kernel
theorem dX1_besideGate_32 : decode cX1_besideGate 32 = .ok (.if_icmp .ne 7, 3) := by decide +kernel
theorem dX1_besideGate_35 : decode cX1_besideGate 35 = .ok (.iconst 0, 1) := by decide +kernel
theorem dX1_besideGate_36 : decode cX1_besideGate 36 = .ok (.goto 6, 3) := by decide +kernel
theorem dX1_besideGate_39 : decode cX1_besideGate 39 = .ok (.iload_n 1, 1) := by decide +kernel
theorem dX1_besideGate_40 : decode cX1_besideGate 40 = .ok (.iconst 1, 1) := by decide +kernel
theorem dX1_besideGate_41 : decode cX1_besideGate 41 = .ok (.iadd, 1) := by decide +kernel
theorem dX1_besideGate_42 : decode cX1_besideGate 42 = .ok (.ishl, 1) := by decide +kernel
theorem dX1_besideGate_43 : decode cX1_besideGate 43 = .ok (.ior, 1) := by decide +kernel
theorem dX1_besideGate_44 : decode cX1_besideGate 44 = .ok (.ireturn, 1) := by decide +kernel
theorem dX1_rateOver_0 : decode cX1_rateOver 0 = .ok (.aload_n 0, 1) := by decide +kernel
theorem dX1_rateOver_1 : decode cX1_rateOver 1 = .ok (.invokevirtual 17, 3) := by decide +kernel
theorem dX1_rateOver_4 : decode cX1_rateOver 4 = .ok (.istore_n 3, 1) := by decide +kernel
theorem dX1_rateOver_5 : decode cX1_rateOver 5 = .ok (.aload_n 0, 1) := by decide +kernel
theorem dX1_rateOver_6 : decode cX1_rateOver 6 = .ok (.invokevirtual 24, 3) := by decide +kernel
theorem dX1_rateOver_9 : decode cX1_rateOver 9 = .ok (.ifCond .ne 24, 3) := by decide +kernel
theorem dX1_rateOver_12 : decode cX1_rateOver 12 = .ok (.aload_n 0, 1) := by decide +kernel
theorem dX1_rateOver_13 : decode cX1_rateOver 13 = .ok (.iload_n 1, 1) := by decide +kernel
theorem dX1_rateOver_14 : decode cX1_rateOver 14 = .ok (.iload_n 2, 1) := by decide +kernel
theorem dX1_rateOver_15 : decode cX1_rateOver 15 = .ok (.iload_n 2, 1) := by decide +kernel
theorem dX1_rateOver_16 : decode cX1_rateOver 16 = .ok (.iconst 1, 1) := by decide +kernel
theorem dX1_rateOver_17 : decode cX1_rateOver 17 = .ok (.iadd, 1) := by decide +kernel
theorem dX1_rateOver_18 : decode cX1_rateOver 18 = .ok (.iload_n 3, 1) := by decide +kernel
theorem dX1_rateOver_19 : decode cX1_rateOver 19 = .ok (.if_icmp .ne 7, 3) := by decide +kernel
theorem dX1_rateOver_22 : decode cX1_rateOver 22 = .ok (.iconst 0, 1) := by decide +kernel
theorem dX1_rateOver_23 : decode cX1_rateOver 23 = .ok (.goto 6, 3) := by decide +kernel
theorem dX1_rateOver_26 : decode cX1_rateOver 26 = .ok (.iload_n 2, 1) := by decide +kernel
theorem dX1_rateOver_27 : decode cX1_rateOver 27 = .ok (.iconst 1, 1) := by decide +kernel
theorem dX1_rateOver_28 : decode cX1_rateOver 28 = .ok (.iadd, 1) := by decide +kernel
theorem dX1_rateOver_29 : decode cX1_rateOver 29 = .ok (.invokevirtual 28, 3) := by decide +kernel
theorem dX1_rateOver_32 : decode cX1_rateOver 32 = .ok (.ireturn, 1) := by decide +kernel
theorem dX1_rateOver_33 : decode cX1_rateOver 33 = .ok (.iload_n 2, 1) := by decide +kernel
theorem dX1_rateOver_34 : decode cX1_rateOver 34 = .ok (.ifCond .ne 26, 3) := by decide +kernel
theorem dX1_rateOver_37 : decode cX1_rateOver 37 = .ok (.iload_n 1, 1) := by decide +kernel
theorem dX1_rateOver_38 : decode cX1_rateOver 38 = .ok (.iconst 1, 1) := by decide +kernel
theorem dX1_rateOver_39 : decode cX1_rateOver 39 = .ok (.iand, 1) := by decide +kernel
theorem dX1_rateOver_40 : decode cX1_rateOver 40 = .ok (.ifCond .ne 12, 3) := by decide +kernel
theorem dX1_rateOver_43 : decode cX1_rateOver 43 = .ok (.aload_n 0, 1) := by decide +kernel
theorem dX1_rateOver_44 : decode cX1_rateOver 44 = .ok (.getfield 9, 3) := by decide +kernel
theorem dX1_rateOver_47 : decode cX1_rateOver 47 = .ok (.iconst 4, 1) := by decide +kernel
theorem dX1_rateOver_48 : decode cX1_rateOver 48 = .ok (.iaload, 1) := by decide +kernel
theorem dX1_rateOver_49 : decode cX1_rateOver 49 = .ok (.goto 10, 3) := by decide +kernel
theorem dX1_rateOver_52 : decode cX1_rateOver 52 = .ok (.aload_n 0, 1) := by decide +kernel
theorem dX1_rateOver_53 : decode cX1_rateOver 53 = .ok (.getfield 9, 3) := by decide +kernel
theorem dX1_rateOver_56 : decode cX1_rateOver 56 = .ok (.bipush 7, 2) := by decide +kernel
theorem dX1_rateOver_58 : decode cX1_rateOver 58 = .ok (.iaload, 1) := by decide +kernel
theorem dX1_rateOver_59 : decode cX1_rateOver 59 = .ok (.ireturn, 1) := by decide +kernel
theorem dX1_rateOver_60 : decode cX1_rateOver 60 = .ok (.iload_n 2, 1) := by decide +kernel
theorem dX1_rateOver_61 : decode cX1_rateOver 61 = .ok (.iload_n 3, 1) := by decide +kernel
theorem dX1_rateOver_62 : decode cX1_rateOver 62 = .ok (.if_icmp .ne 31, 3) := by decide +kernel
theorem dX1_rateOver_65 : decode cX1_rateOver 65 = .ok (.iload_n 1, 1) := by decide +kernel
theorem dX1_rateOver_66 : decode cX1_rateOver 66 = .ok (.iload_n 3, 1) := by decide +kernel
theorem dX1_rateOver_67 : decode cX1_rateOver 67 = .ok (.iconst 1, 1) := by decide +kernel
theorem dX1_rateOver_68 : decode cX1_rateOver 68 = .ok (.isub, 1) := by decide +kernel
theorem dX1_rateOver_69 : decode cX1_rateOver 69 = .ok (.ishr, 1) := by decide +kernel
theorem dX1_rateOver_70 : decode cX1_rateOver 70 = .ok (.iconst 1, 1) := by decide +kernel
theorem dX1_rateOver_71 : decode cX1_rateOver 71 = .ok (.iand, 1) := by decide +kernel
theorem dX1_rateOver_72 : decode cX1_rateOver 72 = .ok (.iconst 1, 1) := by decide +kernel
theorem dX1_rateOver_73 : decode cX1_rateOver 73 = .ok (.if_icmp .ne 13, 3) := by decide +kernel
theorem dX1_rateOver_76 : decode cX1_rateOver 76 = .ok (.aload_n 0, 1) := by decide +kernel
theorem dX1_rateOver_77 : decode cX1_rateOver 77 = .ok (.getfield 9, 3) := by decide +kernel
theorem dX1_rateOver_80 : decode cX1_rateOver 80 = .ok (.bipush 6, 2) := by decide +kernel
theorem dX1_rateOver_82 : decode cX1_rateOver 82 = .ok (.iaload, 1) := by decide +kernel
theorem dX1_rateOver_83 : decode cX1_rateOver 83 = .ok (.goto 9, 3) := by decide +kernel
theorem dX1_rateOver_86 : decode cX1_rateOver 86 = .ok (.aload_n 0, 1) := by decide +kernel
theorem dX1_rateOver_87 : decode cX1_rateOver 87 = .ok (.getfield 9, 3) := by decide +kernel
theorem dX1_rateOver_90 : decode cX1_rateOver 90 = .ok (.iconst 5, 1) := by decide +kernel
theorem dX1_rateOver_91 : decode cX1_rateOver 91 = .ok (.iaload, 1) := by decide +kernel
theorem dX1_rateOver_92 : decode cX1_rateOver 92 = .ok (.ireturn, 1) := by decide +kernel
theorem dX1_rateOver_93 : decode cX1_rateOver 93 = .ok (.aload_n 0, 1) := by decide +kernel
theorem dX1_rateOver_94 : decode cX1_rateOver 94 = .ok (.iload_n 1, 1) := by decide +kernel
theorem dX1_rateOver_95 : decode cX1_rateOver 95 = .ok (.iload_n 2, 1) := by decide +kernel
theorem dX1_rateOver_96 : decode cX1_rateOver 96 = .ok (.iconst 1, 1) := by decide +kernel
theorem dX1_rateOver_97 : decode cX1_rateOver 97 = .ok (.isub, 1) := by decide +kernel
theorem dX1_rateOver_98 : decode cX1_rateOver 98 = .ok (.iload_n 2, 1) := by decide +kernel
theorem dX1_rateOver_99 : decode cX1_rateOver 99 = .ok (.invokevirtual 28, 3) := by decide +kernel
theorem dX1_rateOver_102 : decode cX1_rateOver 102 = .ok (.ireturn, 1) := by decide +kernel
theorem dX1_rateOverBond_0 : decode cX1_rateOverBond 0 = .ok (.iload_n 1, 1) := by decide +kernel
theorem dX1_rateOverBond_1 : decode cX1_rateOverBond 1 = .ok (.iload_n 2, 1) := by decide +kernel
theorem dX1_rateOverBond_2 : decode cX1_rateOverBond 2 = .ok (.ishr, 1) := by decide +kernel
theorem dX1_rateOverBond_3 : decode cX1_rateOverBond 3 = .ok (.iconst 1, 1) := by decide +kernel
theorem dX1_rateOverBond_4 : decode cX1_rateOverBond 4 = .ok (.iand, 1) := by decide +kernel
theorem dX1_rateOverBond_5 : decode cX1_rateOverBond 5 = .ok (.iload_n 1, 1) := by decide +kernel
theorem dX1_rateOverBond_6 : decode cX1_rateOverBond 6 = .ok (.iload_n 3, 1) := by decide +kernel
theorem dX1_rateOverBond_7 : decode cX1_rateOverBond 7 = .ok (.ishr, 1) := by decide +kernel
theorem dX1_rateOverBond_8 : decode cX1_rateOverBond 8 = .ok (.iconst 1, 1) := by decide +kernel
theorem dX1_rateOverBond_9 : decode cX1_rateOverBond 9 = .ok (.iand, 1) := by decide +kernel
theorem dX1_rateOverBond_10 : decode cX1_rateOverBond 10 = .ok (.isub, 1) := by decide +kernel
theorem dX1_rateOverBond_11 : decode cX1_rateOverBond 11 = .ok (.istore 4, 2) := by decide +kernel
theorem dX1_rateOverBond_13 : decode cX1_rateOverBond 13 = .ok (.iload 4, 2) := by decide +kernel
theorem dX1_rateOverBond_15 : decode cX1_rateOverBond 15 = .ok (.ifCond .ne 5, 3) := by decide +kernel
theorem dX1_rateOverBond_18 : decode cX1_rateOverBond 18 = .ok (.iconst 0, 1) := by decide +kernel
theorem dX1_rateOverBond_19 : decode cX1_rateOverBond 19 = .ok (.ireturn, 1) := by decide +kernel
theorem dX1_rateOverBond_20 : decode cX1_rateOverBond 20 = .ok (.iload 4, 2) := by decide +kernel
theorem dX1_rateOverBond_22 : decode cX1_rateOverBond 22 = .ok (.ifCond .le 12, 3) := by decide +kernel
theorem dX1_rateOverBond_25 : decode cX1_rateOverBond 25 = .ok (.aload_n 0, 1) := by decide +kernel
theorem dX1_rateOverBond_26 : decode cX1_rateOverBond 26 = .ok (.getfield 9, 3) := by decide +kernel
theorem dX1_rateOverBond_29 : decode cX1_rateOverBond 29 = .ok (.iconst 2, 1) := by decide +kernel
theorem dX1_rateOverBond_30 : decode cX1_rateOverBond 30 = .ok (.iaload, 1) := by decide +kernel
theorem dX1_rateOverBond_31 : decode cX1_rateOverBond 31 = .ok (.goto 9, 3) := by decide +kernel
theorem dX1_rateOverBond_34 : decode cX1_rateOverBond 34 = .ok (.aload_n 0, 1) := by decide +kernel
theorem dX1_rateOverBond_35 : decode cX1_rateOverBond 35 = .ok (.getfield 9, 3) := by decide +kernel
theorem dX1_rateOverBond_38 : decode cX1_rateOverBond 38 = .ok (.iconst 3, 1) := by decide +kernel
theorem dX1_rateOverBond_39 : decode cX1_rateOverBond 39 = .ok (.iaload, 1) := by decide +kernel
theorem dX1_rateOverBond_40 : decode cX1_rateOverBond 40 = .ok (.ireturn, 1) := by decide +kernel
theorem dX1_rateBetween_0 : decode cX1_rateBetween 0 = .ok (.iconst 0, 1) := by decide +kernel
theorem dX1_rateBetween_1 : decode cX1_rateBetween 1 = .ok (.istore_n 3, 1) := by decide +kernel
theorem dX1_rateBetween_2 : decode cX1_rateBetween 2 = .ok (.iconst 0, 1) := by decide +kernel
theorem dX1_rateBetween_3 : decode cX1_rateBetween 3 = .ok (.istore 4, 2) := by decide +kernel
theorem dX1_rateBetween_5 : decode cX1_rateBetween 5 = .ok (.iload 4, 2) := by decide +kernel
theorem dX1_rateBetween_7 : decode cX1_rateBetween 7 = .ok (.aload_n 0, 1) := by decide +kernel
theorem dX1_rateBetween_8 : decode cX1_rateBetween 8 = .ok (.invokevirtual 32, 3) := by decide +kernel
theorem dX1_rateBetween_11 : decode cX1_rateBetween 11 = .ok (.if_icmp .ge 31, 3) := by decide +kernel
theorem dX1_rateBetween_14 : decode cX1_rateBetween 14 = .ok (.iload_n 1, 1) := by decide +kernel
theorem dX1_rateBetween_15 : decode cX1_rateBetween 15 = .ok (.aload_n 0, 1) := by decide +kernel
theorem dX1_rateBetween_16 : decode cX1_rateBetween 16 = .ok (.iload 4, 2) := by decide +kernel
theorem dX1_rateBetween_18 : decode cX1_rateBetween 18 = .ok (.invokevirtual 35, 3) := by decide +kernel
theorem dX1_rateBetween_21 : decode cX1_rateBetween 21 = .ok (.ixor, 1) := by decide +kernel
theorem dX1_rateBetween_22 : decode cX1_rateBetween 22 = .ok (.iload_n 2, 1) := by decide +kernel
theorem dX1_rateBetween_23 : decode cX1_rateBetween 23 = .ok (.if_icmp .ne 13, 3) := by decide +kernel
theorem dX1_rateBetween_26 : decode cX1_rateBetween 26 = .ok (.iload_n 3, 1) := by decide +kernel
theorem dX1_rateBetween_27 : decode cX1_rateBetween 27 = .ok (.aload_n 0, 1) := by decide +kernel
theorem dX1_rateBetween_28 : decode cX1_rateBetween 28 = .ok (.iload_n 1, 1) := by decide +kernel
theorem dX1_rateBetween_29 : decode cX1_rateBetween 29 = .ok (.iload 4, 2) := by decide +kernel
theorem dX1_rateBetween_31 : decode cX1_rateBetween 31 = .ok (.invokevirtual 38, 3) := by decide +kernel
theorem dX1_rateBetween_34 : decode cX1_rateBetween 34 = .ok (.iadd, 1) := by decide +kernel
theorem dX1_rateBetween_35 : decode cX1_rateBetween 35 = .ok (.istore_n 3, 1) := by decide +kernel
theorem dX1_rateBetween_36 : decode cX1_rateBetween 36 = .ok (.iinc 4 1, 3) := by decide +kernel
theorem dX1_rateBetween_39 : decode cX1_rateBetween 39 = .ok (.goto (-34), 3) := by decide +kernel
theorem dX1_rateBetween_42 : decode cX1_rateBetween 42 = .ok (.iload_n 3, 1) := by decide +kernel
theorem dX1_rateBetween_43 : decode cX1_rateBetween 43 = .ok (.ireturn, 1) := by decide +kernel
theorem dX1_rateOut_0 : decode cX1_rateOut 0 = .ok (.iconst 0, 1) := by decide +kernel
theorem dX1_rateOut_1 : decode cX1_rateOut 1 = .ok (.istore_n 2, 1) := by decide +kernel
theorem dX1_rateOut_2 : decode cX1_rateOut 2 = .ok (.iconst 0, 1) := by decide +kernel
theorem dX1_rateOut_3 : decode cX1_rateOut 3 = .ok (.istore_n 3, 1) := by decide +kernel
theorem dX1_rateOut_4 : decode cX1_rateOut 4 = .ok (.iload_n 3, 1) := by decide +kernel
theorem dX1_rateOut_5 : decode cX1_rateOut 5 = .ok (.aload_n 0, 1) := by decide +kernel
theorem dX1_rateOut_6 : decode cX1_rateOut 6 = .ok (.invokevirtual 32, 3) := by decide +kernel
theorem dX1_rateOut_9 : decode cX1_rateOut 9 = .ok (.if_icmp .ge 18, 3) := by decide +kernel
theorem dX1_rateOut_12 : decode cX1_rateOut 12 = .ok (.iload_n 2, 1) := by decide +kernel
theorem dX1_rateOut_13 : decode cX1_rateOut 13 = .ok (.aload_n 0, 1) := by decide +kernel
theorem dX1_rateOut_14 : decode cX1_rateOut 14 = .ok (.iload_n 1, 1) := by decide +kernel
theorem dX1_rateOut_15 : decode cX1_rateOut 15 = .ok (.iload_n 3, 1) := by decide +kernel
theorem dX1_rateOut_16 : decode cX1_rateOut 16 = .ok (.invokevirtual 38, 3) := by decide +kernel
theorem dX1_rateOut_19 : decode cX1_rateOut 19 = .ok (.iadd, 1) := by decide +kernel
theorem dX1_rateOut_20 : decode cX1_rateOut 20 = .ok (.istore_n 2, 1) := by decide +kernel
theorem dX1_rateOut_21 : decode cX1_rateOut 21 = .ok (.iinc 3 1, 3) := by decide +kernel
theorem dX1_rateOut_24 : decode cX1_rateOut 24 = .ok (.goto (-20), 3) := by decide +kernel
theorem dX1_rateOut_27 : decode cX1_rateOut 27 = .ok (.iload_n 2, 1) := by decide +kernel
theorem dX1_rateOut_28 : decode cX1_rateOut 28 = .ok (.ireturn, 1) := by decide +kernel
theorem dX1_targets_0 : decode cX1_targets 0 = .ok (.lconst 0, 1) := by decide +kernel
theorem dX1_targets_1 : decode cX1_targets 1 = .ok (.lstore_n 2, 1) := by decide +kernel
theorem dX1_targets_2 : decode cX1_targets 2 = .ok (.iconst 0, 1) := by decide +kernel
theorem dX1_targets_3 : decode cX1_targets 3 = .ok (.istore 4, 2) := by decide +kernel
theorem dX1_targets_5 : decode cX1_targets 5 = .ok (.iload 4, 2) := by decide +kernel
theorem dX1_targets_7 : decode cX1_targets 7 = .ok (.aload_n 0, 1) := by decide +kernel
theorem dX1_targets_8 : decode cX1_targets 8 = .ok (.invokevirtual 32, 3) := by decide +kernel
theorem dX1_targets_11 : decode cX1_targets 11 = .ok (.if_icmp .ge 32, 3) := by decide +kernel
theorem dX1_targets_14 : decode cX1_targets 14 = .ok (.aload_n 0, 1) := by decide +kernel
theorem dX1_targets_15 : decode cX1_targets 15 = .ok (.iload_n 1, 1) := by decide +kernel
theorem dX1_targets_16 : decode cX1_targets 16 = .ok (.iload 4, 2) := by decide +kernel
theorem dX1_targets_18 : decode cX1_targets 18 = .ok (.invokevirtual 38, 3) := by decide +kernel
theorem dX1_targets_21 : decode cX1_targets 21 = .ok (.ifCond .le 16, 3) := by decide +kernel
theorem dX1_targets_24 : decode cX1_targets 24 = .ok (.lload_n 2, 1) := by decide +kernel
theorem dX1_targets_25 : decode cX1_targets 25 = .ok (.lconst 1, 1) := by decide +kernel
theorem dX1_targets_26 : decode cX1_targets 26 = .ok (.iload_n 1, 1) := by decide +kernel
theorem dX1_targets_27 : decode cX1_targets 27 = .ok (.aload_n 0, 1) := by decide +kernel
theorem dX1_targets_28 : decode cX1_targets 28 = .ok (.iload 4, 2) := by decide +kernel
theorem dX1_targets_30 : decode cX1_targets 30 = .ok (.invokevirtual 35, 3) := by decide +kernel
theorem dX1_targets_33 : decode cX1_targets 33 = .ok (.ixor, 1) := by decide +kernel
theorem dX1_targets_34 : decode cX1_targets 34 = .ok (.lshl, 1) := by decide +kernel
theorem dX1_targets_35 : decode cX1_targets 35 = .ok (.lor, 1) := by decide +kernel
theorem dX1_targets_36 : decode cX1_targets 36 = .ok (.lstore_n 2, 1) := by decide +kernel
theorem dX1_targets_37 : decode cX1_targets 37 = .ok (.iinc 4 1, 3) := by decide +kernel
theorem dX1_targets_40 : decode cX1_targets 40 = .ok (.goto (-35), 3) := by decide +kernel
theorem dX1_targets_43 : decode cX1_targets 43 = .ok (.lload_n 2, 1) := by decide +kernel
theorem dX1_targets_44 : decode cX1_targets 44 = .ok (.lreturn, 1) := by decide +kernel
theorem dX1_passing_0 : decode cX1_passing 0 = .ok (.aload_n 0, 1) := by decide +kernel
theorem dX1_passing_1 : decode cX1_passing 1 = .ok (.invokevirtual 17, 3) := by decide +kernel
theorem dX1_passing_4 : decode cX1_passing 4 = .ok (.iconst 1, 1) := by decide +kernel
theorem dX1_passing_5 : decode cX1_passing 5 = .ok (.if_icmp .ne 27, 3) := by decide +kernel
theorem dX1_passing_8 : decode cX1_passing 8 = .ok (.iload_n 1, 1) := by decide +kernel
theorem dX1_passing_9 : decode cX1_passing 9 = .ok (.iconst 1, 1) := by decide +kernel
theorem dX1_passing_10 : decode cX1_passing 10 = .ok (.iand, 1) := by decide +kernel
theorem dX1_passing_11 : decode cX1_passing 11 = .ok (.ifCond .ne 12, 3) := by decide +kernel
theorem dX1_passing_14 : decode cX1_passing 14 = .ok (.aload_n 0, 1) := by decide +kernel
theorem dX1_passing_15 : decode cX1_passing 15 = .ok (.getfield 9, 3) := by decide +kernel
theorem dX1_passing_18 : decode cX1_passing 18 = .ok (.iconst 4, 1) := by decide +kernel
theorem dX1_passing_19 : decode cX1_passing 19 = .ok (.iaload, 1) := by decide +kernel
theorem dX1_passing_20 : decode cX1_passing 20 = .ok (.goto 11, 3) := by decide +kernel
theorem dX1_passing_23 : decode cX1_passing 23 = .ok (.aload_n 0, 1) := by decide +kernel
theorem dX1_passing_24 : decode cX1_passing 24 = .ok (.getfield 9, 3) := by decide +kernel
theorem dX1_passing_27 : decode cX1_passing 27 = .ok (.bipush 7, 2) := by decide +kernel
theorem dX1_passing_29 : decode cX1_passing 29 = .ok (.iaload, 1) := by decide +kernel
theorem dX1_passing_30 : decode cX1_passing 30 = .ok (.ineg, 1) := by decide +kernel
theorem dX1_passing_31 : decode cX1_passing 31 = .ok (.ireturn, 1) := by decide +kernel
theorem dX1_passing_32 : decode cX1_passing 32 = .ok (.aload_n 0, 1) := by decide +kernel
theorem dX1_passing_33 : decode cX1_passing 33 = .ok (.iload_n 1, 1) := by decide +kernel
theorem dX1_passing_34 : decode cX1_passing 34 = .ok (.iconst 0, 1) := by decide +kernel
theorem dX1_passing_35 : decode cX1_passing 35 = .ok (.iconst 1, 1) := by decide +kernel
theorem dX1_passing_36 : decode cX1_passing 36 = .ok (.invokevirtual 28, 3) := by decide +kernel
theorem dX1_passing_39 : decode cX1_passing 39 = .ok (.istore_n 2, 1) := by decide +kernel
theorem dX1_passing_40 : decode cX1_passing 40 = .ok (.iload_n 1, 1) := by decide +kernel
theorem dX1_passing_41 : decode cX1_passing 41 = .ok (.iconst 1, 1) := by decide +kernel
theorem dX1_passing_42 : decode cX1_passing 42 = .ok (.iand, 1) := by decide +kernel
theorem dX1_passing_43 : decode cX1_passing 43 = .ok (.iconst 1, 1) := by decide +kernel
theorem dX1_passing_44 : decode cX1_passing 44 = .ok (.if_icmp .ne 7, 3) := by decide +kernel
theorem dX1_passing_47 : decode cX1_passing 47 = .ok (.iload_n 2, 1) := by decide +kernel
theorem dX1_passing_48 : decode cX1_passing 48 = .ok (.goto 5, 3) := by decide +kernel
theorem dX1_passing_51 : decode cX1_passing 51 = .ok (.iload_n 2, 1) := by decide +kernel
theorem dX1_passing_52 : decode cX1_passing 52 = .ok (.ineg, 1) := by decide +kernel
theorem dX1_passing_53 : decode cX1_passing 53 = .ok (.ireturn, 1) := by decide +kernel
theorem dX2_init_0 : decode cX2_init 0 = .ok (.aload_n 0, 1) := by decide +kernel
theorem dX2_init_1 : decode cX2_init 1 = .ok (.invokespecial 3, 3) := by decide +kernel
theorem dX2_init_4 : decode cX2_init 4 = .ok (.aload_n 0, 1) := by decide +kernel
theorem dX2_init_5 : decode cX2_init 5 = .ok (.sipush 256, 3) := by decide +kernel
theorem dX2_init_8 : decode cX2_init 8 = .ok (.newarray .long, 2) := by decide +kernel
theorem dX2_init_10 : decode cX2_init 10 = .ok (.putfield 11, 3) := by decide +kernel
theorem dX2_init_13 : decode cX2_init 13 = .ok (.aload_n 0, 1) := by decide +kernel
theorem dX2_init_14 : decode cX2_init 14 = .ok (.bipush 12, 2) := by decide +kernel
theorem dX2_init_16 : decode cX2_init 16 = .ok (.newarray .long, 2) := by decide +kernel
theorem dX2_init_18 : decode cX2_init 18 = .ok (.putfield 15, 3) := by decide +kernel
theorem dX2_init_21 : decode cX2_init 21 = .ok (.aload_n 0, 1) := by decide +kernel
theorem dX2_init_22 : decode cX2_init 22 = .ok (.bipush 12, 2) := by decide +kernel
theorem dX2_init_24 : decode cX2_init 24 = .ok (.newarray .long, 2) := by decide +kernel
theorem dX2_init_26 : decode cX2_init 26 = .ok (.putfield 18, 3) := by decide +kernel
theorem dX2_init_29 : decode cX2_init 29 = .ok (.aload_n 0, 1) := by decide +kernel
theorem dX2_init_30 : decode cX2_init 30 = .ok (.iconst 4, 1) := by decide +kernel
theorem dX2_init_31 : decode cX2_init 31 = .ok (.newarray .int, 2) := by decide +kernel
theorem dX2_init_33 : decode cX2_init 33 = .ok (.putfield 21, 3) := by decide +kernel
theorem dX2_init_36 : decode cX2_init 36 = .ok (.aload_n 0, 1) := by decide +kernel
theorem dX2_init_37 : decode cX2_init 37 = .ok (.iconst 4, 1) := by decide +kernel
theorem dX2_init_38 : decode cX2_init 38 = .ok (.newarray .int, 2) := by decide +kernel
theorem dX2_init_40 : decode cX2_init 40 = .ok (.putfield 25, 3) := by decide +kernel
theorem dX2_init_43 : decode cX2_init 43 = .ok (.aload_n 0, 1) := by decide +kernel
theorem dX2_init_44 : decode cX2_init 44 = .ok (.bipush 16, 2) := by decide +kernel
theorem dX2_init_46 : decode cX2_init 46 = .ok (.newarray .long, 2) := by decide +kernel
theorem dX2_init_48 : decode cX2_init 48 = .ok (.putfield 28, 3) := by decide +kernel
theorem dX2_init_51 : decode cX2_init 51 = .ok (.return_, 1) := by decide +kernel
theorem dX2_isRim_0 : decode cX2_isRim 0 = .ok (.iload_n 0, 1) := by decide +kernel
theorem dX2_isRim_1 : decode cX2_isRim 1 = .ok (.ifCond .lt 14, 3) := by decide +kernel
theorem dX2_isRim_4 : decode cX2_isRim 4 = .ok (.iload_n 0, 1) := by decide +kernel
theorem dX2_isRim_5 : decode cX2_isRim 5 = .ok (.sipush 256, 3) := by decide +kernel
theorem dX2_isRim_8 : decode cX2_isRim 8 = .ok (.if_icmp .ge 7, 3) := by decide +kernel
theorem dX2_isRim_11 : decode cX2_isRim 11 = .ok (.iconst 1, 1) := by decide +kernel
theorem dX2_isRim_12 : decode cX2_isRim 12 = .ok (.goto 4, 3) := by decide +kernel
theorem dX2_isRim_15 : decode cX2_isRim 15 = .ok (.iconst 0, 1) := by decide +kernel
theorem dX2_isRim_16 : decode cX2_isRim 16 = .ok (.ireturn, 1) := by decide +kernel
theorem dX2_areWalkers_0 : decode cX2_areWalkers 0 = .ok (.iload_n 0, 1) := by decide +kernel
theorem dX2_areWalkers_1 : decode cX2_areWalkers 1 = .ok (.invokestatic 31, 3) := by decide +kernel
theorem dX2_areWalkers_4 : decode cX2_areWalkers 4 = .ok (.istore_n 1, 1) := by decide +kernel
theorem dX2_areWalkers_5 : decode cX2_areWalkers 5 = .ok (.iload_n 0, 1) := by decide +kernel
theorem dX2_areWalkers_6 : decode cX2_areWalkers 6 = .ok (.ifCond .lt 24, 3) := by decide +kernel
theorem dX2_areWalkers_9 : decode cX2_areWalkers 9 = .ok (.iload_n 0, 1) := by decide +kernel
theorem dX2_areWalkers_10 : decode cX2_areWalkers 10 = .ok (.sipush 4096, 3) := by decide +kernel
theorem dX2_areWalkers_13 : decode cX2_areWalkers 13 = .ok (.if_icmp .ge 17, 3) := by decide +kernel
theorem dX2_areWalkers_16 : decode cX2_areWalkers 16 = .ok (.iload_n 1, 1) := by decide +kernel
theorem dX2_areWalkers_17 : decode cX2_areWalkers 17 = .ok (.iconst 1, 1) := by decide +kernel
theorem dX2_areWalkers_18 : decode cX2_areWalkers 18 = .ok (.if_icmp .lt 12, 3) := by decide +kernel
theorem dX2_areWalkers_21 : decode cX2_areWalkers 21 = .ok (.iload_n 1, 1) := by decide +kernel
theorem dX2_areWalkers_22 : decode cX2_areWalkers 22 = .ok (.iconst 4, 1) := by decide +kernel
theorem dX2_areWalkers_23 : decode cX2_areWalkers 23 = .ok (.if_icmp .gt 7, 3) := by decide +kernel
theorem dX2_areWalkers_26 : decode cX2_areWalkers 26 = .ok (.iconst 1, 1) := by decide +kernel
theorem dX2_areWalkers_27 : decode cX2_areWalkers 27 = .ok (.goto 4, 3) := by decide +kernel
theorem dX2_areWalkers_30 : decode cX2_areWalkers 30 = .ok (.iconst 0, 1) := by decide +kernel
theorem dX2_areWalkers_31 : decode cX2_areWalkers 31 = .ok (.ireturn, 1) := by decide +kernel
theorem dX2_hopsBetween_0 : decode cX2_hopsBetween 0 = .ok (.iload_n 0, 1) := by decide +kernel
theorem dX2_hopsBetween_1 : decode cX2_hopsBetween 1 = .ok (.invokestatic 31, 3) := by decide +kernel
theorem dX2_hopsBetween_4 : decode cX2_hopsBetween 4 = .ok (.iload_n 1, 1) := by decide +kernel
theorem dX2_hopsBetween_5 : decode cX2_hopsBetween 5 = .ok (.invokestatic 31, 3) := by decide +kernel
theorem dX2_hopsBetween_8 : decode cX2_hopsBetween 8 = .ok (.if_icmp .eq 6, 3) := by decide +kernel
theorem dX2_hopsBetween_11 : decode cX2_hopsBetween 11 = .ok (.bipush (-4), 2) := by decide +kernel
theorem dX2_hopsBetween_13 : decode cX2_hopsBetween 13 = .ok (.ireturn, 1) := by decide +kernel
theorem dX2_hopsBetween_14 : decode cX2_hopsBetween 14 = .ok (.iconst 0, 1) := by decide +kernel
theorem dX2_hopsBetween_15 : decode cX2_hopsBetween 15 = .ok (.istore_n 2, 1) := by decide +kernel
theorem dX2_hopsBetween_16 : decode cX2_hopsBetween 16 = .ok (.iload_n 0, 1) := by decide +kernel
theorem dX2_hopsBetween_17 : decode cX2_hopsBetween 17 = .ok (.istore_n 3, 1) := by decide +kernel
theorem dX2_hopsBetween_18 : decode cX2_hopsBetween 18 = .ok (.iload_n 1, 1) := by decide +kernel
theorem dX2_hopsBetween_19 : decode cX2_hopsBetween 19 = .ok (.istore 4, 2) := by decide +kernel
theorem dX2_hopsBetween_21 : decode cX2_hopsBetween 21 = .ok (.iconst 0, 1) := by decide +kernel
theorem dX2_hopsBetween_22 : decode cX2_hopsBetween 22 = .ok (.istore 5, 2) := by decide +kernel
theorem dX2_hopsBetween_24 : decode cX2_hopsBetween 24 = .ok (.iload 5, 2) := by decide +kernel
theorem dX2_hopsBetween_26 : decode cX2_hopsBetween 26 = .ok (.bipush 8, 2) := by decide +kernel
theorem dX2_hopsBetween_28 : decode cX2_hopsBetween 28 = .ok (.if_icmp .ge 53, 3) := by decide +kernel
theorem dX2_hopsBetween_31 : decode cX2_hopsBetween 31 = .ok (.iload_n 3, 1) := by decide +kernel
theorem dX2_hopsBetween_32 : decode cX2_hopsBetween 32 = .ok (.ifCond .eq 49, 3) := by decide +kernel
theorem dX2_hopsBetween_35 : decode cX2_hopsBetween 35 = .ok (.iload 4, 2) := by decide +kernel
theorem dX2_hopsBetween_37 : decode cX2_hopsBetween 37 = .ok (.invokestatic 37, 3) := by decide +kernel
theorem dX2_hopsBetween_40 : decode cX2_hopsBetween 40 = .ok (.iload_n 3, 1) := by decide +kernel
theorem dX2_hopsBetween_41 : decode cX2_hopsBetween 41 = .ok (.invokestatic 37, 3) := by decide +kernel
theorem dX2_hopsBetween_44 : decode cX2_hopsBetween 44 = .ok (.isub, 1) := by decide +kernel
theorem dX2_hopsBetween_45 : decode cX2_hopsBetween 45 = .ok (.istore 6, 2) := by decide +kernel
theorem dX2_hopsBetween_47 : decode cX2_hopsBetween 47 = .ok (.iload 6, 2) := by decide +kernel
theorem dX2_hopsBetween_49 : decode cX2_hopsBetween 49 = .ok (.ifCond .ge 6, 3) := by decide +kernel
theorem dX2_hopsBetween_52 : decode cX2_hopsBetween 52 = .ok (.bipush (-4), 2) := by decide +kernel
theorem dX2_hopsBetween_54 : decode cX2_hopsBetween 54 = .ok (.ireturn, 1) := by decide +kernel
theorem dX2_hopsBetween_55 : decode cX2_hopsBetween 55 = .ok (.iload_n 2, 1) := by decide +kernel
theorem dX2_hopsBetween_56 : decode cX2_hopsBetween 56 = .ok (.iload 6, 2) := by decide +kernel
theorem dX2_hopsBetween_58 : decode cX2_hopsBetween 58 = .ok (.iadd, 1) := by decide +kernel
theorem dX2_hopsBetween_59 : decode cX2_hopsBetween 59 = .ok (.istore_n 2, 1) := by decide +kernel
theorem dX2_hopsBetween_60 : decode cX2_hopsBetween 60 = .ok (.iload_n 3, 1) := by decide +kernel
theorem dX2_hopsBetween_61 : decode cX2_hopsBetween 61 = .ok (.iload_n 3, 1) := by decide +kernel
theorem dX2_hopsBetween_62 : decode cX2_hopsBetween 62 = .ok (.iconst 1, 1) := by decide +kernel
theorem dX2_hopsBetween_63 : decode cX2_hopsBetween 63 = .ok (.isub, 1) := by decide +kernel
theorem dX2_hopsBetween_64 : decode cX2_hopsBetween 64 = .ok (.iand, 1) := by decide +kernel
theorem dX2_hopsBetween_65 : decode cX2_hopsBetween 65 = .ok (.istore_n 3, 1) := by decide +kernel
theorem dX2_hopsBetween_66 : decode cX2_hopsBetween 66 = .ok (.iload 4, 2) := by decide +kernel
theorem dX2_hopsBetween_68 : decode cX2_hopsBetween 68 = .ok (.iload 4, 2) := by decide +kernel
theorem dX2_hopsBetween_70 : decode cX2_hopsBetween 70 = .ok (.iconst 1, 1) := by decide +kernel
theorem dX2_hopsBetween_71 : decode cX2_hopsBetween 71 = .ok (.isub, 1) := by decide +kernel
theorem dX2_hopsBetween_72 : decode cX2_hopsBetween 72 = .ok (.iand, 1) := by decide +kernel
theorem dX2_hopsBetween_73 : decode cX2_hopsBetween 73 = .ok (.istore 4, 2) := by decide +kernel
theorem dX2_hopsBetween_75 : decode cX2_hopsBetween 75 = .ok (.iinc 5 1, 3) := by decide +kernel
theorem dX2_hopsBetween_78 : decode cX2_hopsBetween 78 = .ok (.goto (-54), 3) := by decide +kernel
theorem dX2_hopsBetween_81 : decode cX2_hopsBetween 81 = .ok (.iload_n 2, 1) := by decide +kernel
theorem dX2_hopsBetween_82 : decode cX2_hopsBetween 82 = .ok (.ireturn, 1) := by decide +kernel
theorem dX2_ordersBetween_0 : decode cX2_ordersBetween 0 = .ok (.iload_n 1, 1) := by decide +kernel
theorem dX2_ordersBetween_1 : decode cX2_ordersBetween 1 = .ok (.invokestatic 40, 3) := by decide +kernel
theorem dX2_ordersBetween_4 : decode cX2_ordersBetween 4 = .ok (.ifCond .eq 15, 3) := by decide +kernel
theorem dX2_ordersBetween_7 : decode cX2_ordersBetween 7 = .ok (.iload_n 2, 1) := by decide +kernel
theorem dX2_ordersBetween_8 : decode cX2_ordersBetween 8 = .ok (.invokestatic 40, 3) := by decide +kernel
theorem dX2_ordersBetween_11 : decode cX2_ordersBetween 11 = .ok (.ifCond .eq 8, 3) := by decide +kernel
theorem dX2_ordersBetween_14 : decode cX2_ordersBetween 14 = .ok (.iload_n 1, 1) := by decide +kernel
theorem dX2_ordersBetween_15 : decode cX2_ordersBetween 15 = .ok (.iload_n 2, 1) := by decide +kernel
theorem dX2_ordersBetween_16 : decode cX2_ordersBetween 16 = .ok (.if_icmp .le 5, 3) := by decide +kernel
theorem dX2_ordersBetween_19 : decode cX2_ordersBetween 19 = .ok (.lconst 0, 1) := by decide +kernel
theorem dX2_ordersBetween_20 : decode cX2_ordersBetween 20 = .ok (.lreturn, 1) := by decide +kernel
theorem dX2_ordersBetween_21 : decode cX2_ordersBetween 21 = .ok (.iload_n 1, 1) := by decide +kernel
theorem dX2_ordersBetween_22 : decode cX2_ordersBetween 22 = .ok (.istore_n 3, 1) := by decide +kernel
theorem dX2_ordersBetween_23 : decode cX2_ordersBetween 23 = .ok (.iload_n 3, 1) := by decide +kernel
theorem dX2_ordersBetween_24 : decode cX2_ordersBetween 24 = .ok (.iload_n 2, 1) := by decide +kernel
theorem dX2_ordersBetween_25 : decode cX2_ordersBetween 25 = .ok (.if_icmp .gt 25, 3) := by decide +kernel
theorem dX2_ordersBetween_28 : decode cX2_ordersBetween 28 = .ok (.iload_n 3, 1) := by decide +kernel
theorem dX2_ordersBetween_29 : decode cX2_ordersBetween 29 = .ok (.aload_n 0, 1) := by decide +kernel
theorem dX2_ordersBetween_30 : decode cX2_ordersBetween 30 = .ok (.getfield 11, 3) := by decide +kernel
theorem dX2_ordersBetween_33 : decode cX2_ordersBetween 33 = .ok (.arraylength, 1) := by decide +kernel
theorem dX2_ordersBetween_34 : decode cX2_ordersBetween 34 = .ok (.if_icmp .ge 16, 3) := by decide +kernel
theorem dX2_ordersBetween_37 : decode cX2_ordersBetween 37 = .ok (.aload_n 0, 1) := by decide +kernel
theorem dX2_ordersBetween_38 : decode cX2_ordersBetween 38 = .ok (.getfield 11, 3) := by decide +kernel
theorem dX2_ordersBetween_41 : decode cX2_ordersBetween 41 = .ok (.iload_n 3, 1) := by decide +kernel
theorem dX2_ordersBetween_42 : decode cX2_ordersBetween 42 = .ok (.lconst 0, 1) := by decide +kernel
theorem dX2_ordersBetween_43 : decode cX2_ordersBetween 43 = .ok (.lastore, 1) := by decide +kernel
theorem dX2_ordersBetween_44 : decode cX2_ordersBetween 44 = .ok (.iinc 3 1, 3) := by decide +kernel
theorem dX2_ordersBetween_47 : decode cX2_ordersBetween 47 = .ok (.goto (-24), 3) := by decide +kernel
theorem dX2_ordersBetween_50 : decode cX2_ordersBetween 50 = .ok (.aload_n 0, 1) := by decide +kernel
theorem dX2_ordersBetween_51 : decode cX2_ordersBetween 51 = .ok (.getfield 11, 3) := by decide +kernel
theorem dX2_ordersBetween_54 : decode cX2_ordersBetween 54 = .ok (.iload_n 1, 1) := by decide +kernel
theorem dX2_ordersBetween_55 : decode cX2_ordersBetween 55 = .ok (.lconst 1, 1) := by decide +kernel
theorem dX2_ordersBetween_56 : decode cX2_ordersBetween 56 = .ok (.lastore, 1) := by decide +kernel
theorem dX2_ordersBetween_57 : decode cX2_ordersBetween 57 = .ok (.iload_n 1, 1) := by decide +kernel
theorem dX2_ordersBetween_58 : decode cX2_ordersBetween 58 = .ok (.istore_n 3, 1) := by decide +kernel
theorem dX2_ordersBetween_59 : decode cX2_ordersBetween 59 = .ok (.iload_n 3, 1) := by decide +kernel
theorem dX2_ordersBetween_60 : decode cX2_ordersBetween 60 = .ok (.iload_n 2, 1) := by decide +kernel
theorem dX2_ordersBetween_61 : decode cX2_ordersBetween 61 = .ok (.if_icmp .ge 35, 3) := by decide +kernel
theorem dX2_ordersBetween_64 : decode cX2_ordersBetween 64 = .ok (.iload_n 3, 1) := by decide +kernel
theorem dX2_ordersBetween_65 : decode cX2_ordersBetween 65 = .ok (.aload_n 0, 1) := by decide +kernel
theorem dX2_ordersBetween_66 : decode cX2_ordersBetween 66 = .ok (.getfield 11, 3) := by decide +kernel
theorem dX2_ordersBetween_69 : decode cX2_ordersBetween 69 = .ok (.arraylength, 1) := by decide +kernel
theorem dX2_ordersBetween_70 : decode cX2_ordersBetween 70 = .ok (.if_icmp .ge 26, 3) := by decide +kernel
theorem dX2_ordersBetween_73 : decode cX2_ordersBetween 73 = .ok (.aload_n 0, 1) := by decide +kernel
theorem dX2_ordersBetween_74 : decode cX2_ordersBetween 74 = .ok (.getfield 11, 3) := by decide +kernel
theorem dX2_ordersBetween_77 : decode cX2_ordersBetween 77 = .ok (.iload_n 3, 1) := by decide +kernel
theorem dX2_ordersBetween_78 : decode cX2_ordersBetween 78 = .ok (.laload, 1) := by decide +kernel
theorem dX2_ordersBetween_79 : decode cX2_ordersBetween 79 = .ok (.lconst 0, 1) := by decide +kernel
theorem dX2_ordersBetween_80 : decode cX2_ordersBetween 80 = .ok (.lcmp, 1) := by decide +kernel
theorem dX2_ordersBetween_81 : decode cX2_ordersBetween 81 = .ok (.ifCond .eq 9, 3) := by decide +kernel
theorem dX2_ordersBetween_84 : decode cX2_ordersBetween 84 = .ok (.aload_n 0, 1) := by decide +kernel
theorem dX2_ordersBetween_85 : decode cX2_ordersBetween 85 = .ok (.iload_n 3, 1) := by decide +kernel
theorem dX2_ordersBetween_86 : decode cX2_ordersBetween 86 = .ok (.iload_n 2, 1) := by decide +kernel
theorem dX2_ordersBetween_87 : decode cX2_ordersBetween 87 = .ok (.invokevirtual 44, 3) := by decide +kernel
theorem dX2_ordersBetween_90 : decode cX2_ordersBetween 90 = .ok (.iinc 3 1, 3) := by decide +kernel
theorem dX2_ordersBetween_93 : decode cX2_ordersBetween 93 = .ok (.goto (-34), 3) := by decide +kernel
theorem dX2_ordersBetween_96 : decode cX2_ordersBetween 96 = .ok (.aload_n 0, 1) := by decide +kernel
theorem dX2_ordersBetween_97 : decode cX2_ordersBetween 97 = .ok (.getfield 11, 3) := by decide +kernel
theorem dX2_ordersBetween_100 : decode cX2_ordersBetween 100 = .ok (.iload_n 2, 1) := by decide +kernel
theorem dX2_ordersBetween_101 : decode cX2_ordersBetween 101 = .ok (.laload, 1) := by decide +kernel
theorem dX2_ordersBetween_102 : decode cX2_ordersBetween 102 = .ok (.lreturn, 1) := by decide +kernel
theorem dX2_passOn_0 : decode cX2_passOn 0 = .ok (.iconst 0, 1) := by decide +kernel
theorem dX2_passOn_1 : decode cX2_passOn 1 = .ok (.istore_n 3, 1) := by decide +kernel
theorem dX2_passOn_2 : decode cX2_passOn 2 = .ok (.iload_n 3, 1) := by decide +kernel
theorem dX2_passOn_3 : decode cX2_passOn 3 = .ok (.iconst 1, 1) := by decide +kernel
theorem dX2_passOn_4 : decode cX2_passOn 4 = .ok (.iadd, 1) := by decide +kernel
theorem dX2_passOn_5 : decode cX2_passOn 5 = .ok (.bipush 8, 2) := by decide +kernel
theorem dX2_passOn_7 : decode cX2_passOn 7 = .ok (.if_icmp .ge 69, 3) := by decide +kernel
theorem dX2_passOn_10 : decode cX2_passOn 10 = .ok (.iload_n 1, 1) := by decide +kernel
theorem dX2_passOn_11 : decode cX2_passOn 11 = .ok (.iconst 1, 1) := by decide +kernel
theorem dX2_passOn_12 : decode cX2_passOn 12 = .ok (.iload_n 3, 1) := by decide +kernel
theorem dX2_passOn_13 : decode cX2_passOn 13 = .ok (.ishl, 1) := by decide +kernel
theorem dX2_passOn_14 : decode cX2_passOn 14 = .ok (.iadd, 1) := by decide +kernel
theorem dX2_passOn_15 : decode cX2_passOn 15 = .ok (.istore 4, 2) := by decide +kernel
theorem dX2_passOn_17 : decode cX2_passOn 17 = .ok (.iload_n 1, 1) := by decide +kernel
theorem dX2_passOn_18 : decode cX2_passOn 18 = .ok (.iload_n 3, 1) := by decide +kernel
theorem dX2_passOn_19 : decode cX2_passOn 19 = .ok (.ishr, 1) := by decide +kernel
theorem dX2_passOn_20 : decode cX2_passOn 20 = .ok (.iconst 3, 1) := by decide +kernel
theorem dX2_passOn_21 : decode cX2_passOn 21 = .ok (.iand, 1) := by decide +kernel
theorem dX2_passOn_22 : decode cX2_passOn 22 = .ok (.iconst 1, 1) := by decide +kernel
theorem dX2_passOn_23 : decode cX2_passOn 23 = .ok (.if_icmp .ne 7, 3) := by decide +kernel
theorem dX2_passOn_26 : decode cX2_passOn 26 = .ok (.iconst 1, 1) := by decide +kernel
theorem dX2_passOn_27 : decode cX2_passOn 27 = .ok (.goto 4, 3) := by decide +kernel
theorem dX2_passOn_30 : decode cX2_passOn 30 = .ok (.iconst 0, 1) := by decide +kernel
theorem dX2_passOn_31 : decode cX2_passOn 31 = .ok (.istore 5, 2) := by decide +kernel
theorem dX2_passOn_33 : decode cX2_passOn 33 = .ok (.iload 5, 2) := by decide +kernel
theorem dX2_passOn_35 : decode cX2_passOn 35 = .ok (.ifCond .eq 35, 3) := by decide +kernel
theorem dX2_passOn_38 : decode cX2_passOn 38 = .ok (.iload 4, 2) := by decide +kernel
theorem dX2_passOn_40 : decode cX2_passOn 40 = .ok (.iload_n 2, 1) := by decide +kernel
theorem dX2_passOn_41 : decode cX2_passOn 41 = .ok (.if_icmp .gt 29, 3) := by decide +kernel
theorem dX2_passOn_44 : decode cX2_passOn 44 = .ok (.iload 4, 2) := by decide +kernel
theorem dX2_passOn_46 : decode cX2_passOn 46 = .ok (.aload_n 0, 1) := by decide +kernel
theorem dX2_passOn_47 : decode cX2_passOn 47 = .ok (.getfield 11, 3) := by decide +kernel
theorem dX2_passOn_50 : decode cX2_passOn 50 = .ok (.arraylength, 1) := by decide +kernel
theorem dX2_passOn_51 : decode cX2_passOn 51 = .ok (.if_icmp .ge 19, 3) := by decide +kernel
theorem dX2_passOn_54 : decode cX2_passOn 54 = .ok (.aload_n 0, 1) := by decide +kernel
theorem dX2_passOn_55 : decode cX2_passOn 55 = .ok (.getfield 11, 3) := by decide +kernel
theorem dX2_passOn_58 : decode cX2_passOn 58 = .ok (.iload 4, 2) := by decide +kernel
theorem dX2_passOn_60 : decode cX2_passOn 60 = .ok (.dup2, 1) := by decide +kernel
theorem dX2_passOn_61 : decode cX2_passOn 61 = .ok (.laload, 1) := by decide +kernel
theorem dX2_passOn_62 : decode cX2_passOn 62 = .ok (.aload_n 0, 1) := by decide +kernel
theorem dX2_passOn_63 : decode cX2_passOn 63 = .ok (.getfield 11, 3) := by decide +kernel
theorem dX2_passOn_66 : decode cX2_passOn 66 = .ok (.iload_n 1, 1) := by decide +kernel
theorem dX2_passOn_67 : decode cX2_passOn 67 = .ok (.laload, 1) := by decide +kernel
theorem dX2_passOn_68 : decode cX2_passOn 68 = .ok (.ladd, 1) := by decide +kernel
theorem dX2_passOn_69 : decode cX2_passOn 69 = .ok (.lastore, 1) := by decide +kernel
theorem dX2_passOn_70 : decode cX2_passOn 70 = .ok (.iinc 3 1, 3) := by decide +kernel
theorem dX2_passOn_73 : decode cX2_passOn 73 = .ok (.goto (-71), 3) := by decide +kernel
theorem dX2_passOn_76 : decode cX2_passOn 76 = .ok (.return_, 1) := by decide +kernel
theorem dX2_waysBetween_0 : decode cX2_waysBetween 0 = .ok (.iload_n 1, 1) := by decide +kernel
theorem dX2_waysBetween_1 : decode cX2_waysBetween 1 = .ok (.invokestatic 31, 3) := by decide +kernel
theorem dX2_waysBetween_4 : decode cX2_waysBetween 4 = .ok (.istore 4, 2) := by decide +kernel
theorem dX2_waysBetween_6 : decode cX2_waysBetween 6 = .ok (.iload 4, 2) := by decide +kernel
theorem dX2_waysBetween_8 : decode cX2_waysBetween 8 = .ok (.iconst 4, 1) := by decide +kernel
theorem dX2_waysBetween_9 : decode cX2_waysBetween 9 = .ok (.if_icmp .gt 12, 3) := by decide +kernel
theorem dX2_waysBetween_12 : decode cX2_waysBetween 12 = .ok (.iload 4, 2) := by decide +kernel
theorem dX2_waysBetween_14 : decode cX2_waysBetween 14 = .ok (.iload_n 2, 1) := by decide +kernel
theorem dX2_waysBetween_15 : decode cX2_waysBetween 15 = .ok (.invokestatic 31, 3) := by decide +kernel
theorem dX2_waysBetween_18 : decode cX2_waysBetween 18 = .ok (.if_icmp .eq 5, 3) := by decide +kernel
theorem dX2_waysBetween_21 : decode cX2_waysBetween 21 = .ok (.lconst 0, 1) := by decide +kernel
theorem dX2_waysBetween_22 : decode cX2_waysBetween 22 = .ok (.lreturn, 1) := by decide +kernel
theorem dX2_waysBetween_23 : decode cX2_waysBetween 23 = .ok (.iload_n 1, 1) := by decide +kernel
theorem dX2_waysBetween_24 : decode cX2_waysBetween 24 = .ok (.iconst 0, 1) := by decide +kernel
theorem dX2_waysBetween_25 : decode cX2_waysBetween 25 = .ok (.aload_n 0, 1) := by decide +kernel
theorem dX2_waysBetween_26 : decode cX2_waysBetween 26 = .ok (.getfield 21, 3) := by decide +kernel
theorem dX2_waysBetween_29 : decode cX2_waysBetween 29 = .ok (.invokestatic 48, 3) := by decide +kernel
theorem dX2_waysBetween_32 : decode cX2_waysBetween 32 = .ok (.iload_n 2, 1) := by decide +kernel
theorem dX2_waysBetween_33 : decode cX2_waysBetween 33 = .ok (.iload_n 3, 1) := by decide +kernel
theorem dX2_waysBetween_34 : decode cX2_waysBetween 34 = .ok (.iconst 1, 1) := by decide +kernel
theorem dX2_waysBetween_35 : decode cX2_waysBetween 35 = .ok (.iand, 1) := by decide +kernel
theorem dX2_waysBetween_36 : decode cX2_waysBetween 36 = .ok (.aload_n 0, 1) := by decide +kernel
theorem dX2_waysBetween_37 : decode cX2_waysBetween 37 = .ok (.getfield 25, 3) := by decide +kernel
theorem dX2_waysBetween_40 : decode cX2_waysBetween 40 = .ok (.invokestatic 48, 3) := by decide +kernel
theorem dX2_waysBetween_43 : decode cX2_waysBetween 43 = .ok (.iconst 0, 1) := by decide +kernel
theorem dX2_waysBetween_44 : decode cX2_waysBetween 44 = .ok (.istore 5, 2) := by decide +kernel
theorem dX2_waysBetween_46 : decode cX2_waysBetween 46 = .ok (.iload 5, 2) := by decide +kernel
theorem dX2_waysBetween_48 : decode cX2_waysBetween 48 = .ok (.iload 4, 2) := by decide +kernel
theorem dX2_waysBetween_50 : decode cX2_waysBetween 50 = .ok (.if_icmp .ge 81, 3) := by decide +kernel
theorem dX2_waysBetween_53 : decode cX2_waysBetween 53 = .ok (.iload 5, 2) := by decide +kernel
theorem dX2_waysBetween_55 : decode cX2_waysBetween 55 = .ok (.aload_n 0, 1) := by decide +kernel
theorem dX2_waysBetween_56 : decode cX2_waysBetween 56 = .ok (.getfield 21, 3) := by decide +kernel
theorem dX2_waysBetween_59 : decode cX2_waysBetween 59 = .ok (.arraylength, 1) := by decide +kernel
theorem dX2_waysBetween_60 : decode cX2_waysBetween 60 = .ok (.if_icmp .ge 71, 3) := by decide +kernel
theorem dX2_waysBetween_63 : decode cX2_waysBetween 63 = .ok (.aload_n 0, 1) := by decide +kernel
theorem dX2_waysBetween_64 : decode cX2_waysBetween 64 = .ok (.aload_n 0, 1) := by decide +kernel
theorem dX2_waysBetween_65 : decode cX2_waysBetween 65 = .ok (.getfield 21, 3) := by decide +kernel
theorem dX2_waysBetween_68 : decode cX2_waysBetween 68 = .ok (.iload 5, 2) := by decide +kernel
theorem dX2_waysBetween_70 : decode cX2_waysBetween 70 = .ok (.iaload, 1) := by decide +kernel
theorem dX2_waysBetween_71 : decode cX2_waysBetween 71 = .ok (.iload_n 3, 1) := by decide +kernel
theorem dX2_waysBetween_72 : decode cX2_waysBetween 72 = .ok (.invokevirtual 52, 3) := by decide +kernel
theorem dX2_waysBetween_75 : decode cX2_waysBetween 75 = .ok (.iconst 0, 1) := by decide +kernel
theorem dX2_waysBetween_76 : decode cX2_waysBetween 76 = .ok (.istore 6, 2) := by decide +kernel
theorem dX2_waysBetween_78 : decode cX2_waysBetween 78 = .ok (.iload 6, 2) := by decide +kernel
theorem dX2_waysBetween_80 : decode cX2_waysBetween 80 = .ok (.iload 4, 2) := by decide +kernel
theorem dX2_waysBetween_82 : decode cX2_waysBetween 82 = .ok (.if_icmp .ge 43, 3) := by decide +kernel
theorem dX2_waysBetween_85 : decode cX2_waysBetween 85 = .ok (.iload 6, 2) := by decide +kernel
theorem dX2_waysBetween_87 : decode cX2_waysBetween 87 = .ok (.aload_n 0, 1) := by decide +kernel
theorem dX2_waysBetween_88 : decode cX2_waysBetween 88 = .ok (.getfield 25, 3) := by decide +kernel
theorem dX2_waysBetween_91 : decode cX2_waysBetween 91 = .ok (.arraylength, 1) := by decide +kernel
theorem dX2_waysBetween_92 : decode cX2_waysBetween 92 = .ok (.if_icmp .ge 33, 3) := by decide +kernel
theorem dX2_waysBetween_95 : decode cX2_waysBetween 95 = .ok (.aload_n 0, 1) := by decide +kernel
theorem dX2_waysBetween_96 : decode cX2_waysBetween 96 = .ok (.getfield 28, 3) := by decide +kernel
theorem dX2_waysBetween_99 : decode cX2_waysBetween 99 = .ok (.iload 5, 2) := by decide +kernel
theorem dX2_waysBetween_101 : decode cX2_waysBetween 101 = .ok (.iload 4, 2) := by decide +kernel
theorem dX2_waysBetween_103 : decode cX2_waysBetween 103 = .ok (.imul, 1) := by decide +kernel
theorem dX2_waysBetween_104 : decode cX2_waysBetween 104 = .ok (.iload 6, 2) := by decide +kernel
theorem dX2_waysBetween_106 : decode cX2_waysBetween 106 = .ok (.iadd, 1) := by decide +kernel
theorem dX2_waysBetween_107 : decode cX2_waysBetween 107 = .ok (.aload_n 0, 1) := by decide +kernel
theorem dX2_waysBetween_108 : decode cX2_waysBetween 108 = .ok (.aload_n 0, 1) := by decide +kernel
theorem dX2_waysBetween_109 : decode cX2_waysBetween 109 = .ok (.getfield 25, 3) := by decide +kernel
theorem dX2_waysBetween_112 : decode cX2_waysBetween 112 = .ok (.iload 6, 2) := by decide +kernel
theorem dX2_waysBetween_114 : decode cX2_waysBetween 114 = .ok (.iaload, 1) := by decide +kernel
theorem dX2_waysBetween_115 : decode cX2_waysBetween 115 = .ok (.invokevirtual 55, 3) := by decide +kernel
theorem dX2_waysBetween_118 : decode cX2_waysBetween 118 = .ok (.lastore, 1) := by decide +kernel
theorem dX2_waysBetween_119 : decode cX2_waysBetween 119 = .ok (.iinc 6 1, 3) := by decide +kernel
theorem dX2_waysBetween_122 : decode cX2_waysBetween 122 = .ok (.goto (-44), 3) := by decide +kernel
theorem dX2_waysBetween_125 : decode cX2_waysBetween 125 = .ok (.iinc 5 1, 3) := by decide +kernel
theorem dX2_waysBetween_128 : decode cX2_waysBetween 128 = .ok (.goto (-82), 3) := by decide +kernel
theorem dX2_waysBetween_131 : decode cX2_waysBetween 131 = .ok (.aload_n 0, 1) := by decide +kernel
theorem dX2_waysBetween_132 : decode cX2_waysBetween 132 = .ok (.getfield 28, 3) := by decide +kernel
theorem dX2_waysBetween_135 : decode cX2_waysBetween 135 = .ok (.iload 4, 2) := by decide +kernel
theorem dX2_waysBetween_137 : decode cX2_waysBetween 137 = .ok (.invokestatic 59, 3) := by decide +kernel
theorem dX2_waysBetween_140 : decode cX2_waysBetween 140 = .ok (.lreturn, 1) := by decide +kernel
theorem dX2_listPlaces_0 : decode cX2_listPlaces 0 = .ok (.iconst 0, 1) := by decide +kernel
theorem dX2_listPlaces_1 : decode cX2_listPlaces 1 = .ok (.istore_n 3, 1) := by decide +kernel
theorem dX2_listPlaces_2 : decode cX2_listPlaces 2 = .ok (.iconst 0, 1) := by decide +kernel
theorem dX2_listPlaces_3 : decode cX2_listPlaces 3 = .ok (.istore 4, 2) := by decide +kernel
theorem dX2_listPlaces_5 : decode cX2_listPlaces 5 = .ok (.iload 4, 2) := by decide +kernel
theorem dX2_listPlaces_7 : decode cX2_listPlaces 7 = .ok (.iconst 2, 1) := by decide +kernel
theorem dX2_listPlaces_8 : decode cX2_listPlaces 8 = .ok (.if_icmp .ge 52, 3) := by decide +kernel
theorem dX2_listPlaces_11 : decode cX2_listPlaces 11 = .ok (.iload_n 1, 1) := by decide +kernel
theorem dX2_listPlaces_12 : decode cX2_listPlaces 12 = .ok (.iload 4, 2) := by decide +kernel
theorem dX2_listPlaces_14 : decode cX2_listPlaces 14 = .ok (.ixor, 1) := by decide +kernel
theorem dX2_listPlaces_15 : decode cX2_listPlaces 15 = .ok (.istore 5, 2) := by decide +kernel
theorem dX2_listPlaces_17 : decode cX2_listPlaces 17 = .ok (.iload 5, 2) := by decide +kernel
theorem dX2_listPlaces_19 : decode cX2_listPlaces 19 = .ok (.bipush 12, 2) := by decide +kernel
theorem dX2_listPlaces_21 : decode cX2_listPlaces 21 = .ok (.if_icmp .ge 33, 3) := by decide +kernel
theorem dX2_listPlaces_24 : decode cX2_listPlaces 24 = .ok (.iload_n 0, 1) := by decide +kernel
theorem dX2_listPlaces_25 : decode cX2_listPlaces 25 = .ok (.iload 5, 2) := by decide +kernel
theorem dX2_listPlaces_27 : decode cX2_listPlaces 27 = .ok (.ishr, 1) := by decide +kernel
theorem dX2_listPlaces_28 : decode cX2_listPlaces 28 = .ok (.iconst 1, 1) := by decide +kernel
theorem dX2_listPlaces_29 : decode cX2_listPlaces 29 = .ok (.iand, 1) := by decide +kernel
theorem dX2_listPlaces_30 : decode cX2_listPlaces 30 = .ok (.iconst 1, 1) := by decide +kernel
theorem dX2_listPlaces_31 : decode cX2_listPlaces 31 = .ok (.if_icmp .ne 17, 3) := by decide +kernel
theorem dX2_listPlaces_34 : decode cX2_listPlaces 34 = .ok (.iload_n 3, 1) := by decide +kernel
theorem dX2_listPlaces_35 : decode cX2_listPlaces 35 = .ok (.aload_n 2, 1) := by decide +kernel
theorem dX2_listPlaces_36 : decode cX2_listPlaces 36 = .ok (.arraylength, 1) := by decide +kernel
theorem dX2_listPlaces_37 : decode cX2_listPlaces 37 = .ok (.if_icmp .ge 11, 3) := by decide +kernel
theorem dX2_listPlaces_40 : decode cX2_listPlaces 40 = .ok (.aload_n 2, 1) := by decide +kernel
theorem dX2_listPlaces_41 : decode cX2_listPlaces 41 = .ok (.iload_n 3, 1) := by decide +kernel
theorem dX2_listPlaces_42 : decode cX2_listPlaces 42 = .ok (.iload 5, 2) := by decide +kernel
theorem dX2_listPlaces_44 : decode cX2_listPlaces 44 = .ok (.iastore, 1) := by decide +kernel
theorem dX2_listPlaces_45 : decode cX2_listPlaces 45 = .ok (.iinc 3 1, 3) := by decide +kernel
theorem dX2_listPlaces_48 : decode cX2_listPlaces 48 = .ok (.iinc 5 2, 3) := by decide +kernel
theorem dX2_listPlaces_51 : decode cX2_listPlaces 51 = .ok (.goto (-34), 3) := by decide +kernel
theorem dX2_listPlaces_54 : decode cX2_listPlaces 54 = .ok (.iinc 4 1, 3) := by decide +kernel
theorem dX2_listPlaces_57 : decode cX2_listPlaces 57 = .ok (.goto (-52), 3) := by decide +kernel
theorem dX2_listPlaces_60 : decode cX2_listPlaces 60 = .ok (.return_, 1) := by decide +kernel
theorem dX2_walkFrom_0 : decode cX2_walkFrom 0 = .ok (.iconst 0, 1) := by decide +kernel
theorem dX2_walkFrom_1 : decode cX2_walkFrom 1 = .ok (.istore_n 3, 1) := by decide +kernel
theorem dX2_walkFrom_2 : decode cX2_walkFrom 2 = .ok (.iload_n 3, 1) := by decide +kernel
theorem dX2_walkFrom_3 : decode cX2_walkFrom 3 = .ok (.aload_n 0, 1) := by decide +kernel
theorem dX2_walkFrom_4 : decode cX2_walkFrom 4 = .ok (.getfield 15, 3) := by decide +kernel
theorem dX2_walkFrom_7 : decode cX2_walkFrom 7 = .ok (.arraylength, 1) := by decide +kernel
theorem dX2_walkFrom_8 : decode cX2_walkFrom 8 = .ok (.if_icmp .ge 25, 3) := by decide +kernel
theorem dX2_walkFrom_11 : decode cX2_walkFrom 11 = .ok (.aload_n 0, 1) := by decide +kernel
theorem dX2_walkFrom_12 : decode cX2_walkFrom 12 = .ok (.getfield 15, 3) := by decide +kernel
theorem dX2_walkFrom_15 : decode cX2_walkFrom 15 = .ok (.iload_n 3, 1) := by decide +kernel
theorem dX2_walkFrom_16 : decode cX2_walkFrom 16 = .ok (.iload_n 3, 1) := by decide +kernel
theorem dX2_walkFrom_17 : decode cX2_walkFrom 17 = .ok (.iload_n 1, 1) := by decide +kernel
theorem dX2_walkFrom_18 : decode cX2_walkFrom 18 = .ok (.if_icmp .ne 7, 3) := by decide +kernel
theorem dX2_walkFrom_21 : decode cX2_walkFrom 21 = .ok (.lconst 1, 1) := by decide +kernel
theorem dX2_walkFrom_22 : decode cX2_walkFrom 22 = .ok (.goto 4, 3) := by decide +kernel
theorem dX2_walkFrom_25 : decode cX2_walkFrom 25 = .ok (.lconst 0, 1) := by decide +kernel
theorem dX2_walkFrom_26 : decode cX2_walkFrom 26 = .ok (.lastore, 1) := by decide +kernel
theorem dX2_walkFrom_27 : decode cX2_walkFrom 27 = .ok (.iinc 3 1, 3) := by decide +kernel
theorem dX2_walkFrom_30 : decode cX2_walkFrom 30 = .ok (.goto (-28), 3) := by decide +kernel
theorem dX2_walkFrom_33 : decode cX2_walkFrom 33 = .ok (.iconst 0, 1) := by decide +kernel
theorem dX2_walkFrom_34 : decode cX2_walkFrom 34 = .ok (.istore_n 3, 1) := by decide +kernel
theorem dX2_walkFrom_35 : decode cX2_walkFrom 35 = .ok (.iload_n 3, 1) := by decide +kernel
theorem dX2_walkFrom_36 : decode cX2_walkFrom 36 = .ok (.iload_n 2, 1) := by decide +kernel
theorem dX2_walkFrom_37 : decode cX2_walkFrom 37 = .ok (.if_icmp .ge 72, 3) := by decide +kernel
theorem dX2_walkFrom_40 : decode cX2_walkFrom 40 = .ok (.iconst 0, 1) := by decide +kernel
theorem dX2_walkFrom_41 : decode cX2_walkFrom 41 = .ok (.istore 4, 2) := by decide +kernel
theorem dX2_walkFrom_43 : decode cX2_walkFrom 43 = .ok (.iload 4, 2) := by decide +kernel
theorem dX2_walkFrom_45 : decode cX2_walkFrom 45 = .ok (.aload_n 0, 1) := by decide +kernel
theorem dX2_walkFrom_46 : decode cX2_walkFrom 46 = .ok (.getfield 18, 3) := by decide +kernel
theorem dX2_walkFrom_49 : decode cX2_walkFrom 49 = .ok (.arraylength, 1) := by decide +kernel
theorem dX2_walkFrom_50 : decode cX2_walkFrom 50 = .ok (.if_icmp .ge 33, 3) := by decide +kernel
theorem dX2_walkFrom_53 : decode cX2_walkFrom 53 = .ok (.aload_n 0, 1) := by decide +kernel
theorem dX2_walkFrom_54 : decode cX2_walkFrom 54 = .ok (.getfield 18, 3) := by decide +kernel
theorem dX2_walkFrom_57 : decode cX2_walkFrom 57 = .ok (.iload 4, 2) := by decide +kernel
theorem dX2_walkFrom_59 : decode cX2_walkFrom 59 = .ok (.aload_n 0, 1) := by decide +kernel
theorem dX2_walkFrom_60 : decode cX2_walkFrom 60 = .ok (.iload 4, 2) := by decide +kernel
theorem dX2_walkFrom_62 : decode cX2_walkFrom 62 = .ok (.iconst 1, 1) := by decide +kernel
theorem dX2_walkFrom_63 : decode cX2_walkFrom 63 = .ok (.isub, 1) := by decide +kernel
theorem dX2_walkFrom_64 : decode cX2_walkFrom 64 = .ok (.invokevirtual 55, 3) := by decide +kernel
theorem dX2_walkFrom_67 : decode cX2_walkFrom 67 = .ok (.aload_n 0, 1) := by decide +kernel
theorem dX2_walkFrom_68 : decode cX2_walkFrom 68 = .ok (.iload 4, 2) := by decide +kernel
theorem dX2_walkFrom_70 : decode cX2_walkFrom 70 = .ok (.iconst 1, 1) := by decide +kernel
theorem dX2_walkFrom_71 : decode cX2_walkFrom 71 = .ok (.iadd, 1) := by decide +kernel
theorem dX2_walkFrom_72 : decode cX2_walkFrom 72 = .ok (.invokevirtual 55, 3) := by decide +kernel
theorem dX2_walkFrom_75 : decode cX2_walkFrom 75 = .ok (.ladd, 1) := by decide +kernel
theorem dX2_walkFrom_76 : decode cX2_walkFrom 76 = .ok (.lastore, 1) := by decide +kernel
theorem dX2_walkFrom_77 : decode cX2_walkFrom 77 = .ok (.iinc 4 1, 3) := by decide +kernel
theorem dX2_walkFrom_80 : decode cX2_walkFrom 80 = .ok (.goto (-37), 3) := by decide +kernel
theorem dX2_walkFrom_83 : decode cX2_walkFrom 83 = .ok (.aload_n 0, 1) := by decide +kernel
theorem dX2_walkFrom_84 : decode cX2_walkFrom 84 = .ok (.getfield 15, 3) := by decide +kernel
theorem dX2_walkFrom_87 : decode cX2_walkFrom 87 = .ok (.astore 4, 2) := by decide +kernel
theorem dX2_walkFrom_89 : decode cX2_walkFrom 89 = .ok (.aload_n 0, 1) := by decide +kernel
theorem dX2_walkFrom_90 : decode cX2_walkFrom 90 = .ok (.aload_n 0, 1) := by decide +kernel
theorem dX2_walkFrom_91 : decode cX2_walkFrom 91 = .ok (.getfield 18, 3) := by decide +kernel
theorem dX2_walkFrom_94 : decode cX2_walkFrom 94 = .ok (.putfield 15, 3) := by decide +kernel
theorem dX2_walkFrom_97 : decode cX2_walkFrom 97 = .ok (.aload_n 0, 1) := by decide +kernel
theorem dX2_walkFrom_98 : decode cX2_walkFrom 98 = .ok (.aload 4, 2) := by decide +kernel
theorem dX2_walkFrom_100 : decode cX2_walkFrom 100 = .ok (.putfield 18, 3) := by decide +kernel
theorem dX2_walkFrom_103 : decode cX2_walkFrom 103 = .ok (.iinc 3 1, 3) := by decide +kernel
theorem dX2_walkFrom_106 : decode cX2_walkFrom 106 = .ok (.goto (-71), 3) := by decide +kernel
theorem dX2_walkFrom_109 : decode cX2_walkFrom 109 = .ok (.return_, 1) := by decide +kernel
theorem dX2_walksTo_0 : decode cX2_walksTo 0 = .ok (.iload_n 1, 1) := by decide +kernel
theorem dX2_walksTo_1 : decode cX2_walksTo 1 = .ok (.ifCond .lt 21, 3) := by decide +kernel
theorem dX2_walksTo_4 : decode cX2_walksTo 4 = .ok (.iload_n 1, 1) := by decide +kernel
theorem dX2_walksTo_5 : decode cX2_walksTo 5 = .ok (.aload_n 0, 1) := by decide +kernel
theorem dX2_walksTo_6 : decode cX2_walksTo 6 = .ok (.getfield 15, 3) := by decide +kernel
theorem dX2_walksTo_9 : decode cX2_walksTo 9 = .ok (.arraylength, 1) := by decide +kernel
theorem dX2_walksTo_10 : decode cX2_walksTo 10 = .ok (.if_icmp .ge 12, 3) := by decide +kernel
theorem dX2_walksTo_13 : decode cX2_walksTo 13 = .ok (.aload_n 0, 1) := by decide +kernel
theorem dX2_walksTo_14 : decode cX2_walksTo 14 = .ok (.getfield 15, 3) := by decide +kernel
theorem dX2_walksTo_17 : decode cX2_walksTo 17 = .ok (.iload_n 1, 1) := by decide +kernel
theorem dX2_walksTo_18 : decode cX2_walksTo 18 = .ok (.laload, 1) := by decide +kernel
theorem dX2_walksTo_19 : decode cX2_walksTo 19 = .ok (.goto 4, 3) := by decide +kernel
theorem dX2_walksTo_22 : decode cX2_walksTo 22 = .ok (.lconst 0, 1) := by decide +kernel
theorem dX2_walksTo_23 : decode cX2_walksTo 23 = .ok (.lreturn, 1) := by decide +kernel
theorem dX3_init_0 : decode cX3_init 0 = .ok (.aload_n 0, 1) := by decide +kernel
theorem dX3_init_1 : decode cX3_init 1 = .ok (.invokespecial 1, 3) := by decide +kernel
theorem dX3_init_4 : decode cX3_init 4 = .ok (.aload_n 0, 1) := by decide +kernel
theorem dX3_init_5 : decode cX3_init 5 = .ok (.bipush 64, 2) := by decide +kernel
theorem dX3_init_7 : decode cX3_init 7 = .ok (.newarray .long, 2) := by decide +kernel
theorem dX3_init_9 : decode cX3_init 9 = .ok (.putfield 9, 3) := by decide +kernel
theorem dX3_init_12 : decode cX3_init 12 = .ok (.aload_n 0, 1) := by decide +kernel
theorem dX3_init_13 : decode cX3_init 13 = .ok (.bipush 64, 2) := by decide +kernel
theorem dX3_init_15 : decode cX3_init 15 = .ok (.newarray .long, 2) := by decide +kernel
theorem dX3_init_17 : decode cX3_init 17 = .ok (.putfield 15, 3) := by decide +kernel
theorem dX3_init_20 : decode cX3_init 20 = .ok (.aload_n 0, 1) := by decide +kernel
theorem dX3_init_21 : decode cX3_init 21 = .ok (.aload_n 1, 1) := by decide +kernel
theorem dX3_init_22 : decode cX3_init 22 = .ok (.putfield 18, 3) := by decide +kernel
theorem dX3_init_25 : decode cX3_init 25 = .ok (.return_, 1) := by decide +kernel
theorem dX3_forget_0 : decode cX3_forget 0 = .ok (.aload_n 0, 1) := by decide +kernel
theorem dX3_forget_1 : decode cX3_forget 1 = .ok (.iconst 0, 1) := by decide +kernel
theorem dX3_forget_2 : decode cX3_forget 2 = .ok (.putfield 22, 3) := by decide +kernel
theorem dX3_forget_5 : decode cX3_forget 5 = .ok (.return_, 1) := by decide +kernel
theorem dX3_ready_0 : decode cX3_ready 0 = .ok (.aload_n 0, 1) := by decide +kernel
theorem dX3_ready_1 : decode cX3_ready 1 = .ok (.getfield 22, 3) := by decide +kernel
theorem dX3_ready_4 : decode cX3_ready 4 = .ok (.ifCond .ne 16, 3) := by decide +kernel
theorem dX3_ready_7 : decode cX3_ready 7 = .ok (.aload_n 0, 1) := by decide +kernel
theorem dX3_ready_8 : decode cX3_ready 8 = .ok (.iconst 1, 1) := by decide +kernel
theorem dX3_ready_9 : decode cX3_ready 9 = .ok (.putfield 22, 3) := by decide +kernel
theorem dX3_ready_12 : decode cX3_ready 12 = .ok (.aload_n 0, 1) := by decide +kernel
theorem dX3_ready_13 : decode cX3_ready 13 = .ok (.invokevirtual 26, 3) := by decide +kernel
theorem dX3_ready_16 : decode cX3_ready 16 = .ok (.aload_n 0, 1) := by decide +kernel
theorem dX3_ready_17 : decode cX3_ready 17 = .ok (.invokevirtual 29, 3) := by decide +kernel
theorem dX3_ready_20 : decode cX3_ready 20 = .ok (.aload_n 0, 1) := by decide +kernel
theorem dX3_ready_21 : decode cX3_ready 21 = .ok (.areturn, 1) := by decide +kernel
theorem dX3_reached_0 : decode cX3_reached 0 = .ok (.iload_n 1, 1) := by decide +kernel
theorem dX3_reached_1 : decode cX3_reached 1 = .ok (.ifCond .lt 21, 3) := by decide +kernel
theorem dX3_reached_4 : decode cX3_reached 4 = .ok (.iload_n 1, 1) := by decide +kernel
theorem dX3_reached_5 : decode cX3_reached 5 = .ok (.aload_n 0, 1) := by decide +kernel
theorem dX3_reached_6 : decode cX3_reached 6 = .ok (.getfield 9, 3) := by decide +kernel
theorem dX3_reached_9 : decode cX3_reached 9 = .ok (.arraylength, 1) := by decide +kernel
theorem dX3_reached_10 : decode cX3_reached 10 = .ok (.if_icmp .ge 12, 3) := by decide +kernel
theorem dX3_reached_13 : decode cX3_reached 13 = .ok (.aload_n 0, 1) := by decide +kernel
theorem dX3_reached_14 : decode cX3_reached 14 = .ok (.getfield 9, 3) := by decide +kernel
theorem dX3_reached_17 : decode cX3_reached 17 = .ok (.iload_n 1, 1) := by decide +kernel
theorem dX3_reached_18 : decode cX3_reached 18 = .ok (.laload, 1) := by decide +kernel
theorem dX3_reached_19 : decode cX3_reached 19 = .ok (.goto 4, 3) := by decide +kernel
theorem dX3_reached_22 : decode cX3_reached 22 = .ok (.lconst 0, 1) := by decide +kernel
theorem dX3_reached_23 : decode cX3_reached 23 = .ok (.lreturn, 1) := by decide +kernel
theorem dX3_partOf_0 : decode cX3_partOf 0 = .ok (.iload_n 1, 1) := by decide +kernel
theorem dX3_partOf_1 : decode cX3_partOf 1 = .ok (.ifCond .lt 21, 3) := by decide +kernel
theorem dX3_partOf_4 : decode cX3_partOf 4 = .ok (.iload_n 1, 1) := by decide +kernel
theorem dX3_partOf_5 : decode cX3_partOf 5 = .ok (.aload_n 0, 1) := by decide +kernel
theorem dX3_partOf_6 : decode cX3_partOf 6 = .ok (.getfield 15, 3) := by decide +kernel
theorem dX3_partOf_9 : decode cX3_partOf 9 = .ok (.arraylength, 1) := by decide +kernel
theorem dX3_partOf_10 : decode cX3_partOf 10 = .ok (.if_icmp .ge 12, 3) := by decide +kernel
theorem dX3_partOf_13 : decode cX3_partOf 13 = .ok (.aload_n 0, 1) := by decide +kernel
theorem dX3_partOf_14 : decode cX3_partOf 14 = .ok (.getfield 15, 3) := by decide +kernel
theorem dX3_partOf_17 : decode cX3_partOf 17 = .ok (.iload_n 1, 1) := by decide +kernel
theorem dX3_partOf_18 : decode cX3_partOf 18 = .ok (.laload, 1) := by decide +kernel
theorem dX3_partOf_19 : decode cX3_partOf 19 = .ok (.goto 4, 3) := by decide +kernel
theorem dX3_partOf_22 : decode cX3_partOf 22 = .ok (.lconst 0, 1) := by decide +kernel
theorem dX3_partOf_23 : decode cX3_partOf 23 = .ok (.lreturn, 1) := by decide +kernel
theorem dX3_isShut_0 : decode cX3_isShut 0 = .ok (.aload_n 0, 1) := by decide +kernel
theorem dX3_isShut_1 : decode cX3_isShut 1 = .ok (.iload_n 1, 1) := by decide +kernel
theorem dX3_isShut_2 : decode cX3_isShut 2 = .ok (.invokevirtual 32, 3) := by decide +kernel
theorem dX3_isShut_5 : decode cX3_isShut 5 = .ok (.aload_n 0, 1) := by decide +kernel
theorem dX3_isShut_6 : decode cX3_isShut 6 = .ok (.iload_n 1, 1) := by decide +kernel
theorem dX3_isShut_7 : decode cX3_isShut 7 = .ok (.invokevirtual 36, 3) := by decide +kernel
theorem dX3_isShut_10 : decode cX3_isShut 10 = .ok (.lcmp, 1) := by decide +kernel
theorem dX3_isShut_11 : decode cX3_isShut 11 = .ok (.ifCond .ne 7, 3) := by decide +kernel
theorem dX3_isShut_14 : decode cX3_isShut 14 = .ok (.iconst 1, 1) := by decide +kernel
theorem dX3_isShut_15 : decode cX3_isShut 15 = .ok (.goto 4, 3) := by decide +kernel
theorem dX3_isShut_18 : decode cX3_isShut 18 = .ok (.iconst 0, 1) := by decide +kernel
theorem dX3_isShut_19 : decode cX3_isShut 19 = .ok (.ireturn, 1) := by decide +kernel
theorem dX3_number_0 : decode cX3_number 0 = .ok (.iconst 0, 1) := by decide +kernel
theorem dX3_number_1 : decode cX3_number 1 = .ok (.istore_n 2, 1) := by decide +kernel
theorem dX3_number_2 : decode cX3_number 2 = .ok (.iconst 0, 1) := by decide +kernel
theorem dX3_number_3 : decode cX3_number 3 = .ok (.istore_n 3, 1) := by decide +kernel
theorem dX3_number_4 : decode cX3_number 4 = .ok (.iload_n 3, 1) := by decide +kernel
theorem dX3_number_5 : decode cX3_number 5 = .ok (.aload_n 0, 1) := by decide +kernel
theorem dX3_number_6 : decode cX3_number 6 = .ok (.getfield 18, 3) := by decide +kernel
theorem dX3_number_9 : decode cX3_number 9 = .ok (.invokevirtual 39, 3) := by decide +kernel
theorem dX3_number_12 : decode cX3_number 12 = .ok (.if_icmp .ge 32, 3) := by decide +kernel
theorem dX3_number_15 : decode cX3_number 15 = .ok (.aload_n 0, 1) := by decide +kernel
theorem dX3_number_16 : decode cX3_number 16 = .ok (.iload_n 3, 1) := by decide +kernel
theorem dX3_number_17 : decode cX3_number 17 = .ok (.invokevirtual 43, 3) := by decide +kernel
theorem dX3_number_20 : decode cX3_number 20 = .ok (.ifCond .eq 18, 3) := by decide +kernel
theorem dX3_number_23 : decode cX3_number 23 = .ok (.iload_n 1, 1) := by decide +kernel
theorem dX3_number_24 : decode cX3_number 24 = .ok (.ifCond .eq 11, 3) := by decide +kernel
theorem dX3_number_27 : decode cX3_number 27 = .ok (.aload_n 0, 1) := by decide +kernel
theorem dX3_number_28 : decode cX3_number 28 = .ok (.iload_n 3, 1) := by decide +kernel
theorem dX3_number_29 : decode cX3_number 29 = .ok (.invokevirtual 47, 3) := by decide +kernel
theorem dX3_number_32 : decode cX3_number 32 = .ok (.ifCond .eq 6, 3) := by decide +kernel
theorem dX3_number_35 : decode cX3_number 35 = .ok (.iinc 2 1, 3) := by decide +kernel
theorem dX3_number_38 : decode cX3_number 38 = .ok (.iinc 3 1, 3) := by decide +kernel
theorem dX3_number_41 : decode cX3_number 41 = .ok (.goto (-37), 3) := by decide +kernel
theorem dX3_number_44 : decode cX3_number 44 = .ok (.iload_n 2, 1) := by decide +kernel
theorem dX3_number_45 : decode cX3_number 45 = .ok (.ireturn, 1) := by decide +kernel
theorem dX3_greatestShut_0 : decode cX3_greatestShut 0 = .ok (.iconst 0, 1) := by decide +kernel
theorem dX3_greatestShut_1 : decode cX3_greatestShut 1 = .ok (.istore_n 1, 1) := by decide +kernel
theorem dX3_greatestShut_2 : decode cX3_greatestShut 2 = .ok (.iconst 0, 1) := by decide +kernel
theorem dX3_greatestShut_3 : decode cX3_greatestShut 3 = .ok (.istore_n 2, 1) := by decide +kernel
theorem dX3_greatestShut_4 : decode cX3_greatestShut 4 = .ok (.iload_n 2, 1) := by decide +kernel
theorem dX3_greatestShut_5 : decode cX3_greatestShut 5 = .ok (.aload_n 0, 1) := by decide +kernel
theorem dX3_greatestShut_6 : decode cX3_greatestShut 6 = .ok (.getfield 18, 3) := by decide +kernel
theorem dX3_greatestShut_9 : decode cX3_greatestShut 9 = .ok (.invokevirtual 39, 3) := by decide +kernel
theorem dX3_greatestShut_12 : decode cX3_greatestShut 12 = .ok (.if_icmp .ge 30, 3) := by decide +kernel
theorem dX3_greatestShut_15 : decode cX3_greatestShut 15 = .ok (.aload_n 0, 1) := by decide +kernel
theorem dX3_greatestShut_16 : decode cX3_greatestShut 16 = .ok (.iload_n 2, 1) := by decide +kernel
theorem dX3_greatestShut_17 : decode cX3_greatestShut 17 = .ok (.invokevirtual 47, 3) := by decide +kernel
theorem dX3_greatestShut_20 : decode cX3_greatestShut 20 = .ok (.ifCond .eq 16, 3) := by decide +kernel
theorem dX3_greatestShut_23 : decode cX3_greatestShut 23 = .ok (.iload_n 1, 1) := by decide +kernel
theorem dX3_greatestShut_24 : decode cX3_greatestShut 24 = .ok (.aload_n 0, 1) := by decide +kernel
theorem dX3_greatestShut_25 : decode cX3_greatestShut 25 = .ok (.iload_n 2, 1) := by decide +kernel
theorem dX3_greatestShut_26 : decode cX3_greatestShut 26 = .ok (.invokevirtual 36, 3) := by decide +kernel
theorem dX3_greatestShut_29 : decode cX3_greatestShut 29 = .ok (.invokestatic 50, 3) := by decide +kernel
theorem dX3_greatestShut_32 : decode cX3_greatestShut 32 = .ok (.invokestatic 56, 3) := by decide +kernel
theorem dX3_greatestShut_35 : decode cX3_greatestShut 35 = .ok (.istore_n 1, 1) := by decide +kernel
theorem dX3_greatestShut_36 : decode cX3_greatestShut 36 = .ok (.iinc 2 1, 3) := by decide +kernel
theorem dX3_greatestShut_39 : decode cX3_greatestShut 39 = .ok (.goto (-35), 3) := by decide +kernel
theorem dX3_greatestShut_42 : decode cX3_greatestShut 42 = .ok (.iload_n 1, 1) := by decide +kernel
theorem dX3_greatestShut_43 : decode cX3_greatestShut 43 = .ok (.ireturn, 1) := by decide +kernel
theorem dX3_isLeast_0 : decode cX3_isLeast 0 = .ok (.aload_n 0, 1) := by decide +kernel
theorem dX3_isLeast_1 : decode cX3_isLeast 1 = .ok (.iload_n 1, 1) := by decide +kernel
theorem dX3_isLeast_2 : decode cX3_isLeast 2 = .ok (.invokevirtual 36, 3) := by decide +kernel
theorem dX3_isLeast_5 : decode cX3_isLeast 5 = .ok (.invokestatic 62, 3) := by decide +kernel
theorem dX3_isLeast_8 : decode cX3_isLeast 8 = .ok (.iload_n 1, 1) := by decide +kernel
theorem dX3_isLeast_9 : decode cX3_isLeast 9 = .ok (.if_icmp .ne 7, 3) := by decide +kernel
theorem dX3_isLeast_12 : decode cX3_isLeast 12 = .ok (.iconst 1, 1) := by decide +kernel
theorem dX3_isLeast_13 : decode cX3_isLeast 13 = .ok (.goto 4, 3) := by decide +kernel
theorem dX3_isLeast_16 : decode cX3_isLeast 16 = .ok (.iconst 0, 1) := by decide +kernel
theorem dX3_isLeast_17 : decode cX3_isLeast 17 = .ok (.ireturn, 1) := by decide +kernel
theorem dX3_findReach_0 : decode cX3_findReach 0 = .ok (.aload_n 0, 1) := by decide +kernel
theorem dX3_findReach_1 : decode cX3_findReach 1 = .ok (.getfield 18, 3) := by decide +kernel
theorem dX3_findReach_4 : decode cX3_findReach 4 = .ok (.invokevirtual 39, 3) := by decide +kernel
theorem dX3_findReach_7 : decode cX3_findReach 7 = .ok (.aload_n 0, 1) := by decide +kernel
theorem dX3_findReach_8 : decode cX3_findReach 8 = .ok (.getfield 9, 3) := by decide +kernel
theorem dX3_findReach_11 : decode cX3_findReach 11 = .ok (.arraylength, 1) := by decide +kernel
theorem dX3_findReach_12 : decode cX3_findReach 12 = .ok (.invokestatic 65, 3) := by decide +kernel
theorem dX3_findReach_15 : decode cX3_findReach 15 = .ok (.istore_n 1, 1) := by decide +kernel
theorem dX3_findReach_16 : decode cX3_findReach 16 = .ok (.iconst 0, 1) := by decide +kernel
theorem dX3_findReach_17 : decode cX3_findReach 17 = .ok (.istore_n 2, 1) := by decide +kernel
theorem dX3_findReach_18 : decode cX3_findReach 18 = .ok (.iload_n 2, 1) := by decide +kernel
theorem dX3_findReach_19 : decode cX3_findReach 19 = .ok (.iload_n 1, 1) := by decide +kernel
theorem dX3_findReach_20 : decode cX3_findReach 20 = .ok (.if_icmp .ge 27, 3) := by decide +kernel
theorem dX3_findReach_23 : decode cX3_findReach 23 = .ok (.aload_n 0, 1) := by decide +kernel
theorem dX3_findReach_24 : decode cX3_findReach 24 = .ok (.getfield 9, 3) := by decide +kernel
theorem dX3_findReach_27 : decode cX3_findReach 27 = .ok (.iload_n 2, 1) := by decide +kernel
theorem dX3_findReach_28 : decode cX3_findReach 28 = .ok (.aload_n 0, 1) := by decide +kernel
theorem dX3_findReach_29 : decode cX3_findReach 29 = .ok (.getfield 18, 3) := by decide +kernel
theorem dX3_findReach_32 : decode cX3_findReach 32 = .ok (.iload_n 2, 1) := by decide +kernel
theorem dX3_findReach_33 : decode cX3_findReach 33 = .ok (.invokevirtual 68, 3) := by decide +kernel
theorem dX3_findReach_36 : decode cX3_findReach 36 = .ok (.lconst 1, 1) := by decide +kernel
theorem dX3_findReach_37 : decode cX3_findReach 37 = .ok (.iload_n 2, 1) := by decide +kernel
theorem dX3_findReach_38 : decode cX3_findReach 38 = .ok (.lshl, 1) := by decide +kernel
theorem dX3_findReach_39 : decode cX3_findReach 39 = .ok (.lor, 1) := by decide +kernel
theorem dX3_findReach_40 : decode cX3_findReach 40 = .ok (.lastore, 1) := by decide +kernel
theorem dX3_findReach_41 : decode cX3_findReach 41 = .ok (.iinc 2 1, 3) := by decide +kernel
theorem dX3_findReach_44 : decode cX3_findReach 44 = .ok (.goto (-26), 3) := by decide +kernel
theorem dX3_findReach_47 : decode cX3_findReach 47 = .ok (.iconst 0, 1) := by decide +kernel
theorem dX3_findReach_48 : decode cX3_findReach 48 = .ok (.istore_n 2, 1) := by decide +kernel
theorem dX3_findReach_49 : decode cX3_findReach 49 = .ok (.iload_n 2, 1) := by decide +kernel
theorem dX3_findReach_50 : decode cX3_findReach 50 = .ok (.iload_n 1, 1) := by decide +kernel
theorem dX3_findReach_51 : decode cX3_findReach 51 = .ok (.if_icmp .ge 52, 3) := by decide +kernel
theorem dX3_findReach_54 : decode cX3_findReach 54 = .ok (.iconst 0, 1) := by decide +kernel
theorem dX3_findReach_55 : decode cX3_findReach 55 = .ok (.istore_n 3, 1) := by decide +kernel
theorem dX3_findReach_56 : decode cX3_findReach 56 = .ok (.iload_n 3, 1) := by decide +kernel
theorem dX3_findReach_57 : decode cX3_findReach 57 = .ok (.iload_n 1, 1) := by decide +kernel
theorem dX3_findReach_58 : decode cX3_findReach 58 = .ok (.if_icmp .ge 39, 3) := by decide +kernel
theorem dX3_findReach_61 : decode cX3_findReach 61 = .ok (.aload_n 0, 1) := by decide +kernel
theorem dX3_findReach_62 : decode cX3_findReach 62 = .ok (.getfield 9, 3) := by decide +kernel
theorem dX3_findReach_65 : decode cX3_findReach 65 = .ok (.iload_n 3, 1) := by decide +kernel
theorem dX3_findReach_66 : decode cX3_findReach 66 = .ok (.laload, 1) := by decide +kernel
theorem dX3_findReach_67 : decode cX3_findReach 67 = .ok (.iload_n 2, 1) := by decide +kernel
theorem dX3_findReach_68 : decode cX3_findReach 68 = .ok (.lushr, 1) := by decide +kernel
theorem dX3_findReach_69 : decode cX3_findReach 69 = .ok (.lconst 1, 1) := by decide +kernel
theorem dX3_findReach_70 : decode cX3_findReach 70 = .ok (.land, 1) := by decide +kernel
theorem dX3_findReach_71 : decode cX3_findReach 71 = .ok (.lconst 1, 1) := by decide +kernel
theorem dX3_findReach_72 : decode cX3_findReach 72 = .ok (.lcmp, 1) := by decide +kernel
theorem dX3_findReach_73 : decode cX3_findReach 73 = .ok (.ifCond .ne 18, 3) := by decide +kernel
theorem dX3_findReach_76 : decode cX3_findReach 76 = .ok (.aload_n 0, 1) := by decide +kernel
theorem dX3_findReach_77 : decode cX3_findReach 77 = .ok (.getfield 9, 3) := by decide +kernel
theorem dX3_findReach_80 : decode cX3_findReach 80 = .ok (.iload_n 3, 1) := by decide +kernel
theorem dX3_findReach_81 : decode cX3_findReach 81 = .ok (.dup2, 1) := by decide +kernel
theorem dX3_findReach_82 : decode cX3_findReach 82 = .ok (.laload, 1) := by decide +kernel
theorem dX3_findReach_83 : decode cX3_findReach 83 = .ok (.aload_n 0, 1) := by decide +kernel
theorem dX3_findReach_84 : decode cX3_findReach 84 = .ok (.getfield 9, 3) := by decide +kernel
theorem dX3_findReach_87 : decode cX3_findReach 87 = .ok (.iload_n 2, 1) := by decide +kernel
theorem dX3_findReach_88 : decode cX3_findReach 88 = .ok (.laload, 1) := by decide +kernel
theorem dX3_findReach_89 : decode cX3_findReach 89 = .ok (.lor, 1) := by decide +kernel
theorem dX3_findReach_90 : decode cX3_findReach 90 = .ok (.lastore, 1) := by decide +kernel
theorem dX3_findReach_91 : decode cX3_findReach 91 = .ok (.iinc 3 1, 3) := by decide +kernel
theorem dX3_findReach_94 : decode cX3_findReach 94 = .ok (.goto (-38), 3) := by decide +kernel
theorem dX3_findReach_97 : decode cX3_findReach 97 = .ok (.iinc 2 1, 3) := by decide +kernel
theorem dX3_findReach_100 : decode cX3_findReach 100 = .ok (.goto (-51), 3) := by decide +kernel
theorem dX3_findReach_103 : decode cX3_findReach 103 = .ok (.return_, 1) := by decide +kernel
theorem dX3_findParts_0 : decode cX3_findParts 0 = .ok (.aload_n 0, 1) := by decide +kernel
theorem dX3_findParts_1 : decode cX3_findParts 1 = .ok (.getfield 18, 3) := by decide +kernel
theorem dX3_findParts_4 : decode cX3_findParts 4 = .ok (.invokevirtual 39, 3) := by decide +kernel
theorem dX3_findParts_7 : decode cX3_findParts 7 = .ok (.aload_n 0, 1) := by decide +kernel
theorem dX3_findParts_8 : decode cX3_findParts 8 = .ok (.getfield 9, 3) := by decide +kernel
theorem dX3_findParts_11 : decode cX3_findParts 11 = .ok (.arraylength, 1) := by decide +kernel
theorem dX3_findParts_12 : decode cX3_findParts 12 = .ok (.invokestatic 65, 3) := by decide +kernel
theorem dX3_findParts_15 : decode cX3_findParts 15 = .ok (.istore_n 1, 1) := by decide +kernel
theorem dX3_findParts_16 : decode cX3_findParts 16 = .ok (.iconst 0, 1) := by decide +kernel
theorem dX3_findParts_17 : decode cX3_findParts 17 = .ok (.istore_n 2, 1) := by decide +kernel
theorem dX3_findParts_18 : decode cX3_findParts 18 = .ok (.iload_n 2, 1) := by decide +kernel
theorem dX3_findParts_19 : decode cX3_findParts 19 = .ok (.iload_n 1, 1) := by decide +kernel
theorem dX3_findParts_20 : decode cX3_findParts 20 = .ok (.if_icmp .ge 16, 3) := by decide +kernel
theorem dX3_findParts_23 : decode cX3_findParts 23 = .ok (.aload_n 0, 1) := by decide +kernel
theorem dX3_findParts_24 : decode cX3_findParts 24 = .ok (.getfield 15, 3) := by decide +kernel
theorem dX3_findParts_27 : decode cX3_findParts 27 = .ok (.iload_n 2, 1) := by decide +kernel
theorem dX3_findParts_28 : decode cX3_findParts 28 = .ok (.lconst 0, 1) := by decide +kernel
theorem dX3_findParts_29 : decode cX3_findParts 29 = .ok (.lastore, 1) := by decide +kernel
theorem dX3_findParts_30 : decode cX3_findParts 30 = .ok (.iinc 2 1, 3) := by decide +kernel
theorem dX3_findParts_33 : decode cX3_findParts 33 = .ok (.goto (-15), 3) := by decide +kernel
theorem dX3_findParts_36 : decode cX3_findParts 36 = .ok (.iconst 0, 1) := by decide +kernel
theorem dX3_findParts_37 : decode cX3_findParts 37 = .ok (.istore_n 2, 1) := by decide +kernel
theorem dX3_findParts_38 : decode cX3_findParts 38 = .ok (.iload_n 2, 1) := by decide +kernel
theorem dX3_findParts_39 : decode cX3_findParts 39 = .ok (.iload_n 1, 1) := by decide +kernel
theorem dX3_findParts_40 : decode cX3_findParts 40 = .ok (.if_icmp .ge 26, 3) := by decide +kernel
theorem dX3_findParts_43 : decode cX3_findParts 43 = .ok (.aload_n 0, 1) := by decide +kernel
theorem dX3_findParts_44 : decode cX3_findParts 44 = .ok (.getfield 15, 3) := by decide +kernel
theorem dX3_findParts_47 : decode cX3_findParts 47 = .ok (.iload_n 2, 1) := by decide +kernel
theorem dX3_findParts_48 : decode cX3_findParts 48 = .ok (.laload, 1) := by decide +kernel
theorem dX3_findParts_49 : decode cX3_findParts 49 = .ok (.lconst 0, 1) := by decide +kernel
theorem dX3_findParts_50 : decode cX3_findParts 50 = .ok (.lcmp, 1) := by decide +kernel
theorem dX3_findParts_51 : decode cX3_findParts 51 = .ok (.ifCond .ne 9, 3) := by decide +kernel
theorem dX3_findParts_54 : decode cX3_findParts 54 = .ok (.aload_n 0, 1) := by decide +kernel
theorem dX3_findParts_55 : decode cX3_findParts 55 = .ok (.iload_n 2, 1) := by decide +kernel
theorem dX3_findParts_56 : decode cX3_findParts 56 = .ok (.iload_n 1, 1) := by decide +kernel
theorem dX3_findParts_57 : decode cX3_findParts 57 = .ok (.invokevirtual 71, 3) := by decide +kernel
theorem dX3_findParts_60 : decode cX3_findParts 60 = .ok (.iinc 2 1, 3) := by decide +kernel
theorem dX3_findParts_63 : decode cX3_findParts 63 = .ok (.goto (-25), 3) := by decide +kernel
theorem dX3_findParts_66 : decode cX3_findParts 66 = .ok (.return_, 1) := by decide +kernel
theorem dX3_spreadPart_0 : decode cX3_spreadPart 0 = .ok (.lconst 0, 1) := by decide +kernel
theorem dX3_spreadPart_1 : decode cX3_spreadPart 1 = .ok (.lstore_n 3, 1) := by decide +kernel
theorem dX3_spreadPart_2 : decode cX3_spreadPart 2 = .ok (.iload_n 1, 1) := by decide +kernel
theorem dX3_spreadPart_3 : decode cX3_spreadPart 3 = .ok (.istore 5, 2) := by decide +kernel
theorem dX3_spreadPart_5 : decode cX3_spreadPart 5 = .ok (.iload 5, 2) := by decide +kernel
theorem dX3_spreadPart_7 : decode cX3_spreadPart 7 = .ok (.iload_n 2, 1) := by decide +kernel
theorem dX3_spreadPart_8 : decode cX3_spreadPart 8 = .ok (.if_icmp .ge 33, 3) := by decide +kernel
theorem dX3_spreadPart_11 : decode cX3_spreadPart 11 = .ok (.aload_n 0, 1) := by decide +kernel
theorem dX3_spreadPart_12 : decode cX3_spreadPart 12 = .ok (.getfield 9, 3) := by decide +kernel
theorem dX3_spreadPart_15 : decode cX3_spreadPart 15 = .ok (.iload 5, 2) := by decide +kernel
theorem dX3_spreadPart_17 : decode cX3_spreadPart 17 = .ok (.laload, 1) := by decide +kernel
theorem dX3_spreadPart_18 : decode cX3_spreadPart 18 = .ok (.aload_n 0, 1) := by decide +kernel
theorem dX3_spreadPart_19 : decode cX3_spreadPart 19 = .ok (.getfield 9, 3) := by decide +kernel
theorem dX3_spreadPart_22 : decode cX3_spreadPart 22 = .ok (.iload_n 1, 1) := by decide +kernel
theorem dX3_spreadPart_23 : decode cX3_spreadPart 23 = .ok (.laload, 1) := by decide +kernel
theorem dX3_spreadPart_24 : decode cX3_spreadPart 24 = .ok (.lcmp, 1) := by decide +kernel
theorem dX3_spreadPart_25 : decode cX3_spreadPart 25 = .ok (.ifCond .ne 10, 3) := by decide +kernel
theorem dX3_spreadPart_28 : decode cX3_spreadPart 28 = .ok (.lload_n 3, 1) := by decide +kernel
theorem dX3_spreadPart_29 : decode cX3_spreadPart 29 = .ok (.lconst 1, 1) := by decide +kernel
theorem dX3_spreadPart_30 : decode cX3_spreadPart 30 = .ok (.iload 5, 2) := by decide +kernel
theorem dX3_spreadPart_32 : decode cX3_spreadPart 32 = .ok (.lshl, 1) := by decide +kernel
theorem dX3_spreadPart_33 : decode cX3_spreadPart 33 = .ok (.lor, 1) := by decide +kernel
theorem dX3_spreadPart_34 : decode cX3_spreadPart 34 = .ok (.lstore_n 3, 1) := by decide +kernel
theorem dX3_spreadPart_35 : decode cX3_spreadPart 35 = .ok (.iinc 5 1, 3) := by decide +kernel
theorem dX3_spreadPart_38 : decode cX3_spreadPart 38 = .ok (.goto (-33), 3) := by decide +kernel
theorem dX3_spreadPart_41 : decode cX3_spreadPart 41 = .ok (.iload_n 1, 1) := by decide +kernel
theorem dX3_spreadPart_42 : decode cX3_spreadPart 42 = .ok (.istore 5, 2) := by decide +kernel
theorem dX3_spreadPart_44 : decode cX3_spreadPart 44 = .ok (.iload 5, 2) := by decide +kernel
theorem dX3_spreadPart_46 : decode cX3_spreadPart 46 = .ok (.iload_n 2, 1) := by decide +kernel
theorem dX3_spreadPart_47 : decode cX3_spreadPart 47 = .ok (.if_icmp .ge 28, 3) := by decide +kernel
theorem dX3_spreadPart_50 : decode cX3_spreadPart 50 = .ok (.lload_n 3, 1) := by decide +kernel
theorem dX3_spreadPart_51 : decode cX3_spreadPart 51 = .ok (.iload 5, 2) := by decide +kernel
theorem dX3_spreadPart_53 : decode cX3_spreadPart 53 = .ok (.lushr, 1) := by decide +kernel
theorem dX3_spreadPart_54 : decode cX3_spreadPart 54 = .ok (.lconst 1, 1) := by decide +kernel
theorem dX3_spreadPart_55 : decode cX3_spreadPart 55 = .ok (.land, 1) := by decide +kernel
theorem dX3_spreadPart_56 : decode cX3_spreadPart 56 = .ok (.lconst 1, 1) := by decide +kernel
theorem dX3_spreadPart_57 : decode cX3_spreadPart 57 = .ok (.lcmp, 1) := by decide +kernel
theorem dX3_spreadPart_58 : decode cX3_spreadPart 58 = .ok (.ifCond .ne 11, 3) := by decide +kernel
theorem dX3_spreadPart_61 : decode cX3_spreadPart 61 = .ok (.aload_n 0, 1) := by decide +kernel
theorem dX3_spreadPart_62 : decode cX3_spreadPart 62 = .ok (.getfield 15, 3) := by decide +kernel
theorem dX3_spreadPart_65 : decode cX3_spreadPart 65 = .ok (.iload 5, 2) := by decide +kernel
theorem dX3_spreadPart_67 : decode cX3_spreadPart 67 = .ok (.lload_n 3, 1) := by decide +kernel
theorem dX3_spreadPart_68 : decode cX3_spreadPart 68 = .ok (.lastore, 1) := by decide +kernel
theorem dX3_spreadPart_69 : decode cX3_spreadPart 69 = .ok (.iinc 5 1, 3) := by decide +kernel
theorem dX3_spreadPart_72 : decode cX3_spreadPart 72 = .ok (.goto (-28), 3) := by decide +kernel
theorem dX3_spreadPart_75 : decode cX3_spreadPart 75 = .ok (.return_, 1) := by decide +kernel
theorem dX4_init_0 : decode cX4_init 0 = .ok (.aload_n 0, 1) := by decide +kernel
theorem dX4_init_1 : decode cX4_init 1 = .ok (.invokespecial 1, 3) := by decide +kernel
theorem dX4_init_4 : decode cX4_init 4 = .ok (.aload_n 0, 1) := by decide +kernel
theorem dX4_init_5 : decode cX4_init 5 = .ok (.bipush 8, 2) := by decide +kernel
theorem dX4_init_7 : decode cX4_init 7 = .ok (.newarray .int, 2) := by decide +kernel
theorem dX4_init_9 : decode cX4_init 9 = .ok (.putfield 9, 3) := by decide +kernel
theorem dX4_init_12 : decode cX4_init 12 = .ok (.aload_n 0, 1) := by decide +kernel
theorem dX4_init_13 : decode cX4_init 13 = .ok (.aload_n 1, 1) := by decide +kernel
theorem dX4_init_14 : decode cX4_init 14 = .ok (.putfield 15, 3) := by decide +kernel
theorem dX4_init_17 : decode cX4_init 17 = .ok (.return_, 1) := by decide +kernel
theorem dX4_faultFound_0 : decode cX4_faultFound 0 = .ok (.aload_n 0, 1) := by decide +kernel
theorem dX4_faultFound_1 : decode cX4_faultFound 1 = .ok (.getfield 19, 3) := by decide +kernel
theorem dX4_faultFound_4 : decode cX4_faultFound 4 = .ok (.ireturn, 1) := by decide +kernel
theorem dX4_faultPlace_0 : decode cX4_faultPlace 0 = .ok (.aload_n 0, 1) := by decide +kernel
theorem dX4_faultPlace_1 : decode cX4_faultPlace 1 = .ok (.getfield 23, 3) := by decide +kernel
theorem dX4_faultPlace_4 : decode cX4_faultPlace 4 = .ok (.ireturn, 1) := by decide +kernel
theorem dX4_lines_0 : decode cX4_lines 0 = .ok (.aload_n 0, 1) := by decide +kernel
theorem dX4_lines_1 : decode cX4_lines 1 = .ok (.getfield 26, 3) := by decide +kernel
theorem dX4_lines_4 : decode cX4_lines 4 = .ok (.ireturn, 1) := by decide +kernel
theorem dX4_tellTo_0 : decode cX4_tellTo 0 = .ok (.iconst 0, 1) := by decide +kernel
theorem dX4_tellTo_1 : decode cX4_tellTo 1 = .ok (.istore_n 2, 1) := by decide +kernel
theorem dX4_tellTo_2 : decode cX4_tellTo 2 = .ok (.iload_n 2, 1) := by decide +kernel
theorem dX4_tellTo_3 : decode cX4_tellTo 3 = .ok (.aload_n 0, 1) := by decide +kernel
theorem dX4_tellTo_4 : decode cX4_tellTo 4 = .ok (.getfield 9, 3) := by decide +kernel
theorem dX4_tellTo_7 : decode cX4_tellTo 7 = .ok (.arraylength, 1) := by decide +kernel
theorem dX4_tellTo_8 : decode cX4_tellTo 8 = .ok (.if_icmp .ge 20, 3) := by decide +kernel
theorem dX4_tellTo_11 : decode cX4_tellTo 11 = .ok (.aload_n 1, 1) := by decide +kernel
theorem dX4_tellTo_12 : decode cX4_tellTo 12 = .ok (.iload_n 2, 1) := by decide +kernel
theorem dX4_tellTo_13 : decode cX4_tellTo 13 = .ok (.aload_n 0, 1) := by decide +kernel
theorem dX4_tellTo_14 : decode cX4_tellTo 14 = .ok (.getfield 9, 3) := by decide +kernel
theorem dX4_tellTo_17 : decode cX4_tellTo 17 = .ok (.iload_n 2, 1) := by decide +kernel
theorem dX4_tellTo_18 : decode cX4_tellTo 18 = .ok (.iaload, 1) := by decide +kernel
theorem dX4_tellTo_19 : decode cX4_tellTo 19 = .ok (.invokevirtual 29, 3) := by decide +kernel
theorem dX4_tellTo_22 : decode cX4_tellTo 22 = .ok (.iinc 2 1, 3) := by decide +kernel
theorem dX4_tellTo_25 : decode cX4_tellTo 25 = .ok (.goto (-23), 3) := by decide +kernel
theorem dX4_tellTo_28 : decode cX4_tellTo 28 = .ok (.return_, 1) := by decide +kernel
theorem dX4_readText_0 : decode cX4_readText 0 = .ok (.iconst 0, 1) := by decide +kernel
theorem dX4_readText_1 : decode cX4_readText 1 = .ok (.istore_n 1, 1) := by decide +kernel
theorem dX4_readText_2 : decode cX4_readText 2 = .ok (.iload_n 1, 1) := by decide +kernel
theorem dX4_readText_3 : decode cX4_readText 3 = .ok (.aload_n 0, 1) := by decide +kernel
theorem dX4_readText_4 : decode cX4_readText 4 = .ok (.getfield 9, 3) := by decide +kernel
theorem dX4_readText_7 : decode cX4_readText 7 = .ok (.arraylength, 1) := by decide +kernel
theorem dX4_readText_8 : decode cX4_readText 8 = .ok (.if_icmp .ge 19, 3) := by decide +kernel
theorem dX4_readText_11 : decode cX4_readText 11 = .ok (.aload_n 0, 1) := by decide +kernel
theorem dX4_readText_12 : decode cX4_readText 12 = .ok (.getfield 9, 3) := by decide +kernel
theorem dX4_readText_15 : decode cX4_readText 15 = .ok (.iload_n 1, 1) := by decide +kernel
theorem dX4_readText_16 : decode cX4_readText 16 = .ok (.iload_n 1, 1) := by decide +kernel
theorem dX4_readText_17 : decode cX4_readText 17 = .ok (.invokestatic 33, 3) := by decide +kernel
theorem dX4_readText_20 : decode cX4_readText 20 = .ok (.iastore, 1) := by decide +kernel
theorem dX4_readText_21 : decode cX4_readText 21 = .ok (.iinc 1 1, 3) := by decide +kernel
theorem dX4_readText_24 : decode cX4_readText 24 = .ok (.goto (-22), 3) := by decide +kernel
theorem dX4_readText_27 : decode cX4_readText 27 = .ok (.aload_n 0, 1) := by decide +kernel
theorem dX4_readText_28 : decode cX4_readText 28 = .ok (.iconst 0, 1) := by decide +kernel
theorem dX4_readText_29 : decode cX4_readText 29 = .ok (.putfield 37, 3) := by decide +kernel
theorem dX4_readText_32 : decode cX4_readText 32 = .ok (.aload_n 0, 1) := by decide +kernel
theorem dX4_readText_33 : decode cX4_readText 33 = .ok (.iconst 0, 1) := by decide +kernel
theorem dX4_readText_34 : decode cX4_readText 34 = .ok (.putfield 40, 3) := by decide +kernel
theorem dX4_readText_37 : decode cX4_readText 37 = .ok (.aload_n 0, 1) := by decide +kernel
theorem dX4_readText_38 : decode cX4_readText 38 = .ok (.iconst 0, 1) := by decide +kernel
theorem dX4_readText_39 : decode cX4_readText 39 = .ok (.putfield 26, 3) := by decide +kernel
theorem dX4_readText_42 : decode cX4_readText 42 = .ok (.aload_n 0, 1) := by decide +kernel
theorem dX4_readText_43 : decode cX4_readText 43 = .ok (.iconst 0, 1) := by decide +kernel
theorem dX4_readText_44 : decode cX4_readText 44 = .ok (.putfield 19, 3) := by decide +kernel
theorem dX4_readText_47 : decode cX4_readText 47 = .ok (.iconst 0, 1) := by decide +kernel
theorem dX4_readText_48 : decode cX4_readText 48 = .ok (.istore_n 1, 1) := by decide +kernel
theorem dX4_readText_49 : decode cX4_readText 49 = .ok (.iload_n 1, 1) := by decide +kernel
theorem dX4_readText_50 : decode cX4_readText 50 = .ok (.bipush 120, 2) := by decide +kernel
theorem dX4_readText_52 : decode cX4_readText 52 = .ok (.if_icmp .gt 42, 3) := by decide +kernel
theorem dX4_readText_55 : decode cX4_readText 55 = .ok (.aload_n 0, 1) := by decide +kernel
theorem dX4_readText_56 : decode cX4_readText 56 = .ok (.invokevirtual 45, 3) := by decide +kernel
theorem dX4_readText_59 : decode cX4_readText 59 = .ok (.aload_n 0, 1) := by decide +kernel
theorem dX4_readText_60 : decode cX4_readText 60 = .ok (.getfield 48, 3) := by decide +kernel
theorem dX4_readText_63 : decode cX4_readText 63 = .ok (.iconst 4, 1) := by decide +kernel
theorem dX4_readText_64 : decode cX4_readText 64 = .ok (.if_icmp .ne 5, 3) := by decide +kernel
theorem dX4_readText_67 : decode cX4_readText 67 = .ok (.iconst 1, 1) := by decide +kernel
theorem dX4_readText_68 : decode cX4_readText 68 = .ok (.ireturn, 1) := by decide +kernel
theorem dX4_readText_69 : decode cX4_readText 69 = .ok (.aload_n 0, 1) := by decide +kernel
theorem dX4_readText_70 : decode cX4_readText 70 = .ok (.invokevirtual 51, 3) := by decide +kernel
theorem dX4_readText_73 : decode cX4_readText 73 = .ok (.ifCond .ne 5, 3) := by decide +kernel
theorem dX4_readText_76 : decode cX4_readText 76 = .ok (.iconst 0, 1) := by decide +kernel
theorem dX4_readText_77 : decode cX4_readText 77 = .ok (.ireturn, 1) := by decide +kernel
theorem dX4_readText_78 : decode cX4_readText 78 = .ok (.aload_n 0, 1) := by decide +kernel
theorem dX4_readText_79 : decode cX4_readText 79 = .ok (.dup, 1) := by decide +kernel
theorem dX4_readText_80 : decode cX4_readText 80 = .ok (.getfield 26, 3) := by decide +kernel
theorem dX4_readText_83 : decode cX4_readText 83 = .ok (.iconst 1, 1) := by decide +kernel
theorem dX4_readText_84 : decode cX4_readText 84 = .ok (.iadd, 1) := by decide +kernel
theorem dX4_readText_85 : decode cX4_readText 85 = .ok (.putfield 26, 3) := by decide +kernel
theorem dX4_readText_88 : decode cX4_readText 88 = .ok (.iinc 1 1, 3) := by decide +kernel
theorem dX4_readText_91 : decode cX4_readText 91 = .ok (.goto (-42), 3) := by decide +kernel
theorem dX4_readText_94 : decode cX4_readText 94 = .ok (.iconst 1, 1) := by decide +kernel
theorem dX4_readText_95 : decode cX4_readText 95 = .ok (.ireturn, 1) := by decide +kernel
theorem dX4_takeLine_0 : decode cX4_takeLine 0 = .ok (.aload_n 0, 1) := by decide +kernel
theorem dX4_takeLine_1 : decode cX4_takeLine 1 = .ok (.iconst 1, 1) := by decide +kernel
theorem dX4_takeLine_2 : decode cX4_takeLine 2 = .ok (.invokevirtual 55, 3) := by decide +kernel
theorem dX4_takeLine_5 : decode cX4_takeLine 5 = .ok (.ifCond .ne 5, 3) := by decide +kernel
theorem dX4_takeLine_8 : decode cX4_takeLine 8 = .ok (.iconst 0, 1) := by decide +kernel
theorem dX4_takeLine_9 : decode cX4_takeLine 9 = .ok (.ireturn, 1) := by decide +kernel
theorem dX4_takeLine_10 : decode cX4_takeLine 10 = .ok (.aload_n 0, 1) := by decide +kernel
theorem dX4_takeLine_11 : decode cX4_takeLine 11 = .ok (.getfield 59, 3) := by decide +kernel
theorem dX4_takeLine_14 : decode cX4_takeLine 14 = .ok (.istore_n 1, 1) := by decide +kernel
theorem dX4_takeLine_15 : decode cX4_takeLine 15 = .ok (.iconst 1, 1) := by decide +kernel
theorem dX4_takeLine_16 : decode cX4_takeLine 16 = .ok (.iload_n 1, 1) := by decide +kernel
theorem dX4_takeLine_17 : decode cX4_takeLine 17 = .ok (.iconst 1, 1) := by decide +kernel
theorem dX4_takeLine_18 : decode cX4_takeLine 18 = .ok (.if_icmp .ne 7, 3) := by decide +kernel
theorem dX4_takeLine_21 : decode cX4_takeLine 21 = .ok (.iconst 0, 1) := by decide +kernel
theorem dX4_takeLine_22 : decode cX4_takeLine 22 = .ok (.goto 4, 3) := by decide +kernel
theorem dX4_takeLine_25 : decode cX4_takeLine 25 = .ok (.iload_n 1, 1) := by decide +kernel
theorem dX4_takeLine_26 : decode cX4_takeLine 26 = .ok (.ishl, 1) := by decide +kernel
theorem dX4_takeLine_27 : decode cX4_takeLine 27 = .ok (.istore_n 2, 1) := by decide +kernel
theorem dX4_takeLine_28 : decode cX4_takeLine 28 = .ok (.aload_n 0, 1) := by decide +kernel
theorem dX4_takeLine_29 : decode cX4_takeLine 29 = .ok (.getfield 40, 3) := by decide +kernel
theorem dX4_takeLine_32 : decode cX4_takeLine 32 = .ok (.iload_n 2, 1) := by decide +kernel
theorem dX4_takeLine_33 : decode cX4_takeLine 33 = .ok (.iand, 1) := by decide +kernel
theorem dX4_takeLine_34 : decode cX4_takeLine 34 = .ok (.ifCond .eq 9, 3) := by decide +kernel
theorem dX4_takeLine_37 : decode cX4_takeLine 37 = .ok (.aload_n 0, 1) := by decide +kernel
theorem dX4_takeLine_38 : decode cX4_takeLine 38 = .ok (.iconst 4, 1) := by decide +kernel
theorem dX4_takeLine_39 : decode cX4_takeLine 39 = .ok (.invokevirtual 62, 3) := by decide +kernel
theorem dX4_takeLine_42 : decode cX4_takeLine 42 = .ok (.ireturn, 1) := by decide +kernel
theorem dX4_takeLine_43 : decode cX4_takeLine 43 = .ok (.aload_n 0, 1) := by decide +kernel
theorem dX4_takeLine_44 : decode cX4_takeLine 44 = .ok (.dup, 1) := by decide +kernel
theorem dX4_takeLine_45 : decode cX4_takeLine 45 = .ok (.getfield 40, 3) := by decide +kernel
theorem dX4_takeLine_48 : decode cX4_takeLine 48 = .ok (.iload_n 2, 1) := by decide +kernel
theorem dX4_takeLine_49 : decode cX4_takeLine 49 = .ok (.ior, 1) := by decide +kernel
theorem dX4_takeLine_50 : decode cX4_takeLine 50 = .ok (.putfield 40, 3) := by decide +kernel
theorem dX4_takeLine_53 : decode cX4_takeLine 53 = .ok (.iload_n 1, 1) := by decide +kernel
theorem dX4_takeLine_54 : decode cX4_takeLine 54 = .ok (.ifCond .eq 8, 3) := by decide +kernel
theorem dX4_takeLine_57 : decode cX4_takeLine 57 = .ok (.iload_n 1, 1) := by decide +kernel
theorem dX4_takeLine_58 : decode cX4_takeLine 58 = .ok (.iconst 1, 1) := by decide +kernel
theorem dX4_takeLine_59 : decode cX4_takeLine 59 = .ok (.if_icmp .ne 40, 3) := by decide +kernel
theorem dX4_takeLine_62 : decode cX4_takeLine 62 = .ok (.aload_n 0, 1) := by decide +kernel
theorem dX4_takeLine_63 : decode cX4_takeLine 63 = .ok (.iconst 1, 1) := by decide +kernel
theorem dX4_takeLine_64 : decode cX4_takeLine 64 = .ok (.iload_n 1, 1) := by decide +kernel
theorem dX4_takeLine_65 : decode cX4_takeLine 65 = .ok (.iconst 1, 1) := by decide +kernel
theorem dX4_takeLine_66 : decode cX4_takeLine 66 = .ok (.if_icmp .ne 7, 3) := by decide +kernel
theorem dX4_takeLine_69 : decode cX4_takeLine 69 = .ok (.iconst 1, 1) := by decide +kernel
theorem dX4_takeLine_70 : decode cX4_takeLine 70 = .ok (.goto 4, 3) := by decide +kernel
theorem dX4_takeLine_73 : decode cX4_takeLine 73 = .ok (.iconst 0, 1) := by decide +kernel
theorem dX4_takeLine_74 : decode cX4_takeLine 74 = .ok (.invokevirtual 65, 3) := by decide +kernel
theorem dX4_takeLine_77 : decode cX4_takeLine 77 = .ok (.aload_n 0, 1) := by decide +kernel
theorem dX4_takeLine_78 : decode cX4_takeLine 78 = .ok (.iconst 0, 1) := by decide +kernel
theorem dX4_takeLine_79 : decode cX4_takeLine 79 = .ok (.iload_n 1, 1) := by decide +kernel
theorem dX4_takeLine_80 : decode cX4_takeLine 80 = .ok (.iconst 1, 1) := by decide +kernel
theorem dX4_takeLine_81 : decode cX4_takeLine 81 = .ok (.if_icmp .ne 7, 3) := by decide +kernel
theorem dX4_takeLine_84 : decode cX4_takeLine 84 = .ok (.iconst 1, 1) := by decide +kernel
theorem dX4_takeLine_85 : decode cX4_takeLine 85 = .ok (.goto 4, 3) := by decide +kernel
theorem dX4_takeLine_88 : decode cX4_takeLine 88 = .ok (.iconst 2, 1) := by decide +kernel
theorem dX4_takeLine_89 : decode cX4_takeLine 89 = .ok (.bipush 6, 2) := by decide +kernel
theorem dX4_takeLine_91 : decode cX4_takeLine 91 = .ok (.invokevirtual 68, 3) := by decide +kernel
theorem dX4_takeLine_94 : decode cX4_takeLine 94 = .ok (.ifCond .ne 36, 3) := by decide +kernel
theorem dX4_takeLine_97 : decode cX4_takeLine 97 = .ok (.iconst 0, 1) := by decide +kernel
theorem dX4_takeLine_98 : decode cX4_takeLine 98 = .ok (.ireturn, 1) := by decide +kernel
theorem dX4_takeLine_99 : decode cX4_takeLine 99 = .ok (.iload_n 1, 1) := by decide +kernel
theorem dX4_takeLine_100 : decode cX4_takeLine 100 = .ok (.invokestatic 72, 3) := by decide +kernel
theorem dX4_takeLine_103 : decode cX4_takeLine 103 = .ok (.istore_n 3, 1) := by decide +kernel
theorem dX4_takeLine_104 : decode cX4_takeLine 104 = .ok (.aload_n 0, 1) := by decide +kernel
theorem dX4_takeLine_105 : decode cX4_takeLine 105 = .ok (.iload_n 3, 1) := by decide +kernel
theorem dX4_takeLine_106 : decode cX4_takeLine 106 = .ok (.iconst 0, 1) := by decide +kernel
theorem dX4_takeLine_107 : decode cX4_takeLine 107 = .ok (.bipush 9, 2) := by decide +kernel
theorem dX4_takeLine_109 : decode cX4_takeLine 109 = .ok (.invokevirtual 68, 3) := by decide +kernel
theorem dX4_takeLine_112 : decode cX4_takeLine 112 = .ok (.ifCond .eq 16, 3) := by decide +kernel
theorem dX4_takeLine_115 : decode cX4_takeLine 115 = .ok (.aload_n 0, 1) := by decide +kernel
theorem dX4_takeLine_116 : decode cX4_takeLine 116 = .ok (.iload_n 3, 1) := by decide +kernel
theorem dX4_takeLine_117 : decode cX4_takeLine 117 = .ok (.iconst 1, 1) := by decide +kernel
theorem dX4_takeLine_118 : decode cX4_takeLine 118 = .ok (.iadd, 1) := by decide +kernel
theorem dX4_takeLine_119 : decode cX4_takeLine 119 = .ok (.iconst 0, 1) := by decide +kernel
theorem dX4_takeLine_120 : decode cX4_takeLine 120 = .ok (.bipush 9, 2) := by decide +kernel
theorem dX4_takeLine_122 : decode cX4_takeLine 122 = .ok (.invokevirtual 68, 3) := by decide +kernel
theorem dX4_takeLine_125 : decode cX4_takeLine 125 = .ok (.ifCond .ne 5, 3) := by decide +kernel
theorem dX4_takeLine_128 : decode cX4_takeLine 128 = .ok (.iconst 0, 1) := by decide +kernel
theorem dX4_takeLine_129 : decode cX4_takeLine 129 = .ok (.ireturn, 1) := by decide +kernel
theorem dX4_takeLine_130 : decode cX4_takeLine 130 = .ok (.aload_n 0, 1) := by decide +kernel
theorem dX4_takeLine_131 : decode cX4_takeLine 131 = .ok (.invokevirtual 45, 3) := by decide +kernel
theorem dX4_takeLine_134 : decode cX4_takeLine 134 = .ok (.aload_n 0, 1) := by decide +kernel
theorem dX4_takeLine_135 : decode cX4_takeLine 135 = .ok (.iconst 3, 1) := by decide +kernel
theorem dX4_takeLine_136 : decode cX4_takeLine 136 = .ok (.invokevirtual 55, 3) := by decide +kernel
theorem dX4_takeLine_139 : decode cX4_takeLine 139 = .ok (.ireturn, 1) := by decide +kernel
theorem dX4_firstValue_0 : decode cX4_firstValue 0 = .ok (.iload_n 0, 1) := by decide +kernel
theorem dX4_firstValue_1 : decode cX4_firstValue 1 = .ok (.lookupswitch 31 #[(2, 27), (3, 29)], 27) := by decide +kernel
theorem dX4_firstValue_28 : decode cX4_firstValue 28 = .ok (.iconst 2, 1) := by decide +kernel
theorem dX4_firstValue_29 : decode cX4_firstValue 29 = .ok (.ireturn, 1) := by decide +kernel
theorem dX4_firstValue_30 : decode cX4_firstValue 30 = .ok (.iconst 4, 1) := by decide +kernel
theorem dX4_firstValue_31 : decode cX4_firstValue 31 = .ok (.ireturn, 1) := by decide +kernel
theorem dX4_firstValue_32 : decode cX4_firstValue 32 = .ok (.bipush 6, 2) := by decide +kernel
theorem dX4_firstValue_34 : decode cX4_firstValue 34 = .ok (.ireturn, 1) := by decide +kernel
theorem dX4_takeNumber_0 : decode cX4_takeNumber 0 = .ok (.aload_n 0, 1) := by decide +kernel
theorem dX4_takeNumber_1 : decode cX4_takeNumber 1 = .ok (.invokevirtual 45, 3) := by decide +kernel
theorem dX4_takeNumber_4 : decode cX4_takeNumber 4 = .ok (.aload_n 0, 1) := by decide +kernel
theorem dX4_takeNumber_5 : decode cX4_takeNumber 5 = .ok (.iconst 2, 1) := by decide +kernel
theorem dX4_takeNumber_6 : decode cX4_takeNumber 6 = .ok (.invokevirtual 55, 3) := by decide +kernel
theorem dX4_takeNumber_9 : decode cX4_takeNumber 9 = .ok (.ifCond .ne 5, 3) := by decide +kernel
theorem dX4_takeNumber_12 : decode cX4_takeNumber 12 = .ok (.iconst 0, 1) := by decide +kernel
theorem dX4_takeNumber_13 : decode cX4_takeNumber 13 = .ok (.ireturn, 1) := by decide +kernel
theorem dX4_takeNumber_14 : decode cX4_takeNumber 14 = .ok (.aload_n 0, 1) := by decide +kernel
theorem dX4_takeNumber_15 : decode cX4_takeNumber 15 = .ok (.getfield 59, 3) := by decide +kernel
theorem dX4_takeNumber_18 : decode cX4_takeNumber 18 = .ok (.iload_n 2, 1) := by decide +kernel
theorem dX4_takeNumber_19 : decode cX4_takeNumber 19 = .ok (.if_icmp .lt 11, 3) := by decide +kernel
theorem dX4_takeNumber_22 : decode cX4_takeNumber 22 = .ok (.aload_n 0, 1) := by decide +kernel
theorem dX4_takeNumber_23 : decode cX4_takeNumber 23 = .ok (.getfield 59, 3) := by decide +kernel
theorem dX4_takeNumber_26 : decode cX4_takeNumber 26 = .ok (.iload_n 3, 1) := by decide +kernel
theorem dX4_takeNumber_27 : decode cX4_takeNumber 27 = .ok (.if_icmp .le 9, 3) := by decide +kernel
theorem dX4_takeNumber_30 : decode cX4_takeNumber 30 = .ok (.aload_n 0, 1) := by decide +kernel
theorem dX4_takeNumber_31 : decode cX4_takeNumber 31 = .ok (.iconst 3, 1) := by decide +kernel
theorem dX4_takeNumber_32 : decode cX4_takeNumber 32 = .ok (.invokevirtual 62, 3) := by decide +kernel
theorem dX4_takeNumber_35 : decode cX4_takeNumber 35 = .ok (.ireturn, 1) := by decide +kernel
theorem dX4_takeNumber_36 : decode cX4_takeNumber 36 = .ok (.aload_n 0, 1) := by decide +kernel
theorem dX4_takeNumber_37 : decode cX4_takeNumber 37 = .ok (.iload_n 1, 1) := by decide +kernel
theorem dX4_takeNumber_38 : decode cX4_takeNumber 38 = .ok (.aload_n 0, 1) := by decide +kernel
theorem dX4_takeNumber_39 : decode cX4_takeNumber 39 = .ok (.getfield 59, 3) := by decide +kernel
theorem dX4_takeNumber_42 : decode cX4_takeNumber 42 = .ok (.invokevirtual 65, 3) := by decide +kernel
theorem dX4_takeNumber_45 : decode cX4_takeNumber 45 = .ok (.iconst 1, 1) := by decide +kernel
theorem dX4_takeNumber_46 : decode cX4_takeNumber 46 = .ok (.ireturn, 1) := by decide +kernel
theorem dX4_tellFresh_0 : decode cX4_tellFresh 0 = .ok (.iload_n 1, 1) := by decide +kernel
theorem dX4_tellFresh_1 : decode cX4_tellFresh 1 = .ok (.ifCond .lt 19, 3) := by decide +kernel
theorem dX4_tellFresh_4 : decode cX4_tellFresh 4 = .ok (.iload_n 1, 1) := by decide +kernel
theorem dX4_tellFresh_5 : decode cX4_tellFresh 5 = .ok (.aload_n 0, 1) := by decide +kernel
theorem dX4_tellFresh_6 : decode cX4_tellFresh 6 = .ok (.getfield 9, 3) := by decide +kernel
theorem dX4_tellFresh_9 : decode cX4_tellFresh 9 = .ok (.arraylength, 1) := by decide +kernel
theorem dX4_tellFresh_10 : decode cX4_tellFresh 10 = .ok (.if_icmp .ge 10, 3) := by decide +kernel
theorem dX4_tellFresh_13 : decode cX4_tellFresh 13 = .ok (.aload_n 0, 1) := by decide +kernel
theorem dX4_tellFresh_14 : decode cX4_tellFresh 14 = .ok (.getfield 9, 3) := by decide +kernel
theorem dX4_tellFresh_17 : decode cX4_tellFresh 17 = .ok (.iload_n 1, 1) := by decide +kernel
theorem dX4_tellFresh_18 : decode cX4_tellFresh 18 = .ok (.iload_n 2, 1) := by decide +kernel
theorem dX4_tellFresh_19 : decode cX4_tellFresh 19 = .ok (.iastore, 1) := by decide +kernel
theorem dX4_tellFresh_20 : decode cX4_tellFresh 20 = .ok (.return_, 1) := by decide +kernel
theorem dX4_expect_0 : decode cX4_expect 0 = .ok (.aload_n 0, 1) := by decide +kernel
theorem dX4_expect_1 : decode cX4_expect 1 = .ok (.getfield 48, 3) := by decide +kernel
theorem dX4_expect_4 : decode cX4_expect 4 = .ok (.iload_n 1, 1) := by decide +kernel
theorem dX4_expect_5 : decode cX4_expect 5 = .ok (.if_icmp .ne 5, 3) := by decide +kernel
theorem dX4_expect_8 : decode cX4_expect 8 = .ok (.iconst 1, 1) := by decide +kernel
theorem dX4_expect_9 : decode cX4_expect 9 = .ok (.ireturn, 1) := by decide +kernel
theorem dX4_expect_10 : decode cX4_expect 10 = .ok (.aload_n 0, 1) := by decide +kernel
theorem dX4_expect_11 : decode cX4_expect 11 = .ok (.aload_n 0, 1) := by decide +kernel
theorem dX4_expect_12 : decode cX4_expect 12 = .ok (.getfield 48, 3) := by decide +kernel
theorem dX4_expect_15 : decode cX4_expect 15 = .ok (.ifCond .ne 7, 3) := by decide +kernel
theorem dX4_expect_18 : decode cX4_expect 18 = .ok (.iconst 1, 1) := by decide +kernel
theorem dX4_expect_19 : decode cX4_expect 19 = .ok (.goto 4, 3) := by decide +kernel
theorem dX4_expect_22 : decode cX4_expect 22 = .ok (.iconst 2, 1) := by decide +kernel
theorem dX4_expect_23 : decode cX4_expect 23 = .ok (.invokevirtual 62, 3) := by decide +kernel
theorem dX4_expect_26 : decode cX4_expect 26 = .ok (.ireturn, 1) := by decide +kernel
theorem dX4_refuse_0 : decode cX4_refuse 0 = .ok (.aload_n 0, 1) := by decide +kernel
theorem dX4_refuse_1 : decode cX4_refuse 1 = .ok (.iload_n 1, 1) := by decide +kernel
theorem dX4_refuse_2 : decode cX4_refuse 2 = .ok (.putfield 19, 3) := by decide +kernel
theorem dX4_refuse_5 : decode cX4_refuse 5 = .ok (.iconst 0, 1) := by decide +kernel
theorem dX4_refuse_6 : decode cX4_refuse 6 = .ok (.ireturn, 1) := by decide +kernel
theorem dX4_readToken_0 : decode cX4_readToken 0 = .ok (.iconst 0, 1) := by decide +kernel
theorem dX4_readToken_1 : decode cX4_readToken 1 = .ok (.istore_n 1, 1) := by decide +kernel
theorem dX4_readToken_2 : decode cX4_readToken 2 = .ok (.iload_n 1, 1) := by decide +kernel
theorem dX4_readToken_3 : decode cX4_readToken 3 = .ok (.bipush 120, 2) := by decide +kernel
theorem dX4_readToken_5 : decode cX4_readToken 5 = .ok (.if_icmp .ge 35, 3) := by decide +kernel
theorem dX4_readToken_8 : decode cX4_readToken 8 = .ok (.aload_n 0, 1) := by decide +kernel
theorem dX4_readToken_9 : decode cX4_readToken 9 = .ok (.getfield 15, 3) := by decide +kernel
theorem dX4_readToken_12 : decode cX4_readToken 12 = .ok (.aload_n 0, 1) := by decide +kernel
theorem dX4_readToken_13 : decode cX4_readToken 13 = .ok (.getfield 37, 3) := by decide +kernel
theorem dX4_readToken_16 : decode cX4_readToken 16 = .ok (.invokevirtual 75, 3) := by decide +kernel
theorem dX4_readToken_19 : decode cX4_readToken 19 = .ok (.bipush 32, 2) := by decide +kernel
theorem dX4_readToken_21 : decode cX4_readToken 21 = .ok (.if_icmp .ne 19, 3) := by decide +kernel
theorem dX4_readToken_24 : decode cX4_readToken 24 = .ok (.aload_n 0, 1) := by decide +kernel
theorem dX4_readToken_25 : decode cX4_readToken 25 = .ok (.dup, 1) := by decide +kernel
theorem dX4_readToken_26 : decode cX4_readToken 26 = .ok (.getfield 37, 3) := by decide +kernel
theorem dX4_readToken_29 : decode cX4_readToken 29 = .ok (.iconst 1, 1) := by decide +kernel
theorem dX4_readToken_30 : decode cX4_readToken 30 = .ok (.iadd, 1) := by decide +kernel
theorem dX4_readToken_31 : decode cX4_readToken 31 = .ok (.putfield 37, 3) := by decide +kernel
theorem dX4_readToken_34 : decode cX4_readToken 34 = .ok (.iinc 1 1, 3) := by decide +kernel
theorem dX4_readToken_37 : decode cX4_readToken 37 = .ok (.goto (-35), 3) := by decide +kernel
theorem dX4_readToken_40 : decode cX4_readToken 40 = .ok (.aload_n 0, 1) := by decide +kernel
theorem dX4_readToken_41 : decode cX4_readToken 41 = .ok (.aload_n 0, 1) := by decide +kernel
theorem dX4_readToken_42 : decode cX4_readToken 42 = .ok (.getfield 37, 3) := by decide +kernel
theorem dX4_readToken_45 : decode cX4_readToken 45 = .ok (.putfield 23, 3) := by decide +kernel
theorem dX4_readToken_48 : decode cX4_readToken 48 = .ok (.aload_n 0, 1) := by decide +kernel
theorem dX4_readToken_49 : decode cX4_readToken 49 = .ok (.getfield 15, 3) := by decide +kernel
theorem dX4_readToken_52 : decode cX4_readToken 52 = .ok (.aload_n 0, 1) := by decide +kernel
theorem dX4_readToken_53 : decode cX4_readToken 53 = .ok (.getfield 37, 3) := by decide +kernel
theorem dX4_readToken_56 : decode cX4_readToken 56 = .ok (.invokevirtual 75, 3) := by decide +kernel
theorem dX4_readToken_59 : decode cX4_readToken 59 = .ok (.istore_n 1, 1) := by decide +kernel
theorem dX4_readToken_60 : decode cX4_readToken 60 = .ok (.iload_n 1, 1) := by decide +kernel
theorem dX4_readToken_61 : decode cX4_readToken 61 = .ok (.iconst (-1), 1) := by decide +kernel
theorem dX4_readToken_62 : decode cX4_readToken 62 = .ok (.if_icmp .ne 11, 3) := by decide +kernel
theorem dX4_readToken_65 : decode cX4_readToken 65 = .ok (.aload_n 0, 1) := by decide +kernel
theorem dX4_readToken_66 : decode cX4_readToken 66 = .ok (.iconst 4, 1) := by decide +kernel
theorem dX4_readToken_67 : decode cX4_readToken 67 = .ok (.putfield 48, 3) := by decide +kernel
theorem dX4_readToken_70 : decode cX4_readToken 70 = .ok (.goto 60, 3) := by decide +kernel
theorem dX4_readToken_73 : decode cX4_readToken 73 = .ok (.iload_n 1, 1) := by decide +kernel
theorem dX4_readToken_74 : decode cX4_readToken 74 = .ok (.bipush 59, 2) := by decide +kernel
theorem dX4_readToken_76 : decode cX4_readToken 76 = .ok (.if_icmp .ne 21, 3) := by decide +kernel
theorem dX4_readToken_79 : decode cX4_readToken 79 = .ok (.aload_n 0, 1) := by decide +kernel
theorem dX4_readToken_80 : decode cX4_readToken 80 = .ok (.iconst 3, 1) := by decide +kernel
theorem dX4_readToken_81 : decode cX4_readToken 81 = .ok (.putfield 48, 3) := by decide +kernel
theorem dX4_readToken_84 : decode cX4_readToken 84 = .ok (.aload_n 0, 1) := by decide +kernel
theorem dX4_readToken_85 : decode cX4_readToken 85 = .ok (.dup, 1) := by decide +kernel
theorem dX4_readToken_86 : decode cX4_readToken 86 = .ok (.getfield 37, 3) := by decide +kernel
theorem dX4_readToken_89 : decode cX4_readToken 89 = .ok (.iconst 1, 1) := by decide +kernel
theorem dX4_readToken_90 : decode cX4_readToken 90 = .ok (.iadd, 1) := by decide +kernel
theorem dX4_readToken_91 : decode cX4_readToken 91 = .ok (.putfield 37, 3) := by decide +kernel
theorem dX4_readToken_94 : decode cX4_readToken 94 = .ok (.goto 36, 3) := by decide +kernel
theorem dX4_readToken_97 : decode cX4_readToken 97 = .ok (.iload_n 1, 1) := by decide +kernel
theorem dX4_readToken_98 : decode cX4_readToken 98 = .ok (.invokestatic 78, 3) := by decide +kernel
theorem dX4_readToken_101 : decode cX4_readToken 101 = .ok (.ifCond .eq 10, 3) := by decide +kernel
theorem dX4_readToken_104 : decode cX4_readToken 104 = .ok (.aload_n 0, 1) := by decide +kernel
theorem dX4_readToken_105 : decode cX4_readToken 105 = .ok (.invokevirtual 81, 3) := by decide +kernel
theorem dX4_readToken_108 : decode cX4_readToken 108 = .ok (.goto 22, 3) := by decide +kernel
theorem dX4_readToken_111 : decode cX4_readToken 111 = .ok (.iload_n 1, 1) := by decide +kernel
theorem dX4_readToken_112 : decode cX4_readToken 112 = .ok (.invokestatic 84, 3) := by decide +kernel
theorem dX4_readToken_115 : decode cX4_readToken 115 = .ok (.ifCond .eq 10, 3) := by decide +kernel
theorem dX4_readToken_118 : decode cX4_readToken 118 = .ok (.aload_n 0, 1) := by decide +kernel
theorem dX4_readToken_119 : decode cX4_readToken 119 = .ok (.invokevirtual 87, 3) := by decide +kernel
theorem dX4_readToken_122 : decode cX4_readToken 122 = .ok (.goto 8, 3) := by decide +kernel
theorem dX4_readToken_125 : decode cX4_readToken 125 = .ok (.aload_n 0, 1) := by decide +kernel
theorem dX4_readToken_126 : decode cX4_readToken 126 = .ok (.iconst 0, 1) := by decide +kernel
theorem dX4_readToken_127 : decode cX4_readToken 127 = .ok (.putfield 48, 3) := by decide +kernel
theorem dX4_readToken_130 : decode cX4_readToken 130 = .ok (.return_, 1) := by decide +kernel
theorem dX4_readName_0 : decode cX4_readName 0 = .ok (.iconst 0, 1) := by decide +kernel
theorem dX4_readName_1 : decode cX4_readName 1 = .ok (.istore_n 1, 1) := by decide +kernel
theorem dX4_readName_2 : decode cX4_readName 2 = .ok (.iconst 0, 1) := by decide +kernel
theorem dX4_readName_3 : decode cX4_readName 3 = .ok (.istore_n 2, 1) := by decide +kernel
theorem dX4_readName_4 : decode cX4_readName 4 = .ok (.iload_n 2, 1) := by decide +kernel
theorem dX4_readName_5 : decode cX4_readName 5 = .ok (.bipush 120, 2) := by decide +kernel
theorem dX4_readName_7 : decode cX4_readName 7 = .ok (.if_icmp .ge 53, 3) := by decide +kernel
theorem dX4_readName_10 : decode cX4_readName 10 = .ok (.aload_n 0, 1) := by decide +kernel
theorem dX4_readName_11 : decode cX4_readName 11 = .ok (.getfield 15, 3) := by decide +kernel
theorem dX4_readName_14 : decode cX4_readName 14 = .ok (.aload_n 0, 1) := by decide +kernel
theorem dX4_readName_15 : decode cX4_readName 15 = .ok (.getfield 37, 3) := by decide +kernel
theorem dX4_readName_18 : decode cX4_readName 18 = .ok (.invokevirtual 75, 3) := by decide +kernel
theorem dX4_readName_21 : decode cX4_readName 21 = .ok (.invokestatic 78, 3) := by decide +kernel
theorem dX4_readName_24 : decode cX4_readName 24 = .ok (.ifCond .eq 36, 3) := by decide +kernel
theorem dX4_readName_27 : decode cX4_readName 27 = .ok (.iload_n 1, 1) := by decide +kernel
theorem dX4_readName_28 : decode cX4_readName 28 = .ok (.bipush 8, 2) := by decide +kernel
theorem dX4_readName_30 : decode cX4_readName 30 = .ok (.ishl, 1) := by decide +kernel
theorem dX4_readName_31 : decode cX4_readName 31 = .ok (.aload_n 0, 1) := by decide +kernel
theorem dX4_readName_32 : decode cX4_readName 32 = .ok (.getfield 15, 3) := by decide +kernel
theorem dX4_readName_35 : decode cX4_readName 35 = .ok (.aload_n 0, 1) := by decide +kernel
theorem dX4_readName_36 : decode cX4_readName 36 = .ok (.getfield 37, 3) := by decide +kernel
theorem dX4_readName_39 : decode cX4_readName 39 = .ok (.invokevirtual 75, 3) := by decide +kernel
theorem dX4_readName_42 : decode cX4_readName 42 = .ok (.ior, 1) := by decide +kernel
theorem dX4_readName_43 : decode cX4_readName 43 = .ok (.istore_n 1, 1) := by decide +kernel
theorem dX4_readName_44 : decode cX4_readName 44 = .ok (.aload_n 0, 1) := by decide +kernel
theorem dX4_readName_45 : decode cX4_readName 45 = .ok (.dup, 1) := by decide +kernel
theorem dX4_readName_46 : decode cX4_readName 46 = .ok (.getfield 37, 3) := by decide +kernel
theorem dX4_readName_49 : decode cX4_readName 49 = .ok (.iconst 1, 1) := by decide +kernel
theorem dX4_readName_50 : decode cX4_readName 50 = .ok (.iadd, 1) := by decide +kernel
theorem dX4_readName_51 : decode cX4_readName 51 = .ok (.putfield 37, 3) := by decide +kernel
theorem dX4_readName_54 : decode cX4_readName 54 = .ok (.iinc 2 1, 3) := by decide +kernel
theorem dX4_readName_57 : decode cX4_readName 57 = .ok (.goto (-53), 3) := by decide +kernel
theorem dX4_readName_60 : decode cX4_readName 60 = .ok (.aload_n 0, 1) := by decide +kernel
theorem dX4_readName_61 : decode cX4_readName 61 = .ok (.iload_n 1, 1) := by decide +kernel
theorem dX4_readName_62 : decode cX4_readName 62 = .ok (.invokestatic 90, 3) := by decide +kernel
theorem dX4_readName_65 : decode cX4_readName 65 = .ok (.putfield 59, 3) := by decide +kernel
theorem dX4_readName_68 : decode cX4_readName 68 = .ok (.aload_n 0, 1) := by decide +kernel
theorem dX4_readName_69 : decode cX4_readName 69 = .ok (.aload_n 0, 1) := by decide +kernel
theorem dX4_readName_70 : decode cX4_readName 70 = .ok (.getfield 59, 3) := by decide +kernel
theorem dX4_readName_73 : decode cX4_readName 73 = .ok (.iconst 5, 1) := by decide +kernel
theorem dX4_readName_74 : decode cX4_readName 74 = .ok (.if_icmp .eq 20, 3) := by decide +kernel
theorem dX4_readName_77 : decode cX4_readName 77 = .ok (.aload_n 0, 1) := by decide +kernel
theorem dX4_readName_78 : decode cX4_readName 78 = .ok (.getfield 37, 3) := by decide +kernel
theorem dX4_readName_81 : decode cX4_readName 81 = .ok (.aload_n 0, 1) := by decide +kernel
theorem dX4_readName_82 : decode cX4_readName 82 = .ok (.getfield 23, 3) := by decide +kernel
theorem dX4_readName_85 : decode cX4_readName 85 = .ok (.isub, 1) := by decide +kernel
theorem dX4_readName_86 : decode cX4_readName 86 = .ok (.iconst 4, 1) := by decide +kernel
theorem dX4_readName_87 : decode cX4_readName 87 = .ok (.if_icmp .gt 7, 3) := by decide +kernel
theorem dX4_readName_90 : decode cX4_readName 90 = .ok (.iconst 1, 1) := by decide +kernel
theorem dX4_readName_91 : decode cX4_readName 91 = .ok (.goto 4, 3) := by decide +kernel
theorem dX4_readName_94 : decode cX4_readName 94 = .ok (.iconst 0, 1) := by decide +kernel
theorem dX4_readName_95 : decode cX4_readName 95 = .ok (.putfield 48, 3) := by decide +kernel
theorem dX4_readName_98 : decode cX4_readName 98 = .ok (.return_, 1) := by decide +kernel
theorem dX4_nameOf_0 : decode cX4_nameOf 0 = .ok (.iload_n 0, 1) := by decide +kernel
theorem dX4_nameOf_1 : decode cX4_nameOf 1 = .ok (.lookupswitch 61 #[(26990, 57), (6844272, 55), (7304564, 59), (1869636974, 53), (1919512167, 51)], 51) := by decide +kernel
theorem dX4_nameOf_52 : decode cX4_nameOf 52 = .ok (.iconst 0, 1) := by decide +kernel
theorem dX4_nameOf_53 : decode cX4_nameOf 53 = .ok (.ireturn, 1) := by decide +kernel
theorem dX4_nameOf_54 : decode cX4_nameOf 54 = .ok (.iconst 1, 1) := by decide +kernel
theorem dX4_nameOf_55 : decode cX4_nameOf 55 = .ok (.ireturn, 1) := by decide +kernel
theorem dX4_nameOf_56 : decode cX4_nameOf 56 = .ok (.iconst 2, 1) := by decide +kernel
theorem dX4_nameOf_57 : decode cX4_nameOf 57 = .ok (.ireturn, 1) := by decide +kernel
theorem dX4_nameOf_58 : decode cX4_nameOf 58 = .ok (.iconst 3, 1) := by decide +kernel
theorem dX4_nameOf_59 : decode cX4_nameOf 59 = .ok (.ireturn, 1) := by decide +kernel
theorem dX4_nameOf_60 : decode cX4_nameOf 60 = .ok (.iconst 4, 1) := by decide +kernel
theorem dX4_nameOf_61 : decode cX4_nameOf 61 = .ok (.ireturn, 1) := by decide +kernel
theorem dX4_nameOf_62 : decode cX4_nameOf 62 = .ok (.iconst 5, 1) := by decide +kernel
theorem dX4_nameOf_63 : decode cX4_nameOf 63 = .ok (.ireturn, 1) := by decide +kernel
theorem dX4_readNumber_0 : decode cX4_readNumber 0 = .ok (.aload_n 0, 1) := by decide +kernel
theorem dX4_readNumber_1 : decode cX4_readNumber 1 = .ok (.iconst 0, 1) := by decide +kernel
theorem dX4_readNumber_2 : decode cX4_readNumber 2 = .ok (.putfield 59, 3) := by decide +kernel
theorem dX4_readNumber_5 : decode cX4_readNumber 5 = .ok (.iconst 0, 1) := by decide +kernel
theorem dX4_readNumber_6 : decode cX4_readNumber 6 = .ok (.istore_n 1, 1) := by decide +kernel
theorem dX4_readNumber_7 : decode cX4_readNumber 7 = .ok (.iload_n 1, 1) := by decide +kernel
theorem dX4_readNumber_8 : decode cX4_readNumber 8 = .ok (.bipush 120, 2) := by decide +kernel
theorem dX4_readNumber_10 : decode cX4_readNumber 10 = .ok (.if_icmp .ge 62, 3) := by decide +kernel
theorem dX4_readNumber_13 : decode cX4_readNumber 13 = .ok (.aload_n 0, 1) := by decide +kernel
theorem dX4_readNumber_14 : decode cX4_readNumber 14 = .ok (.getfield 15, 3) := by decide +kernel
theorem dX4_readNumber_17 : decode cX4_readNumber 17 = .ok (.aload_n 0, 1) := by decide +kernel
theorem dX4_readNumber_18 : decode cX4_readNumber 18 = .ok (.getfield 37, 3) := by decide +kernel
theorem dX4_readNumber_21 : decode cX4_readNumber 21 = .ok (.invokevirtual 75, 3) := by decide +kernel
theorem dX4_readNumber_24 : decode cX4_readNumber 24 = .ok (.invokestatic 84, 3) := by decide +kernel
theorem dX4_readNumber_27 : decode cX4_readNumber 27 = .ok (.ifCond .eq 45, 3) := by decide +kernel
theorem dX4_readNumber_30 : decode cX4_readNumber 30 = .ok (.aload_n 0, 1) := by decide +kernel
theorem dX4_readNumber_31 : decode cX4_readNumber 31 = .ok (.aload_n 0, 1) := by decide +kernel
theorem dX4_readNumber_32 : decode cX4_readNumber 32 = .ok (.getfield 59, 3) := by decide +kernel
theorem dX4_readNumber_35 : decode cX4_readNumber 35 = .ok (.bipush 10, 2) := by decide +kernel
theorem dX4_readNumber_37 : decode cX4_readNumber 37 = .ok (.imul, 1) := by decide +kernel
theorem dX4_readNumber_38 : decode cX4_readNumber 38 = .ok (.aload_n 0, 1) := by decide +kernel
theorem dX4_readNumber_39 : decode cX4_readNumber 39 = .ok (.getfield 15, 3) := by decide +kernel
theorem dX4_readNumber_42 : decode cX4_readNumber 42 = .ok (.aload_n 0, 1) := by decide +kernel
theorem dX4_readNumber_43 : decode cX4_readNumber 43 = .ok (.getfield 37, 3) := by decide +kernel
theorem dX4_readNumber_46 : decode cX4_readNumber 46 = .ok (.invokevirtual 75, 3) := by decide +kernel
theorem dX4_readNumber_49 : decode cX4_readNumber 49 = .ok (.iadd, 1) := by decide +kernel
theorem dX4_readNumber_50 : decode cX4_readNumber 50 = .ok (.bipush 48, 2) := by decide +kernel
theorem dX4_readNumber_52 : decode cX4_readNumber 52 = .ok (.isub, 1) := by decide +kernel
theorem dX4_readNumber_53 : decode cX4_readNumber 53 = .ok (.putfield 59, 3) := by decide +kernel
theorem dX4_readNumber_56 : decode cX4_readNumber 56 = .ok (.aload_n 0, 1) := by decide +kernel
theorem dX4_readNumber_57 : decode cX4_readNumber 57 = .ok (.dup, 1) := by decide +kernel
theorem dX4_readNumber_58 : decode cX4_readNumber 58 = .ok (.getfield 37, 3) := by decide +kernel
theorem dX4_readNumber_61 : decode cX4_readNumber 61 = .ok (.iconst 1, 1) := by decide +kernel
theorem dX4_readNumber_62 : decode cX4_readNumber 62 = .ok (.iadd, 1) := by decide +kernel
theorem dX4_readNumber_63 : decode cX4_readNumber 63 = .ok (.putfield 37, 3) := by decide +kernel
theorem dX4_readNumber_66 : decode cX4_readNumber 66 = .ok (.iinc 1 1, 3) := by decide +kernel
theorem dX4_readNumber_69 : decode cX4_readNumber 69 = .ok (.goto (-62), 3) := by decide +kernel
theorem dX4_readNumber_72 : decode cX4_readNumber 72 = .ok (.aload_n 0, 1) := by decide +kernel
theorem dX4_readNumber_73 : decode cX4_readNumber 73 = .ok (.aload_n 0, 1) := by decide +kernel
theorem dX4_readNumber_74 : decode cX4_readNumber 74 = .ok (.getfield 37, 3) := by decide +kernel
theorem dX4_readNumber_77 : decode cX4_readNumber 77 = .ok (.aload_n 0, 1) := by decide +kernel
theorem dX4_readNumber_78 : decode cX4_readNumber 78 = .ok (.getfield 23, 3) := by decide +kernel
theorem dX4_readNumber_81 : decode cX4_readNumber 81 = .ok (.isub, 1) := by decide +kernel
theorem dX4_readNumber_82 : decode cX4_readNumber 82 = .ok (.iconst 2, 1) := by decide +kernel
theorem dX4_readNumber_83 : decode cX4_readNumber 83 = .ok (.if_icmp .gt 7, 3) := by decide +kernel
theorem dX4_readNumber_86 : decode cX4_readNumber 86 = .ok (.iconst 2, 1) := by decide +kernel
theorem dX4_readNumber_87 : decode cX4_readNumber 87 = .ok (.goto 4, 3) := by decide +kernel
theorem dX4_readNumber_90 : decode cX4_readNumber 90 = .ok (.iconst 0, 1) := by decide +kernel
theorem dX4_readNumber_91 : decode cX4_readNumber 91 = .ok (.putfield 48, 3) := by decide +kernel
theorem dX4_readNumber_94 : decode cX4_readNumber 94 = .ok (.return_, 1) := by decide +kernel
theorem dX4_isLetter_0 : decode cX4_isLetter 0 = .ok (.iload_n 0, 1) := by decide +kernel
theorem dX4_isLetter_1 : decode cX4_isLetter 1 = .ok (.bipush 97, 2) := by decide +kernel
theorem dX4_isLetter_3 : decode cX4_isLetter 3 = .ok (.if_icmp .lt 13, 3) := by decide +kernel
theorem dX4_isLetter_6 : decode cX4_isLetter 6 = .ok (.iload_n 0, 1) := by decide +kernel
theorem dX4_isLetter_7 : decode cX4_isLetter 7 = .ok (.bipush 122, 2) := by decide +kernel
theorem dX4_isLetter_9 : decode cX4_isLetter 9 = .ok (.if_icmp .gt 7, 3) := by decide +kernel
theorem dX4_isLetter_12 : decode cX4_isLetter 12 = .ok (.iconst 1, 1) := by decide +kernel
theorem dX4_isLetter_13 : decode cX4_isLetter 13 = .ok (.goto 4, 3) := by decide +kernel
theorem dX4_isLetter_16 : decode cX4_isLetter 16 = .ok (.iconst 0, 1) := by decide +kernel
theorem dX4_isLetter_17 : decode cX4_isLetter 17 = .ok (.ireturn, 1) := by decide +kernel
theorem dX4_isFigure_0 : decode cX4_isFigure 0 = .ok (.iload_n 0, 1) := by decide +kernel
theorem dX4_isFigure_1 : decode cX4_isFigure 1 = .ok (.bipush 48, 2) := by decide +kernel
theorem dX4_isFigure_3 : decode cX4_isFigure 3 = .ok (.if_icmp .lt 13, 3) := by decide +kernel
theorem dX4_isFigure_6 : decode cX4_isFigure 6 = .ok (.iload_n 0, 1) := by decide +kernel
theorem dX4_isFigure_7 : decode cX4_isFigure 7 = .ok (.bipush 57, 2) := by decide +kernel
theorem dX4_isFigure_9 : decode cX4_isFigure 9 = .ok (.if_icmp .gt 7, 3) := by decide +kernel
theorem dX4_isFigure_12 : decode cX4_isFigure 12 = .ok (.iconst 1, 1) := by decide +kernel
theorem dX4_isFigure_13 : decode cX4_isFigure 13 = .ok (.goto 4, 3) := by decide +kernel
theorem dX4_isFigure_16 : decode cX4_isFigure 16 = .ok (.iconst 0, 1) := by decide +kernel
theorem dX4_isFigure_17 : decode cX4_isFigure 17 = .ok (.ireturn, 1) := by decide +kernel
theorem dX5_init_0 : decode cX5_init 0 = .ok (.aload_n 0, 1) := by decide +kernel
theorem dX5_init_1 : decode cX5_init 1 = .ok (.invokespecial 1, 3) := by decide +kernel
theorem dX5_init_4 : decode cX5_init 4 = .ok (.aload_n 0, 1) := by decide +kernel
theorem dX5_init_5 : decode cX5_init 5 = .ok (.bipush 8, 2) := by decide +kernel
theorem dX5_init_7 : decode cX5_init 7 = .ok (.newarray .int, 2) := by decide +kernel
theorem dX5_init_9 : decode cX5_init 9 = .ok (.putfield 9, 3) := by decide +kernel
theorem dX5_init_12 : decode cX5_init 12 = .ok (.aload_n 0, 1) := by decide +kernel
theorem dX5_init_13 : decode cX5_init 13 = .ok (.bipush 8, 2) := by decide +kernel
theorem dX5_init_15 : decode cX5_init 15 = .ok (.newarray .long, 2) := by decide +kernel
theorem dX5_init_17 : decode cX5_init 17 = .ok (.putfield 13, 3) := by decide +kernel
theorem dX5_init_20 : decode cX5_init 20 = .ok (.aload_n 0, 1) := by decide +kernel
theorem dX5_init_21 : decode cX5_init 21 = .ok (.bipush 64, 2) := by decide +kernel
theorem dX5_init_23 : decode cX5_init 23 = .ok (.newarray .long, 2) := by decide +kernel
theorem dX5_init_25 : decode cX5_init 25 = .ok (.putfield 17, 3) := by decide +kernel
theorem dX5_init_28 : decode cX5_init 28 = .ok (.aload_n 0, 1) := by decide +kernel
theorem dX5_init_29 : decode cX5_init 29 = .ok (.bipush 49, 2) := by decide +kernel
theorem dX5_init_31 : decode cX5_init 31 = .ok (.newarray .long, 2) := by decide +kernel
theorem dX5_init_33 : decode cX5_init 33 = .ok (.putfield 20, 3) := by decide +kernel
theorem dX5_init_36 : decode cX5_init 36 = .ok (.aload_n 0, 1) := by decide +kernel
theorem dX5_init_37 : decode cX5_init 37 = .ok (.bipush 64, 2) := by decide +kernel
theorem dX5_init_39 : decode cX5_init 39 = .ok (.newarray .long, 2) := by decide +kernel
theorem dX5_init_41 : decode cX5_init 41 = .ok (.putfield 25, 3) := by decide +kernel
theorem dX5_init_44 : decode cX5_init 44 = .ok (.aload_n 0, 1) := by decide +kernel
theorem dX5_init_45 : decode cX5_init 45 = .ok (.aload_n 1, 1) := by decide +kernel
theorem dX5_init_46 : decode cX5_init 46 = .ok (.putfield 28, 3) := by decide +kernel
theorem dX5_init_49 : decode cX5_init 49 = .ok (.return_, 1) := by decide +kernel
theorem dX5_forget_0 : decode cX5_forget 0 = .ok (.aload_n 0, 1) := by decide +kernel
theorem dX5_forget_1 : decode cX5_forget 1 = .ok (.lconst 0, 1) := by decide +kernel
theorem dX5_forget_2 : decode cX5_forget 2 = .ok (.putfield 32, 3) := by decide +kernel
theorem dX5_forget_5 : decode cX5_forget 5 = .ok (.return_, 1) := by decide +kernel
theorem dX5_weighPart_0 : decode cX5_weighPart 0 = .ok (.lload_n 1, 1) := by decide +kernel
theorem dX5_weighPart_1 : decode cX5_weighPart 1 = .ok (.aload_n 0, 1) := by decide +kernel
theorem dX5_weighPart_2 : decode cX5_weighPart 2 = .ok (.getfield 32, 3) := by decide +kernel
theorem dX5_weighPart_5 : decode cX5_weighPart 5 = .ok (.lcmp, 1) := by decide +kernel
theorem dX5_weighPart_6 : decode cX5_weighPart 6 = .ok (.ifCond .ne 4, 3) := by decide +kernel
theorem dX5_weighPart_9 : decode cX5_weighPart 9 = .ok (.return_, 1) := by decide +kernel
theorem dX5_weighPart_10 : decode cX5_weighPart 10 = .ok (.aload_n 0, 1) := by decide +kernel
theorem dX5_weighPart_11 : decode cX5_weighPart 11 = .ok (.lload_n 1, 1) := by decide +kernel
theorem dX5_weighPart_12 : decode cX5_weighPart 12 = .ok (.putfield 32, 3) := by decide +kernel
theorem dX5_weighPart_15 : decode cX5_weighPart 15 = .ok (.aload_n 0, 1) := by decide +kernel
theorem dX5_weighPart_16 : decode cX5_weighPart 16 = .ok (.lload_n 1, 1) := by decide +kernel
theorem dX5_weighPart_17 : decode cX5_weighPart 17 = .ok (.invokevirtual 36, 3) := by decide +kernel
theorem dX5_weighPart_20 : decode cX5_weighPart 20 = .ok (.aload_n 0, 1) := by decide +kernel
theorem dX5_weighPart_21 : decode cX5_weighPart 21 = .ok (.invokevirtual 40, 3) := by decide +kernel
theorem dX5_weighPart_24 : decode cX5_weighPart 24 = .ok (.aload_n 0, 1) := by decide +kernel
theorem dX5_weighPart_25 : decode cX5_weighPart 25 = .ok (.lconst 0, 1) := by decide +kernel
theorem dX5_weighPart_26 : decode cX5_weighPart 26 = .ok (.putfield 43, 3) := by decide +kernel
theorem dX5_weighPart_29 : decode cX5_weighPart 29 = .ok (.iconst 0, 1) := by decide +kernel
theorem dX5_weighPart_30 : decode cX5_weighPart 30 = .ok (.istore_n 3, 1) := by decide +kernel
theorem dX5_weighPart_31 : decode cX5_weighPart 31 = .ok (.iload_n 3, 1) := by decide +kernel
theorem dX5_weighPart_32 : decode cX5_weighPart 32 = .ok (.aload_n 0, 1) := by decide +kernel
theorem dX5_weighPart_33 : decode cX5_weighPart 33 = .ok (.getfield 46, 3) := by decide +kernel
theorem dX5_weighPart_36 : decode cX5_weighPart 36 = .ok (.if_icmp .ge 35, 3) := by decide +kernel
theorem dX5_weighPart_39 : decode cX5_weighPart 39 = .ok (.aload_n 0, 1) := by decide +kernel
theorem dX5_weighPart_40 : decode cX5_weighPart 40 = .ok (.getfield 13, 3) := by decide +kernel
theorem dX5_weighPart_43 : decode cX5_weighPart 43 = .ok (.iload_n 3, 1) := by decide +kernel
theorem dX5_weighPart_44 : decode cX5_weighPart 44 = .ok (.aload_n 0, 1) := by decide +kernel
theorem dX5_weighPart_45 : decode cX5_weighPart 45 = .ok (.iload_n 3, 1) := by decide +kernel
theorem dX5_weighPart_46 : decode cX5_weighPart 46 = .ok (.invokevirtual 50, 3) := by decide +kernel
theorem dX5_weighPart_49 : decode cX5_weighPart 49 = .ok (.lastore, 1) := by decide +kernel
theorem dX5_weighPart_50 : decode cX5_weighPart 50 = .ok (.aload_n 0, 1) := by decide +kernel
theorem dX5_weighPart_51 : decode cX5_weighPart 51 = .ok (.dup, 1) := by decide +kernel
theorem dX5_weighPart_52 : decode cX5_weighPart 52 = .ok (.getfield 43, 3) := by decide +kernel
theorem dX5_weighPart_55 : decode cX5_weighPart 55 = .ok (.aload_n 0, 1) := by decide +kernel
theorem dX5_weighPart_56 : decode cX5_weighPart 56 = .ok (.getfield 13, 3) := by decide +kernel
theorem dX5_weighPart_59 : decode cX5_weighPart 59 = .ok (.iload_n 3, 1) := by decide +kernel
theorem dX5_weighPart_60 : decode cX5_weighPart 60 = .ok (.laload, 1) := by decide +kernel
theorem dX5_weighPart_61 : decode cX5_weighPart 61 = .ok (.ladd, 1) := by decide +kernel
theorem dX5_weighPart_62 : decode cX5_weighPart 62 = .ok (.putfield 43, 3) := by decide +kernel
theorem dX5_weighPart_65 : decode cX5_weighPart 65 = .ok (.iinc 3 1, 3) := by decide +kernel
theorem dX5_weighPart_68 : decode cX5_weighPart 68 = .ok (.goto (-37), 3) := by decide +kernel
theorem dX5_weighPart_71 : decode cX5_weighPart 71 = .ok (.return_, 1) := by decide +kernel
theorem dX5_listStates_0 : decode cX5_listStates 0 = .ok (.aload_n 0, 1) := by decide +kernel
theorem dX5_listStates_1 : decode cX5_listStates 1 = .ok (.iconst 0, 1) := by decide +kernel
theorem dX5_listStates_2 : decode cX5_listStates 2 = .ok (.putfield 46, 3) := by decide +kernel
theorem dX5_listStates_5 : decode cX5_listStates 5 = .ok (.iconst 0, 1) := by decide +kernel
theorem dX5_listStates_6 : decode cX5_listStates 6 = .ok (.istore_n 3, 1) := by decide +kernel
theorem dX5_listStates_7 : decode cX5_listStates 7 = .ok (.iload_n 3, 1) := by decide +kernel
theorem dX5_listStates_8 : decode cX5_listStates 8 = .ok (.bipush 64, 2) := by decide +kernel
theorem dX5_listStates_10 : decode cX5_listStates 10 = .ok (.if_icmp .ge 48, 3) := by decide +kernel
theorem dX5_listStates_13 : decode cX5_listStates 13 = .ok (.aload_n 0, 1) := by decide +kernel
theorem dX5_listStates_14 : decode cX5_listStates 14 = .ok (.getfield 46, 3) := by decide +kernel
theorem dX5_listStates_17 : decode cX5_listStates 17 = .ok (.bipush 8, 2) := by decide +kernel
theorem dX5_listStates_19 : decode cX5_listStates 19 = .ok (.if_icmp .ge 39, 3) := by decide +kernel
theorem dX5_listStates_22 : decode cX5_listStates 22 = .ok (.lload_n 1, 1) := by decide +kernel
theorem dX5_listStates_23 : decode cX5_listStates 23 = .ok (.iload_n 3, 1) := by decide +kernel
theorem dX5_listStates_24 : decode cX5_listStates 24 = .ok (.lushr, 1) := by decide +kernel
theorem dX5_listStates_25 : decode cX5_listStates 25 = .ok (.lconst 1, 1) := by decide +kernel
theorem dX5_listStates_26 : decode cX5_listStates 26 = .ok (.land, 1) := by decide +kernel
theorem dX5_listStates_27 : decode cX5_listStates 27 = .ok (.lconst 1, 1) := by decide +kernel
theorem dX5_listStates_28 : decode cX5_listStates 28 = .ok (.lcmp, 1) := by decide +kernel
theorem dX5_listStates_29 : decode cX5_listStates 29 = .ok (.ifCond .ne 23, 3) := by decide +kernel
theorem dX5_listStates_32 : decode cX5_listStates 32 = .ok (.aload_n 0, 1) := by decide +kernel
theorem dX5_listStates_33 : decode cX5_listStates 33 = .ok (.getfield 9, 3) := by decide +kernel
theorem dX5_listStates_36 : decode cX5_listStates 36 = .ok (.aload_n 0, 1) := by decide +kernel
theorem dX5_listStates_37 : decode cX5_listStates 37 = .ok (.getfield 46, 3) := by decide +kernel
theorem dX5_listStates_40 : decode cX5_listStates 40 = .ok (.iload_n 3, 1) := by decide +kernel
theorem dX5_listStates_41 : decode cX5_listStates 41 = .ok (.iastore, 1) := by decide +kernel
theorem dX5_listStates_42 : decode cX5_listStates 42 = .ok (.aload_n 0, 1) := by decide +kernel
theorem dX5_listStates_43 : decode cX5_listStates 43 = .ok (.dup, 1) := by decide +kernel
theorem dX5_listStates_44 : decode cX5_listStates 44 = .ok (.getfield 46, 3) := by decide +kernel
theorem dX5_listStates_47 : decode cX5_listStates 47 = .ok (.iconst 1, 1) := by decide +kernel
theorem dX5_listStates_48 : decode cX5_listStates 48 = .ok (.iadd, 1) := by decide +kernel
theorem dX5_listStates_49 : decode cX5_listStates 49 = .ok (.putfield 46, 3) := by decide +kernel
theorem dX5_listStates_52 : decode cX5_listStates 52 = .ok (.iinc 3 1, 3) := by decide +kernel
theorem dX5_listStates_55 : decode cX5_listStates 55 = .ok (.goto (-48), 3) := by decide +kernel
theorem dX5_listStates_58 : decode cX5_listStates 58 = .ok (.return_, 1) := by decide +kernel
theorem dX5_fillOutflow_0 : decode cX5_fillOutflow 0 = .ok (.iconst 0, 1) := by decide +kernel
theorem dX5_fillOutflow_1 : decode cX5_fillOutflow 1 = .ok (.istore_n 1, 1) := by decide +kernel
theorem dX5_fillOutflow_2 : decode cX5_fillOutflow 2 = .ok (.iload_n 1, 1) := by decide +kernel
theorem dX5_fillOutflow_3 : decode cX5_fillOutflow 3 = .ok (.aload_n 0, 1) := by decide +kernel
theorem dX5_fillOutflow_4 : decode cX5_fillOutflow 4 = .ok (.getfield 46, 3) := by decide +kernel
theorem dX5_fillOutflow_7 : decode cX5_fillOutflow 7 = .ok (.if_icmp .ge 78, 3) := by decide +kernel
theorem dX5_fillOutflow_10 : decode cX5_fillOutflow 10 = .ok (.iconst 0, 1) := by decide +kernel
theorem dX5_fillOutflow_11 : decode cX5_fillOutflow 11 = .ok (.istore_n 2, 1) := by decide +kernel
theorem dX5_fillOutflow_12 : decode cX5_fillOutflow 12 = .ok (.iload_n 2, 1) := by decide +kernel
theorem dX5_fillOutflow_13 : decode cX5_fillOutflow 13 = .ok (.aload_n 0, 1) := by decide +kernel
theorem dX5_fillOutflow_14 : decode cX5_fillOutflow 14 = .ok (.getfield 46, 3) := by decide +kernel
theorem dX5_fillOutflow_17 : decode cX5_fillOutflow 17 = .ok (.if_icmp .ge 62, 3) := by decide +kernel
theorem dX5_fillOutflow_20 : decode cX5_fillOutflow 20 = .ok (.aload_n 0, 1) := by decide +kernel
theorem dX5_fillOutflow_21 : decode cX5_fillOutflow 21 = .ok (.getfield 9, 3) := by decide +kernel
theorem dX5_fillOutflow_24 : decode cX5_fillOutflow 24 = .ok (.iload_n 1, 1) := by decide +kernel
theorem dX5_fillOutflow_25 : decode cX5_fillOutflow 25 = .ok (.iaload, 1) := by decide +kernel
theorem dX5_fillOutflow_26 : decode cX5_fillOutflow 26 = .ok (.istore_n 3, 1) := by decide +kernel
theorem dX5_fillOutflow_27 : decode cX5_fillOutflow 27 = .ok (.aload_n 0, 1) := by decide +kernel
theorem dX5_fillOutflow_28 : decode cX5_fillOutflow 28 = .ok (.getfield 17, 3) := by decide +kernel
theorem dX5_fillOutflow_31 : decode cX5_fillOutflow 31 = .ok (.iload_n 1, 1) := by decide +kernel
theorem dX5_fillOutflow_32 : decode cX5_fillOutflow 32 = .ok (.aload_n 0, 1) := by decide +kernel
theorem dX5_fillOutflow_33 : decode cX5_fillOutflow 33 = .ok (.getfield 46, 3) := by decide +kernel
theorem dX5_fillOutflow_36 : decode cX5_fillOutflow 36 = .ok (.imul, 1) := by decide +kernel
theorem dX5_fillOutflow_37 : decode cX5_fillOutflow 37 = .ok (.iload_n 2, 1) := by decide +kernel
theorem dX5_fillOutflow_38 : decode cX5_fillOutflow 38 = .ok (.iadd, 1) := by decide +kernel
theorem dX5_fillOutflow_39 : decode cX5_fillOutflow 39 = .ok (.iload_n 1, 1) := by decide +kernel
theorem dX5_fillOutflow_40 : decode cX5_fillOutflow 40 = .ok (.iload_n 2, 1) := by decide +kernel
theorem dX5_fillOutflow_41 : decode cX5_fillOutflow 41 = .ok (.if_icmp .ne 15, 3) := by decide +kernel
theorem dX5_fillOutflow_44 : decode cX5_fillOutflow 44 = .ok (.aload_n 0, 1) := by decide +kernel
theorem dX5_fillOutflow_45 : decode cX5_fillOutflow 45 = .ok (.getfield 28, 3) := by decide +kernel
theorem dX5_fillOutflow_48 : decode cX5_fillOutflow 48 = .ok (.iload_n 3, 1) := by decide +kernel
theorem dX5_fillOutflow_49 : decode cX5_fillOutflow 49 = .ok (.invokevirtual 54, 3) := by decide +kernel
theorem dX5_fillOutflow_52 : decode cX5_fillOutflow 52 = .ok (.i2l, 1) := by decide +kernel
theorem dX5_fillOutflow_53 : decode cX5_fillOutflow 53 = .ok (.goto 19, 3) := by decide +kernel
theorem dX5_fillOutflow_56 : decode cX5_fillOutflow 56 = .ok (.aload_n 0, 1) := by decide +kernel
theorem dX5_fillOutflow_57 : decode cX5_fillOutflow 57 = .ok (.getfield 28, 3) := by decide +kernel
theorem dX5_fillOutflow_60 : decode cX5_fillOutflow 60 = .ok (.iload_n 3, 1) := by decide +kernel
theorem dX5_fillOutflow_61 : decode cX5_fillOutflow 61 = .ok (.aload_n 0, 1) := by decide +kernel
theorem dX5_fillOutflow_62 : decode cX5_fillOutflow 62 = .ok (.getfield 9, 3) := by decide +kernel
theorem dX5_fillOutflow_65 : decode cX5_fillOutflow 65 = .ok (.iload_n 2, 1) := by decide +kernel
theorem dX5_fillOutflow_66 : decode cX5_fillOutflow 66 = .ok (.iaload, 1) := by decide +kernel
theorem dX5_fillOutflow_67 : decode cX5_fillOutflow 67 = .ok (.invokevirtual 58, 3) := by decide +kernel
theorem dX5_fillOutflow_70 : decode cX5_fillOutflow 70 = .ok (.ineg, 1) := by decide +kernel
theorem dX5_fillOutflow_71 : decode cX5_fillOutflow 71 = .ok (.i2l, 1) := by decide +kernel
theorem dX5_fillOutflow_72 : decode cX5_fillOutflow 72 = .ok (.lastore, 1) := by decide +kernel
theorem dX5_fillOutflow_73 : decode cX5_fillOutflow 73 = .ok (.iinc 2 1, 3) := by decide +kernel
theorem dX5_fillOutflow_76 : decode cX5_fillOutflow 76 = .ok (.goto (-64), 3) := by decide +kernel
theorem dX5_fillOutflow_79 : decode cX5_fillOutflow 79 = .ok (.iinc 1 1, 3) := by decide +kernel
theorem dX5_fillOutflow_82 : decode cX5_fillOutflow 82 = .ok (.goto (-80), 3) := by decide +kernel
theorem dX5_fillOutflow_85 : decode cX5_fillOutflow 85 = .ok (.return_, 1) := by decide +kernel
theorem dX5_treesTo_0 : decode cX5_treesTo 0 = .ok (.iconst 0, 1) := by decide +kernel
theorem dX5_treesTo_1 : decode cX5_treesTo 1 = .ok (.istore_n 2, 1) := by decide +kernel
theorem dX5_treesTo_2 : decode cX5_treesTo 2 = .ok (.iconst 0, 1) := by decide +kernel
theorem dX5_treesTo_3 : decode cX5_treesTo 3 = .ok (.istore_n 3, 1) := by decide +kernel
theorem dX5_treesTo_4 : decode cX5_treesTo 4 = .ok (.iload_n 3, 1) := by decide +kernel
theorem dX5_treesTo_5 : decode cX5_treesTo 5 = .ok (.aload_n 0, 1) := by decide +kernel
theorem dX5_treesTo_6 : decode cX5_treesTo 6 = .ok (.getfield 46, 3) := by decide +kernel
theorem dX5_treesTo_9 : decode cX5_treesTo 9 = .ok (.if_icmp .ge 70, 3) := by decide +kernel
theorem dX5_treesTo_12 : decode cX5_treesTo 12 = .ok (.iconst 0, 1) := by decide +kernel
theorem dX5_treesTo_13 : decode cX5_treesTo 13 = .ok (.istore 4, 2) := by decide +kernel
theorem dX5_treesTo_15 : decode cX5_treesTo 15 = .ok (.iload 4, 2) := by decide +kernel
theorem dX5_treesTo_17 : decode cX5_treesTo 17 = .ok (.aload_n 0, 1) := by decide +kernel
theorem dX5_treesTo_18 : decode cX5_treesTo 18 = .ok (.getfield 46, 3) := by decide +kernel
theorem dX5_treesTo_21 : decode cX5_treesTo 21 = .ok (.if_icmp .ge 52, 3) := by decide +kernel
theorem dX5_treesTo_24 : decode cX5_treesTo 24 = .ok (.iload_n 3, 1) := by decide +kernel
theorem dX5_treesTo_25 : decode cX5_treesTo 25 = .ok (.iload_n 1, 1) := by decide +kernel
theorem dX5_treesTo_26 : decode cX5_treesTo 26 = .ok (.if_icmp .eq 41, 3) := by decide +kernel
theorem dX5_treesTo_29 : decode cX5_treesTo 29 = .ok (.iload 4, 2) := by decide +kernel
theorem dX5_treesTo_31 : decode cX5_treesTo 31 = .ok (.iload_n 1, 1) := by decide +kernel
theorem dX5_treesTo_32 : decode cX5_treesTo 32 = .ok (.if_icmp .eq 35, 3) := by decide +kernel
theorem dX5_treesTo_35 : decode cX5_treesTo 35 = .ok (.iload_n 2, 1) := by decide +kernel
theorem dX5_treesTo_36 : decode cX5_treesTo 36 = .ok (.aload_n 0, 1) := by decide +kernel
theorem dX5_treesTo_37 : decode cX5_treesTo 37 = .ok (.getfield 20, 3) := by decide +kernel
theorem dX5_treesTo_40 : decode cX5_treesTo 40 = .ok (.arraylength, 1) := by decide +kernel
theorem dX5_treesTo_41 : decode cX5_treesTo 41 = .ok (.if_icmp .ge 26, 3) := by decide +kernel
theorem dX5_treesTo_44 : decode cX5_treesTo 44 = .ok (.aload_n 0, 1) := by decide +kernel
theorem dX5_treesTo_45 : decode cX5_treesTo 45 = .ok (.getfield 20, 3) := by decide +kernel
theorem dX5_treesTo_48 : decode cX5_treesTo 48 = .ok (.iload_n 2, 1) := by decide +kernel
theorem dX5_treesTo_49 : decode cX5_treesTo 49 = .ok (.aload_n 0, 1) := by decide +kernel
theorem dX5_treesTo_50 : decode cX5_treesTo 50 = .ok (.getfield 17, 3) := by decide +kernel
theorem dX5_treesTo_53 : decode cX5_treesTo 53 = .ok (.iload_n 3, 1) := by decide +kernel
theorem dX5_treesTo_54 : decode cX5_treesTo 54 = .ok (.aload_n 0, 1) := by decide +kernel
theorem dX5_treesTo_55 : decode cX5_treesTo 55 = .ok (.getfield 46, 3) := by decide +kernel
theorem dX5_treesTo_58 : decode cX5_treesTo 58 = .ok (.imul, 1) := by decide +kernel
theorem dX5_treesTo_59 : decode cX5_treesTo 59 = .ok (.iload 4, 2) := by decide +kernel
theorem dX5_treesTo_61 : decode cX5_treesTo 61 = .ok (.iadd, 1) := by decide +kernel
theorem dX5_treesTo_62 : decode cX5_treesTo 62 = .ok (.laload, 1) := by decide +kernel
theorem dX5_treesTo_63 : decode cX5_treesTo 63 = .ok (.lastore, 1) := by decide +kernel
theorem dX5_treesTo_64 : decode cX5_treesTo 64 = .ok (.iinc 2 1, 3) := by decide +kernel
theorem dX5_treesTo_67 : decode cX5_treesTo 67 = .ok (.iinc 4 1, 3) := by decide +kernel
theorem dX5_treesTo_70 : decode cX5_treesTo 70 = .ok (.goto (-55), 3) := by decide +kernel
theorem dX5_treesTo_73 : decode cX5_treesTo 73 = .ok (.iinc 3 1, 3) := by decide +kernel
theorem dX5_treesTo_76 : decode cX5_treesTo 76 = .ok (.goto (-72), 3) := by decide +kernel
theorem dX5_treesTo_79 : decode cX5_treesTo 79 = .ok (.aload_n 0, 1) := by decide +kernel
theorem dX5_treesTo_80 : decode cX5_treesTo 80 = .ok (.getfield 20, 3) := by decide +kernel
theorem dX5_treesTo_83 : decode cX5_treesTo 83 = .ok (.aload_n 0, 1) := by decide +kernel
theorem dX5_treesTo_84 : decode cX5_treesTo 84 = .ok (.getfield 46, 3) := by decide +kernel
theorem dX5_treesTo_87 : decode cX5_treesTo 87 = .ok (.iconst 1, 1) := by decide +kernel
theorem dX5_treesTo_88 : decode cX5_treesTo 88 = .ok (.isub, 1) := by decide +kernel
theorem dX5_treesTo_89 : decode cX5_treesTo 89 = .ok (.invokestatic 62, 3) := by decide +kernel
theorem dX5_treesTo_92 : decode cX5_treesTo 92 = .ok (.lreturn, 1) := by decide +kernel
theorem dX5_total_0 : decode cX5_total 0 = .ok (.aload_n 0, 1) := by decide +kernel
theorem dX5_total_1 : decode cX5_total 1 = .ok (.getfield 43, 3) := by decide +kernel
theorem dX5_total_4 : decode cX5_total 4 = .ok (.lreturn, 1) := by decide +kernel
theorem dX5_weightOf_0 : decode cX5_weightOf 0 = .ok (.iconst 0, 1) := by decide +kernel
theorem dX5_weightOf_1 : decode cX5_weightOf 1 = .ok (.istore_n 2, 1) := by decide +kernel
theorem dX5_weightOf_2 : decode cX5_weightOf 2 = .ok (.iload_n 2, 1) := by decide +kernel
theorem dX5_weightOf_3 : decode cX5_weightOf 3 = .ok (.aload_n 0, 1) := by decide +kernel
theorem dX5_weightOf_4 : decode cX5_weightOf 4 = .ok (.getfield 46, 3) := by decide +kernel
theorem dX5_weightOf_7 : decode cX5_weightOf 7 = .ok (.if_icmp .ge 26, 3) := by decide +kernel
theorem dX5_weightOf_10 : decode cX5_weightOf 10 = .ok (.aload_n 0, 1) := by decide +kernel
theorem dX5_weightOf_11 : decode cX5_weightOf 11 = .ok (.getfield 9, 3) := by decide +kernel
theorem dX5_weightOf_14 : decode cX5_weightOf 14 = .ok (.iload_n 2, 1) := by decide +kernel
theorem dX5_weightOf_15 : decode cX5_weightOf 15 = .ok (.iaload, 1) := by decide +kernel
theorem dX5_weightOf_16 : decode cX5_weightOf 16 = .ok (.iload_n 1, 1) := by decide +kernel
theorem dX5_weightOf_17 : decode cX5_weightOf 17 = .ok (.if_icmp .ne 10, 3) := by decide +kernel
theorem dX5_weightOf_20 : decode cX5_weightOf 20 = .ok (.aload_n 0, 1) := by decide +kernel
theorem dX5_weightOf_21 : decode cX5_weightOf 21 = .ok (.getfield 13, 3) := by decide +kernel
theorem dX5_weightOf_24 : decode cX5_weightOf 24 = .ok (.iload_n 2, 1) := by decide +kernel
theorem dX5_weightOf_25 : decode cX5_weightOf 25 = .ok (.laload, 1) := by decide +kernel
theorem dX5_weightOf_26 : decode cX5_weightOf 26 = .ok (.lreturn, 1) := by decide +kernel
theorem dX5_weightOf_27 : decode cX5_weightOf 27 = .ok (.iinc 2 1, 3) := by decide +kernel
theorem dX5_weightOf_30 : decode cX5_weightOf 30 = .ok (.goto (-28), 3) := by decide +kernel
theorem dX5_weightOf_33 : decode cX5_weightOf 33 = .ok (.lconst 0, 1) := by decide +kernel
theorem dX5_weightOf_34 : decode cX5_weightOf 34 = .ok (.lreturn, 1) := by decide +kernel
theorem dX5_passing_0 : decode cX5_passing 0 = .ok (.lconst 0, 1) := by decide +kernel
theorem dX5_passing_1 : decode cX5_passing 1 = .ok (.lstore_n 1, 1) := by decide +kernel
theorem dX5_passing_2 : decode cX5_passing 2 = .ok (.iconst 0, 1) := by decide +kernel
theorem dX5_passing_3 : decode cX5_passing 3 = .ok (.istore_n 3, 1) := by decide +kernel
theorem dX5_passing_4 : decode cX5_passing 4 = .ok (.iload_n 3, 1) := by decide +kernel
theorem dX5_passing_5 : decode cX5_passing 5 = .ok (.aload_n 0, 1) := by decide +kernel
theorem dX5_passing_6 : decode cX5_passing 6 = .ok (.getfield 46, 3) := by decide +kernel
theorem dX5_passing_9 : decode cX5_passing 9 = .ok (.if_icmp .ge 33, 3) := by decide +kernel
theorem dX5_passing_12 : decode cX5_passing 12 = .ok (.lload_n 1, 1) := by decide +kernel
theorem dX5_passing_13 : decode cX5_passing 13 = .ok (.aload_n 0, 1) := by decide +kernel
theorem dX5_passing_14 : decode cX5_passing 14 = .ok (.getfield 13, 3) := by decide +kernel
theorem dX5_passing_17 : decode cX5_passing 17 = .ok (.iload_n 3, 1) := by decide +kernel
theorem dX5_passing_18 : decode cX5_passing 18 = .ok (.laload, 1) := by decide +kernel
theorem dX5_passing_19 : decode cX5_passing 19 = .ok (.aload_n 0, 1) := by decide +kernel
theorem dX5_passing_20 : decode cX5_passing 20 = .ok (.getfield 28, 3) := by decide +kernel
theorem dX5_passing_23 : decode cX5_passing 23 = .ok (.aload_n 0, 1) := by decide +kernel
theorem dX5_passing_24 : decode cX5_passing 24 = .ok (.getfield 9, 3) := by decide +kernel
theorem dX5_passing_27 : decode cX5_passing 27 = .ok (.iload_n 3, 1) := by decide +kernel
theorem dX5_passing_28 : decode cX5_passing 28 = .ok (.iaload, 1) := by decide +kernel
theorem dX5_passing_29 : decode cX5_passing 29 = .ok (.invokevirtual 68, 3) := by decide +kernel
theorem dX5_passing_32 : decode cX5_passing 32 = .ok (.i2l, 1) := by decide +kernel
theorem dX5_passing_33 : decode cX5_passing 33 = .ok (.lmul, 1) := by decide +kernel
theorem dX5_passing_34 : decode cX5_passing 34 = .ok (.ladd, 1) := by decide +kernel
theorem dX5_passing_35 : decode cX5_passing 35 = .ok (.lstore_n 1, 1) := by decide +kernel
theorem dX5_passing_36 : decode cX5_passing 36 = .ok (.iinc 3 1, 3) := by decide +kernel
theorem dX5_passing_39 : decode cX5_passing 39 = .ok (.goto (-35), 3) := by decide +kernel
theorem dX5_passing_42 : decode cX5_passing 42 = .ok (.lload_n 1, 1) := by decide +kernel
theorem dX5_passing_43 : decode cX5_passing 43 = .ok (.lreturn, 1) := by decide +kernel
theorem dX5_agreesBothWays_0 : decode cX5_agreesBothWays 0 = .ok (.iconst 0, 1) := by decide +kernel
theorem dX5_agreesBothWays_1 : decode cX5_agreesBothWays 1 = .ok (.istore_n 1, 1) := by decide +kernel
theorem dX5_agreesBothWays_2 : decode cX5_agreesBothWays 2 = .ok (.iload_n 1, 1) := by decide +kernel
theorem dX5_agreesBothWays_3 : decode cX5_agreesBothWays 3 = .ok (.aload_n 0, 1) := by decide +kernel
theorem dX5_agreesBothWays_4 : decode cX5_agreesBothWays 4 = .ok (.getfield 46, 3) := by decide +kernel
theorem dX5_agreesBothWays_7 : decode cX5_agreesBothWays 7 = .ok (.if_icmp .ge 68, 3) := by decide +kernel
theorem dX5_agreesBothWays_10 : decode cX5_agreesBothWays 10 = .ok (.iconst 0, 1) := by decide +kernel
theorem dX5_agreesBothWays_11 : decode cX5_agreesBothWays 11 = .ok (.istore_n 2, 1) := by decide +kernel
theorem dX5_agreesBothWays_12 : decode cX5_agreesBothWays 12 = .ok (.iload_n 2, 1) := by decide +kernel
theorem dX5_agreesBothWays_13 : decode cX5_agreesBothWays 13 = .ok (.iload_n 1, 1) := by decide +kernel
theorem dX5_agreesBothWays_14 : decode cX5_agreesBothWays 14 = .ok (.if_icmp .ge 55, 3) := by decide +kernel
theorem dX5_agreesBothWays_17 : decode cX5_agreesBothWays 17 = .ok (.aload_n 0, 1) := by decide +kernel
theorem dX5_agreesBothWays_18 : decode cX5_agreesBothWays 18 = .ok (.getfield 13, 3) := by decide +kernel
theorem dX5_agreesBothWays_21 : decode cX5_agreesBothWays 21 = .ok (.iload_n 1, 1) := by decide +kernel
theorem dX5_agreesBothWays_22 : decode cX5_agreesBothWays 22 = .ok (.laload, 1) := by decide +kernel
theorem dX5_agreesBothWays_23 : decode cX5_agreesBothWays 23 = .ok (.aload_n 0, 1) := by decide +kernel
theorem dX5_agreesBothWays_24 : decode cX5_agreesBothWays 24 = .ok (.getfield 17, 3) := by decide +kernel
theorem dX5_agreesBothWays_27 : decode cX5_agreesBothWays 27 = .ok (.iload_n 1, 1) := by decide +kernel
theorem dX5_agreesBothWays_28 : decode cX5_agreesBothWays 28 = .ok (.aload_n 0, 1) := by decide +kernel
theorem dX5_agreesBothWays_29 : decode cX5_agreesBothWays 29 = .ok (.getfield 46, 3) := by decide +kernel
theorem dX5_agreesBothWays_32 : decode cX5_agreesBothWays 32 = .ok (.imul, 1) := by decide +kernel
theorem dX5_agreesBothWays_33 : decode cX5_agreesBothWays 33 = .ok (.iload_n 2, 1) := by decide +kernel
theorem dX5_agreesBothWays_34 : decode cX5_agreesBothWays 34 = .ok (.iadd, 1) := by decide +kernel
theorem dX5_agreesBothWays_35 : decode cX5_agreesBothWays 35 = .ok (.laload, 1) := by decide +kernel
theorem dX5_agreesBothWays_36 : decode cX5_agreesBothWays 36 = .ok (.lmul, 1) := by decide +kernel
theorem dX5_agreesBothWays_37 : decode cX5_agreesBothWays 37 = .ok (.aload_n 0, 1) := by decide +kernel
theorem dX5_agreesBothWays_38 : decode cX5_agreesBothWays 38 = .ok (.getfield 13, 3) := by decide +kernel
theorem dX5_agreesBothWays_41 : decode cX5_agreesBothWays 41 = .ok (.iload_n 2, 1) := by decide +kernel
theorem dX5_agreesBothWays_42 : decode cX5_agreesBothWays 42 = .ok (.laload, 1) := by decide +kernel
theorem dX5_agreesBothWays_43 : decode cX5_agreesBothWays 43 = .ok (.aload_n 0, 1) := by decide +kernel
theorem dX5_agreesBothWays_44 : decode cX5_agreesBothWays 44 = .ok (.getfield 17, 3) := by decide +kernel
theorem dX5_agreesBothWays_47 : decode cX5_agreesBothWays 47 = .ok (.iload_n 2, 1) := by decide +kernel
theorem dX5_agreesBothWays_48 : decode cX5_agreesBothWays 48 = .ok (.aload_n 0, 1) := by decide +kernel
theorem dX5_agreesBothWays_49 : decode cX5_agreesBothWays 49 = .ok (.getfield 46, 3) := by decide +kernel
theorem dX5_agreesBothWays_52 : decode cX5_agreesBothWays 52 = .ok (.imul, 1) := by decide +kernel
theorem dX5_agreesBothWays_53 : decode cX5_agreesBothWays 53 = .ok (.iload_n 1, 1) := by decide +kernel
theorem dX5_agreesBothWays_54 : decode cX5_agreesBothWays 54 = .ok (.iadd, 1) := by decide +kernel
theorem dX5_agreesBothWays_55 : decode cX5_agreesBothWays 55 = .ok (.laload, 1) := by decide +kernel
theorem dX5_agreesBothWays_56 : decode cX5_agreesBothWays 56 = .ok (.lmul, 1) := by decide +kernel
theorem dX5_agreesBothWays_57 : decode cX5_agreesBothWays 57 = .ok (.lcmp, 1) := by decide +kernel
theorem dX5_agreesBothWays_58 : decode cX5_agreesBothWays 58 = .ok (.ifCond .eq 5, 3) := by decide +kernel
theorem dX5_agreesBothWays_61 : decode cX5_agreesBothWays 61 = .ok (.iconst 0, 1) := by decide +kernel
theorem dX5_agreesBothWays_62 : decode cX5_agreesBothWays 62 = .ok (.ireturn, 1) := by decide +kernel
theorem dX5_agreesBothWays_63 : decode cX5_agreesBothWays 63 = .ok (.iinc 2 1, 3) := by decide +kernel
theorem dX5_agreesBothWays_66 : decode cX5_agreesBothWays 66 = .ok (.goto (-54), 3) := by decide +kernel
theorem dX5_agreesBothWays_69 : decode cX5_agreesBothWays 69 = .ok (.iinc 1 1, 3) := by decide +kernel
theorem dX5_agreesBothWays_72 : decode cX5_agreesBothWays 72 = .ok (.goto (-70), 3) := by decide +kernel
theorem dX5_agreesBothWays_75 : decode cX5_agreesBothWays 75 = .ok (.iconst 1, 1) := by decide +kernel
theorem dX5_agreesBothWays_76 : decode cX5_agreesBothWays 76 = .ok (.ireturn, 1) := by decide +kernel
theorem dX5_emptyShares_0 : decode cX5_emptyShares 0 = .ok (.iconst 0, 1) := by decide +kernel
theorem dX5_emptyShares_1 : decode cX5_emptyShares 1 = .ok (.istore_n 1, 1) := by decide +kernel
theorem dX5_emptyShares_2 : decode cX5_emptyShares 2 = .ok (.iload_n 1, 1) := by decide +kernel
theorem dX5_emptyShares_3 : decode cX5_emptyShares 3 = .ok (.aload_n 0, 1) := by decide +kernel
theorem dX5_emptyShares_4 : decode cX5_emptyShares 4 = .ok (.getfield 25, 3) := by decide +kernel
theorem dX5_emptyShares_7 : decode cX5_emptyShares 7 = .ok (.arraylength, 1) := by decide +kernel
theorem dX5_emptyShares_8 : decode cX5_emptyShares 8 = .ok (.if_icmp .ge 16, 3) := by decide +kernel
theorem dX5_emptyShares_11 : decode cX5_emptyShares 11 = .ok (.aload_n 0, 1) := by decide +kernel
theorem dX5_emptyShares_12 : decode cX5_emptyShares 12 = .ok (.getfield 25, 3) := by decide +kernel
theorem dX5_emptyShares_15 : decode cX5_emptyShares 15 = .ok (.iload_n 1, 1) := by decide +kernel
theorem dX5_emptyShares_16 : decode cX5_emptyShares 16 = .ok (.lconst 0, 1) := by decide +kernel
theorem dX5_emptyShares_17 : decode cX5_emptyShares 17 = .ok (.lastore, 1) := by decide +kernel
theorem dX5_emptyShares_18 : decode cX5_emptyShares 18 = .ok (.iinc 1 1, 3) := by decide +kernel
theorem dX5_emptyShares_21 : decode cX5_emptyShares 21 = .ok (.goto (-19), 3) := by decide +kernel
theorem dX5_emptyShares_24 : decode cX5_emptyShares 24 = .ok (.aload_n 0, 1) := by decide +kernel
theorem dX5_emptyShares_25 : decode cX5_emptyShares 25 = .ok (.lconst 0, 1) := by decide +kernel
theorem dX5_emptyShares_26 : decode cX5_emptyShares 26 = .ok (.putfield 71, 3) := by decide +kernel
theorem dX5_emptyShares_29 : decode cX5_emptyShares 29 = .ok (.return_, 1) := by decide +kernel
theorem dX5_pourShare_0 : decode cX5_pourShare 0 = .ok (.aload_n 0, 1) := by decide +kernel
theorem dX5_pourShare_1 : decode cX5_pourShare 1 = .ok (.dup, 1) := by decide +kernel
theorem dX5_pourShare_2 : decode cX5_pourShare 2 = .ok (.getfield 71, 3) := by decide +kernel
theorem dX5_pourShare_5 : decode cX5_pourShare 5 = .ok (.iload_n 2, 1) := by decide +kernel
theorem dX5_pourShare_6 : decode cX5_pourShare 6 = .ok (.i2l, 1) := by decide +kernel
theorem dX5_pourShare_7 : decode cX5_pourShare 7 = .ok (.ladd, 1) := by decide +kernel
theorem dX5_pourShare_8 : decode cX5_pourShare 8 = .ok (.putfield 71, 3) := by decide +kernel
theorem dX5_pourShare_11 : decode cX5_pourShare 11 = .ok (.iconst 0, 1) := by decide +kernel
theorem dX5_pourShare_12 : decode cX5_pourShare 12 = .ok (.istore_n 3, 1) := by decide +kernel
theorem dX5_pourShare_13 : decode cX5_pourShare 13 = .ok (.iload_n 3, 1) := by decide +kernel
theorem dX5_pourShare_14 : decode cX5_pourShare 14 = .ok (.aload_n 0, 1) := by decide +kernel
theorem dX5_pourShare_15 : decode cX5_pourShare 15 = .ok (.getfield 28, 3) := by decide +kernel
theorem dX5_pourShare_18 : decode cX5_pourShare 18 = .ok (.invokevirtual 74, 3) := by decide +kernel
theorem dX5_pourShare_21 : decode cX5_pourShare 21 = .ok (.if_icmp .ge 87, 3) := by decide +kernel
theorem dX5_pourShare_24 : decode cX5_pourShare 24 = .ok (.iload_n 2, 1) := by decide +kernel
theorem dX5_pourShare_25 : decode cX5_pourShare 25 = .ok (.i2l, 1) := by decide +kernel
theorem dX5_pourShare_26 : decode cX5_pourShare 26 = .ok (.aload_n 0, 1) := by decide +kernel
theorem dX5_pourShare_27 : decode cX5_pourShare 27 = .ok (.getfield 28, 3) := by decide +kernel
theorem dX5_pourShare_30 : decode cX5_pourShare 30 = .ok (.iload_n 1, 1) := by decide +kernel
theorem dX5_pourShare_31 : decode cX5_pourShare 31 = .ok (.iload_n 3, 1) := by decide +kernel
theorem dX5_pourShare_32 : decode cX5_pourShare 32 = .ok (.invokevirtual 78, 3) := by decide +kernel
theorem dX5_pourShare_35 : decode cX5_pourShare 35 = .ok (.i2l, 1) := by decide +kernel
theorem dX5_pourShare_36 : decode cX5_pourShare 36 = .ok (.lmul, 1) := by decide +kernel
theorem dX5_pourShare_37 : decode cX5_pourShare 37 = .ok (.lstore 4, 2) := by decide +kernel
theorem dX5_pourShare_39 : decode cX5_pourShare 39 = .ok (.iload_n 1, 1) := by decide +kernel
theorem dX5_pourShare_40 : decode cX5_pourShare 40 = .ok (.aload_n 0, 1) := by decide +kernel
theorem dX5_pourShare_41 : decode cX5_pourShare 41 = .ok (.getfield 28, 3) := by decide +kernel
theorem dX5_pourShare_44 : decode cX5_pourShare 44 = .ok (.iload_n 3, 1) := by decide +kernel
theorem dX5_pourShare_45 : decode cX5_pourShare 45 = .ok (.invokevirtual 81, 3) := by decide +kernel
theorem dX5_pourShare_48 : decode cX5_pourShare 48 = .ok (.ixor, 1) := by decide +kernel
theorem dX5_pourShare_49 : decode cX5_pourShare 49 = .ok (.istore 6, 2) := by decide +kernel
theorem dX5_pourShare_51 : decode cX5_pourShare 51 = .ok (.iload_n 1, 1) := by decide +kernel
theorem dX5_pourShare_52 : decode cX5_pourShare 52 = .ok (.ifCond .lt 50, 3) := by decide +kernel
theorem dX5_pourShare_55 : decode cX5_pourShare 55 = .ok (.iload_n 1, 1) := by decide +kernel
theorem dX5_pourShare_56 : decode cX5_pourShare 56 = .ok (.aload_n 0, 1) := by decide +kernel
theorem dX5_pourShare_57 : decode cX5_pourShare 57 = .ok (.getfield 25, 3) := by decide +kernel
theorem dX5_pourShare_60 : decode cX5_pourShare 60 = .ok (.arraylength, 1) := by decide +kernel
theorem dX5_pourShare_61 : decode cX5_pourShare 61 = .ok (.if_icmp .ge 41, 3) := by decide +kernel
theorem dX5_pourShare_64 : decode cX5_pourShare 64 = .ok (.iload 6, 2) := by decide +kernel
theorem dX5_pourShare_66 : decode cX5_pourShare 66 = .ok (.ifCond .lt 36, 3) := by decide +kernel
theorem dX5_pourShare_69 : decode cX5_pourShare 69 = .ok (.iload 6, 2) := by decide +kernel
theorem dX5_pourShare_71 : decode cX5_pourShare 71 = .ok (.aload_n 0, 1) := by decide +kernel
theorem dX5_pourShare_72 : decode cX5_pourShare 72 = .ok (.getfield 25, 3) := by decide +kernel
theorem dX5_pourShare_75 : decode cX5_pourShare 75 = .ok (.arraylength, 1) := by decide +kernel
theorem dX5_pourShare_76 : decode cX5_pourShare 76 = .ok (.if_icmp .ge 26, 3) := by decide +kernel
theorem dX5_pourShare_79 : decode cX5_pourShare 79 = .ok (.aload_n 0, 1) := by decide +kernel
theorem dX5_pourShare_80 : decode cX5_pourShare 80 = .ok (.getfield 25, 3) := by decide +kernel
theorem dX5_pourShare_83 : decode cX5_pourShare 83 = .ok (.iload_n 1, 1) := by decide +kernel
theorem dX5_pourShare_84 : decode cX5_pourShare 84 = .ok (.dup2, 1) := by decide +kernel
theorem dX5_pourShare_85 : decode cX5_pourShare 85 = .ok (.laload, 1) := by decide +kernel
theorem dX5_pourShare_86 : decode cX5_pourShare 86 = .ok (.lload 4, 2) := by decide +kernel
theorem dX5_pourShare_88 : decode cX5_pourShare 88 = .ok (.lsub, 1) := by decide +kernel
theorem dX5_pourShare_89 : decode cX5_pourShare 89 = .ok (.lastore, 1) := by decide +kernel
theorem dX5_pourShare_90 : decode cX5_pourShare 90 = .ok (.aload_n 0, 1) := by decide +kernel
theorem dX5_pourShare_91 : decode cX5_pourShare 91 = .ok (.getfield 25, 3) := by decide +kernel
theorem dX5_pourShare_94 : decode cX5_pourShare 94 = .ok (.iload 6, 2) := by decide +kernel
theorem dX5_pourShare_96 : decode cX5_pourShare 96 = .ok (.dup2, 1) := by decide +kernel
theorem dX5_pourShare_97 : decode cX5_pourShare 97 = .ok (.laload, 1) := by decide +kernel
theorem dX5_pourShare_98 : decode cX5_pourShare 98 = .ok (.lload 4, 2) := by decide +kernel
theorem dX5_pourShare_100 : decode cX5_pourShare 100 = .ok (.ladd, 1) := by decide +kernel
theorem dX5_pourShare_101 : decode cX5_pourShare 101 = .ok (.lastore, 1) := by decide +kernel
theorem dX5_pourShare_102 : decode cX5_pourShare 102 = .ok (.iinc 3 1, 3) := by decide +kernel
theorem dX5_pourShare_105 : decode cX5_pourShare 105 = .ok (.goto (-92), 3) := by decide +kernel
theorem dX5_pourShare_108 : decode cX5_pourShare 108 = .ok (.return_, 1) := by decide +kernel
theorem dX5_sharesStand_0 : decode cX5_sharesStand 0 = .ok (.iconst 0, 1) := by decide +kernel
theorem dX5_sharesStand_1 : decode cX5_sharesStand 1 = .ok (.istore_n 1, 1) := by decide +kernel
theorem dX5_sharesStand_2 : decode cX5_sharesStand 2 = .ok (.iload_n 1, 1) := by decide +kernel
theorem dX5_sharesStand_3 : decode cX5_sharesStand 3 = .ok (.aload_n 0, 1) := by decide +kernel
theorem dX5_sharesStand_4 : decode cX5_sharesStand 4 = .ok (.getfield 25, 3) := by decide +kernel
theorem dX5_sharesStand_7 : decode cX5_sharesStand 7 = .ok (.arraylength, 1) := by decide +kernel
theorem dX5_sharesStand_8 : decode cX5_sharesStand 8 = .ok (.if_icmp .ge 22, 3) := by decide +kernel
theorem dX5_sharesStand_11 : decode cX5_sharesStand 11 = .ok (.aload_n 0, 1) := by decide +kernel
theorem dX5_sharesStand_12 : decode cX5_sharesStand 12 = .ok (.getfield 25, 3) := by decide +kernel
theorem dX5_sharesStand_15 : decode cX5_sharesStand 15 = .ok (.iload_n 1, 1) := by decide +kernel
theorem dX5_sharesStand_16 : decode cX5_sharesStand 16 = .ok (.laload, 1) := by decide +kernel
theorem dX5_sharesStand_17 : decode cX5_sharesStand 17 = .ok (.lconst 0, 1) := by decide +kernel
theorem dX5_sharesStand_18 : decode cX5_sharesStand 18 = .ok (.lcmp, 1) := by decide +kernel
theorem dX5_sharesStand_19 : decode cX5_sharesStand 19 = .ok (.ifCond .eq 5, 3) := by decide +kernel
theorem dX5_sharesStand_22 : decode cX5_sharesStand 22 = .ok (.iconst 0, 1) := by decide +kernel
theorem dX5_sharesStand_23 : decode cX5_sharesStand 23 = .ok (.ireturn, 1) := by decide +kernel
theorem dX5_sharesStand_24 : decode cX5_sharesStand 24 = .ok (.iinc 1 1, 3) := by decide +kernel
theorem dX5_sharesStand_27 : decode cX5_sharesStand 27 = .ok (.goto (-25), 3) := by decide +kernel
theorem dX5_sharesStand_30 : decode cX5_sharesStand 30 = .ok (.aload_n 0, 1) := by decide +kernel
theorem dX5_sharesStand_31 : decode cX5_sharesStand 31 = .ok (.getfield 71, 3) := by decide +kernel
theorem dX5_sharesStand_34 : decode cX5_sharesStand 34 = .ok (.lconst 0, 1) := by decide +kernel
theorem dX5_sharesStand_35 : decode cX5_sharesStand 35 = .ok (.lcmp, 1) := by decide +kernel
theorem dX5_sharesStand_36 : decode cX5_sharesStand 36 = .ok (.ifCond .le 7, 3) := by decide +kernel
theorem dX5_sharesStand_39 : decode cX5_sharesStand 39 = .ok (.iconst 1, 1) := by decide +kernel
theorem dX5_sharesStand_40 : decode cX5_sharesStand 40 = .ok (.goto 4, 3) := by decide +kernel
theorem dX5_sharesStand_43 : decode cX5_sharesStand 43 = .ok (.iconst 0, 1) := by decide +kernel
theorem dX5_sharesStand_44 : decode cX5_sharesStand 44 = .ok (.ireturn, 1) := by decide +kernel
theorem dX6_ready_0 : decode cX6_ready 0 = .ok (.iload_n 0, 1) := by decide +kernel
theorem dX6_ready_1 : decode cX6_ready 1 = .ok (.iconst 1, 1) := by decide +kernel
theorem dX6_ready_2 : decode cX6_ready 2 = .ok (.ishr, 1) := by decide +kernel
theorem dX6_ready_3 : decode cX6_ready 3 = .ok (.iload_n 0, 1) := by decide +kernel
theorem dX6_ready_4 : decode cX6_ready 4 = .ok (.iconst 1, 1) := by decide +kernel
theorem dX6_ready_5 : decode cX6_ready 5 = .ok (.iand, 1) := by decide +kernel
theorem dX6_ready_6 : decode cX6_ready 6 = .ok (.iload_n 1, 1) := by decide +kernel
theorem dX6_ready_7 : decode cX6_ready 7 = .ok (.iconst 1, 1) := by decide +kernel
theorem dX6_ready_8 : decode cX6_ready 8 = .ok (.isub, 1) := by decide +kernel
theorem dX6_ready_9 : decode cX6_ready 9 = .ok (.ishl, 1) := by decide +kernel
theorem dX6_ready_10 : decode cX6_ready 10 = .ok (.ior, 1) := by decide +kernel
theorem dX6_ready_11 : decode cX6_ready 11 = .ok (.istore_n 2, 1) := by decide +kernel
theorem dX6_ready_12 : decode cX6_ready 12 = .ok (.iload_n 0, 1) := by decide +kernel
theorem dX6_ready_13 : decode cX6_ready 13 = .ok (.iload_n 2, 1) := by decide +kernel
theorem dX6_ready_14 : decode cX6_ready 14 = .ok (.iconst (-1), 1) := by decide +kernel
theorem dX6_ready_15 : decode cX6_ready 15 = .ok (.ixor, 1) := by decide +kernel
theorem dX6_ready_16 : decode cX6_ready 16 = .ok (.iand, 1) := by decide +kernel
theorem dX6_ready_17 : decode cX6_ready 17 = .ok (.ireturn, 1) := by decide +kernel
theorem dX6_step_0 : decode cX6_step 0 = .ok (.iload_n 0, 1) := by decide +kernel
theorem dX6_step_1 : decode cX6_step 1 = .ok (.iload_n 1, 1) := by decide +kernel
theorem dX6_step_2 : decode cX6_step 2 = .ok (.invokestatic 9, 3) := by decide +kernel
theorem dX6_step_5 : decode cX6_step 5 = .ok (.istore_n 2, 1) := by decide +kernel
theorem dX6_step_6 : decode cX6_step 6 = .ok (.iload_n 2, 1) := by decide +kernel
theorem dX6_step_7 : decode cX6_step 7 = .ok (.iconst 1, 1) := by decide +kernel
theorem dX6_step_8 : decode cX6_step 8 = .ok (.ishl, 1) := by decide +kernel
theorem dX6_step_9 : decode cX6_step 9 = .ok (.iload_n 2, 1) := by decide +kernel
theorem dX6_step_10 : decode cX6_step 10 = .ok (.iload_n 1, 1) := by decide +kernel
theorem dX6_step_11 : decode cX6_step 11 = .ok (.iconst 1, 1) := by decide +kernel
theorem dX6_step_12 : decode cX6_step 12 = .ok (.isub, 1) := by decide +kernel
theorem dX6_step_13 : decode cX6_step 13 = .ok (.ishr, 1) := by decide +kernel
theorem dX6_step_14 : decode cX6_step 14 = .ok (.ior, 1) := by decide +kernel
theorem dX6_step_15 : decode cX6_step 15 = .ok (.iconst 1, 1) := by decide +kernel
theorem dX6_step_16 : decode cX6_step 16 = .ok (.iload_n 1, 1) := by decide +kernel
theorem dX6_step_17 : decode cX6_step 17 = .ok (.ishl, 1) := by decide +kernel
theorem dX6_step_18 : decode cX6_step 18 = .ok (.iconst 1, 1) := by decide +kernel
theorem dX6_step_19 : decode cX6_step 19 = .ok (.isub, 1) := by decide +kernel
theorem dX6_step_20 : decode cX6_step 20 = .ok (.iand, 1) := by decide +kernel
theorem dX6_step_21 : decode cX6_step 21 = .ok (.istore_n 3, 1) := by decide +kernel
theorem dX6_step_22 : decode cX6_step 22 = .ok (.iload_n 0, 1) := by decide +kernel
theorem dX6_step_23 : decode cX6_step 23 = .ok (.iload_n 2, 1) := by decide +kernel
theorem dX6_step_24 : decode cX6_step 24 = .ok (.iconst (-1), 1) := by decide +kernel
theorem dX6_step_25 : decode cX6_step 25 = .ok (.ixor, 1) := by decide +kernel
theorem dX6_step_26 : decode cX6_step 26 = .ok (.iand, 1) := by decide +kernel
theorem dX6_step_27 : decode cX6_step 27 = .ok (.iload_n 3, 1) := by decide +kernel
theorem dX6_step_28 : decode cX6_step 28 = .ok (.ior, 1) := by decide +kernel
theorem dX6_step_29 : decode cX6_step 29 = .ok (.ireturn, 1) := by decide +kernel
theorem dX6_after_0 : decode cX6_after 0 = .ok (.iload_n 0, 1) := by decide +kernel
theorem dX6_after_1 : decode cX6_after 1 = .ok (.istore_n 3, 1) := by decide +kernel
theorem dX6_after_2 : decode cX6_after 2 = .ok (.iconst 0, 1) := by decide +kernel
theorem dX6_after_3 : decode cX6_after 3 = .ok (.istore 4, 2) := by decide +kernel
theorem dX6_after_5 : decode cX6_after 5 = .ok (.iload 4, 2) := by decide +kernel
theorem dX6_after_7 : decode cX6_after 7 = .ok (.iload_n 1, 1) := by decide +kernel
theorem dX6_after_8 : decode cX6_after 8 = .ok (.if_icmp .ge 15, 3) := by decide +kernel
theorem dX6_after_11 : decode cX6_after 11 = .ok (.iload_n 3, 1) := by decide +kernel
theorem dX6_after_12 : decode cX6_after 12 = .ok (.iload_n 2, 1) := by decide +kernel
theorem dX6_after_13 : decode cX6_after 13 = .ok (.invokestatic 15, 3) := by decide +kernel
theorem dX6_after_16 : decode cX6_after 16 = .ok (.istore_n 3, 1) := by decide +kernel
theorem dX6_after_17 : decode cX6_after 17 = .ok (.iinc 4 1, 3) := by decide +kernel
theorem dX6_after_20 : decode cX6_after 20 = .ok (.goto (-15), 3) := by decide +kernel
theorem dX6_after_23 : decode cX6_after 23 = .ok (.iload_n 3, 1) := by decide +kernel
theorem dX6_after_24 : decode cX6_after 24 = .ok (.ireturn, 1) := by decide +kernel
theorem dX6_onRound_0 : decode cX6_onRound 0 = .ok (.iload_n 0, 1) := by decide +kernel
theorem dX6_onRound_1 : decode cX6_onRound 1 = .ok (.iconst 1, 1) := by decide +kernel
theorem dX6_onRound_2 : decode cX6_onRound 2 = .ok (.iload_n 1, 1) := by decide +kernel
end
section
theorem dX6_onRound_3 : decode cX6_onRound 3 = .ok (.ishl, 1) := by decide +kernel
theorem dX6_onRound_4 : decode cX6_onRound 4 = .ok (.iload_n 1, 1) := by decide +kernel
theorem dX6_onRound_5 : decode cX6_onRound 5 = .ok (.invokestatic 18, 3) := by decide +kernel
theorem dX6_onRound_8 : decode cX6_onRound 8 = .ok (.ireturn, 1) := by decide +kernel
theorem dX6_roundLength_0 : decode cX6_roundLength 0 = .ok (.iload_n 0, 1) := by decide +kernel
theorem dX6_roundLength_1 : decode cX6_roundLength 1 = .ok (.iload_n 1, 1) := by decide +kernel
theorem dX6_roundLength_2 : decode cX6_roundLength 2 = .ok (.invokestatic 22, 3) := by decide +kernel
theorem dX6_roundLength_5 : decode cX6_roundLength 5 = .ok (.istore_n 2, 1) := by decide +kernel
theorem dX6_roundLength_6 : decode cX6_roundLength 6 = .ok (.iload_n 2, 1) := by decide +kernel
theorem dX6_roundLength_7 : decode cX6_roundLength 7 = .ok (.iload_n 1, 1) := by decide +kernel
theorem dX6_roundLength_8 : decode cX6_roundLength 8 = .ok (.invokestatic 15, 3) := by decide +kernel
theorem dX6_roundLength_11 : decode cX6_roundLength 11 = .ok (.istore_n 3, 1) := by decide +kernel
theorem dX6_roundLength_12 : decode cX6_roundLength 12 = .ok (.iconst 1, 1) := by decide +kernel
theorem dX6_roundLength_13 : decode cX6_roundLength 13 = .ok (.istore 4, 2) := by decide +kernel
theorem dX6_roundLength_15 : decode cX6_roundLength 15 = .ok (.iconst 0, 1) := by decide +kernel
theorem dX6_roundLength_16 : decode cX6_roundLength 16 = .ok (.istore 5, 2) := by decide +kernel
theorem dX6_roundLength_18 : decode cX6_roundLength 18 = .ok (.iload 5, 2) := by decide +kernel
theorem dX6_roundLength_20 : decode cX6_roundLength 20 = .ok (.iconst 1, 1) := by decide +kernel
theorem dX6_roundLength_21 : decode cX6_roundLength 21 = .ok (.iload_n 1, 1) := by decide +kernel
theorem dX6_roundLength_22 : decode cX6_roundLength 22 = .ok (.ishl, 1) := by decide +kernel
theorem dX6_roundLength_23 : decode cX6_roundLength 23 = .ok (.if_icmp .ge 23, 3) := by decide +kernel
theorem dX6_roundLength_26 : decode cX6_roundLength 26 = .ok (.iload_n 3, 1) := by decide +kernel
theorem dX6_roundLength_27 : decode cX6_roundLength 27 = .ok (.iload_n 2, 1) := by decide +kernel
theorem dX6_roundLength_28 : decode cX6_roundLength 28 = .ok (.if_icmp .eq 18, 3) := by decide +kernel
theorem dX6_roundLength_31 : decode cX6_roundLength 31 = .ok (.iload_n 3, 1) := by decide +kernel
theorem dX6_roundLength_32 : decode cX6_roundLength 32 = .ok (.iload_n 1, 1) := by decide +kernel
theorem dX6_roundLength_33 : decode cX6_roundLength 33 = .ok (.invokestatic 15, 3) := by decide +kernel
theorem dX6_roundLength_36 : decode cX6_roundLength 36 = .ok (.istore_n 3, 1) := by decide +kernel
theorem dX6_roundLength_37 : decode cX6_roundLength 37 = .ok (.iinc 4 1, 3) := by decide +kernel
theorem dX6_roundLength_40 : decode cX6_roundLength 40 = .ok (.iinc 5 1, 3) := by decide +kernel
theorem dX6_roundLength_43 : decode cX6_roundLength 43 = .ok (.goto (-25), 3) := by decide +kernel
theorem dX6_roundLength_46 : decode cX6_roundLength 46 = .ok (.iload 4, 2) := by decide +kernel
theorem dX6_roundLength_48 : decode cX6_roundLength 48 = .ok (.ireturn, 1) := by decide +kernel
theorem dX6_tailLength_0 : decode cX6_tailLength 0 = .ok (.iload_n 0, 1) := by decide +kernel
theorem dX6_tailLength_1 : decode cX6_tailLength 1 = .ok (.istore_n 2, 1) := by decide +kernel
theorem dX6_tailLength_2 : decode cX6_tailLength 2 = .ok (.iload_n 0, 1) := by decide +kernel
theorem dX6_tailLength_3 : decode cX6_tailLength 3 = .ok (.iload_n 0, 1) := by decide +kernel
theorem dX6_tailLength_4 : decode cX6_tailLength 4 = .ok (.iload_n 1, 1) := by decide +kernel
theorem dX6_tailLength_5 : decode cX6_tailLength 5 = .ok (.invokestatic 25, 3) := by decide +kernel
theorem dX6_tailLength_8 : decode cX6_tailLength 8 = .ok (.iload_n 1, 1) := by decide +kernel
theorem dX6_tailLength_9 : decode cX6_tailLength 9 = .ok (.invokestatic 18, 3) := by decide +kernel
theorem dX6_tailLength_12 : decode cX6_tailLength 12 = .ok (.istore_n 3, 1) := by decide +kernel
theorem dX6_tailLength_13 : decode cX6_tailLength 13 = .ok (.iconst 0, 1) := by decide +kernel
theorem dX6_tailLength_14 : decode cX6_tailLength 14 = .ok (.istore 4, 2) := by decide +kernel
theorem dX6_tailLength_16 : decode cX6_tailLength 16 = .ok (.iconst 0, 1) := by decide +kernel
theorem dX6_tailLength_17 : decode cX6_tailLength 17 = .ok (.istore 5, 2) := by decide +kernel
theorem dX6_tailLength_19 : decode cX6_tailLength 19 = .ok (.iload 5, 2) := by decide +kernel
theorem dX6_tailLength_21 : decode cX6_tailLength 21 = .ok (.iconst 1, 1) := by decide +kernel
theorem dX6_tailLength_22 : decode cX6_tailLength 22 = .ok (.iload_n 1, 1) := by decide +kernel
theorem dX6_tailLength_23 : decode cX6_tailLength 23 = .ok (.ishl, 1) := by decide +kernel
theorem dX6_tailLength_24 : decode cX6_tailLength 24 = .ok (.if_icmp .ge 29, 3) := by decide +kernel
theorem dX6_tailLength_27 : decode cX6_tailLength 27 = .ok (.iload_n 2, 1) := by decide +kernel
theorem dX6_tailLength_28 : decode cX6_tailLength 28 = .ok (.iload_n 3, 1) := by decide +kernel
theorem dX6_tailLength_29 : decode cX6_tailLength 29 = .ok (.if_icmp .eq 24, 3) := by decide +kernel
theorem dX6_tailLength_32 : decode cX6_tailLength 32 = .ok (.iload_n 2, 1) := by decide +kernel
theorem dX6_tailLength_33 : decode cX6_tailLength 33 = .ok (.iload_n 1, 1) := by decide +kernel
theorem dX6_tailLength_34 : decode cX6_tailLength 34 = .ok (.invokestatic 15, 3) := by decide +kernel
theorem dX6_tailLength_37 : decode cX6_tailLength 37 = .ok (.istore_n 2, 1) := by decide +kernel
theorem dX6_tailLength_38 : decode cX6_tailLength 38 = .ok (.iload_n 3, 1) := by decide +kernel
theorem dX6_tailLength_39 : decode cX6_tailLength 39 = .ok (.iload_n 1, 1) := by decide +kernel
theorem dX6_tailLength_40 : decode cX6_tailLength 40 = .ok (.invokestatic 15, 3) := by decide +kernel
theorem dX6_tailLength_43 : decode cX6_tailLength 43 = .ok (.istore_n 3, 1) := by decide +kernel
theorem dX6_tailLength_44 : decode cX6_tailLength 44 = .ok (.iinc 4 1, 3) := by decide +kernel
theorem dX6_tailLength_47 : decode cX6_tailLength 47 = .ok (.iinc 5 1, 3) := by decide +kernel
theorem dX6_tailLength_50 : decode cX6_tailLength 50 = .ok (.goto (-31), 3) := by decide +kernel
theorem dX6_tailLength_53 : decode cX6_tailLength 53 = .ok (.iload 4, 2) := by decide +kernel
theorem dX6_tailLength_55 : decode cX6_tailLength 55 = .ok (.ireturn, 1) := by decide +kernel
theorem dX6_roundHops_0 : decode cX6_roundHops 0 = .ok (.iload_n 0, 1) := by decide +kernel
theorem dX6_roundHops_1 : decode cX6_roundHops 1 = .ok (.iload_n 1, 1) := by decide +kernel
theorem dX6_roundHops_2 : decode cX6_roundHops 2 = .ok (.invokestatic 22, 3) := by decide +kernel
theorem dX6_roundHops_5 : decode cX6_roundHops 5 = .ok (.istore_n 2, 1) := by decide +kernel
theorem dX6_roundHops_6 : decode cX6_roundHops 6 = .ok (.iload_n 0, 1) := by decide +kernel
theorem dX6_roundHops_7 : decode cX6_roundHops 7 = .ok (.iload_n 1, 1) := by decide +kernel
theorem dX6_roundHops_8 : decode cX6_roundHops 8 = .ok (.invokestatic 25, 3) := by decide +kernel
theorem dX6_roundHops_11 : decode cX6_roundHops 11 = .ok (.istore_n 3, 1) := by decide +kernel
theorem dX6_roundHops_12 : decode cX6_roundHops 12 = .ok (.iconst 0, 1) := by decide +kernel
theorem dX6_roundHops_13 : decode cX6_roundHops 13 = .ok (.istore 4, 2) := by decide +kernel
theorem dX6_roundHops_15 : decode cX6_roundHops 15 = .ok (.iconst 0, 1) := by decide +kernel
theorem dX6_roundHops_16 : decode cX6_roundHops 16 = .ok (.istore 5, 2) := by decide +kernel
theorem dX6_roundHops_18 : decode cX6_roundHops 18 = .ok (.iload 5, 2) := by decide +kernel
theorem dX6_roundHops_20 : decode cX6_roundHops 20 = .ok (.iload_n 3, 1) := by decide +kernel
theorem dX6_roundHops_21 : decode cX6_roundHops 21 = .ok (.if_icmp .ge 28, 3) := by decide +kernel
theorem dX6_roundHops_24 : decode cX6_roundHops 24 = .ok (.iload 4, 2) := by decide +kernel
theorem dX6_roundHops_26 : decode cX6_roundHops 26 = .ok (.iload_n 2, 1) := by decide +kernel
theorem dX6_roundHops_27 : decode cX6_roundHops 27 = .ok (.iload_n 1, 1) := by decide +kernel
theorem dX6_roundHops_28 : decode cX6_roundHops 28 = .ok (.invokestatic 9, 3) := by decide +kernel
theorem dX6_roundHops_31 : decode cX6_roundHops 31 = .ok (.invokestatic 28, 3) := by decide +kernel
theorem dX6_roundHops_34 : decode cX6_roundHops 34 = .ok (.iadd, 1) := by decide +kernel
theorem dX6_roundHops_35 : decode cX6_roundHops 35 = .ok (.istore 4, 2) := by decide +kernel
theorem dX6_roundHops_37 : decode cX6_roundHops 37 = .ok (.iload_n 2, 1) := by decide +kernel
theorem dX6_roundHops_38 : decode cX6_roundHops 38 = .ok (.iload_n 1, 1) := by decide +kernel
theorem dX6_roundHops_39 : decode cX6_roundHops 39 = .ok (.invokestatic 15, 3) := by decide +kernel
theorem dX6_roundHops_42 : decode cX6_roundHops 42 = .ok (.istore_n 2, 1) := by decide +kernel
theorem dX6_roundHops_43 : decode cX6_roundHops 43 = .ok (.iinc 5 1, 3) := by decide +kernel
theorem dX6_roundHops_46 : decode cX6_roundHops 46 = .ok (.goto (-28), 3) := by decide +kernel
theorem dX6_roundHops_49 : decode cX6_roundHops 49 = .ok (.iload 4, 2) := by decide +kernel
theorem dX6_roundHops_51 : decode cX6_roundHops 51 = .ok (.ireturn, 1) := by decide +kernel
theorem dX6_leadOn_0 : decode cX6_leadOn 0 = .ok (.iload_n 0, 1) := by decide +kernel
theorem dX6_leadOn_1 : decode cX6_leadOn 1 = .ok (.ldc 34, 2) := by decide +kernel
theorem dX6_leadOn_3 : decode cX6_leadOn 3 = .ok (.imul, 1) := by decide +kernel
theorem dX6_leadOn_4 : decode cX6_leadOn 4 = .ok (.sipush 12345, 3) := by decide +kernel
theorem dX6_leadOn_7 : decode cX6_leadOn 7 = .ok (.iadd, 1) := by decide +kernel
theorem dX6_leadOn_8 : decode cX6_leadOn 8 = .ok (.ireturn, 1) := by decide +kernel
theorem dX6_draw_0 : decode cX6_draw 0 = .ok (.iload_n 1, 1) := by decide +kernel
theorem dX6_draw_1 : decode cX6_draw 1 = .ok (.ifCond .le 16, 3) := by decide +kernel
theorem dX6_draw_4 : decode cX6_draw 4 = .ok (.iload_n 0, 1) := by decide +kernel
theorem dX6_draw_5 : decode cX6_draw 5 = .ok (.bipush 16, 2) := by decide +kernel
theorem dX6_draw_7 : decode cX6_draw 7 = .ok (.iushr, 1) := by decide +kernel
theorem dX6_draw_8 : decode cX6_draw 8 = .ok (.sipush 32767, 3) := by decide +kernel
theorem dX6_draw_11 : decode cX6_draw 11 = .ok (.iand, 1) := by decide +kernel
theorem dX6_draw_12 : decode cX6_draw 12 = .ok (.iload_n 1, 1) := by decide +kernel
theorem dX6_draw_13 : decode cX6_draw 13 = .ok (.irem, 1) := by decide +kernel
theorem dX6_draw_14 : decode cX6_draw 14 = .ok (.goto 4, 3) := by decide +kernel
theorem dX6_draw_17 : decode cX6_draw 17 = .ok (.iconst 0, 1) := by decide +kernel
theorem dX6_draw_18 : decode cX6_draw 18 = .ok (.ireturn, 1) := by decide +kernel
theorem dX6_tick_0 : decode cX6_tick 0 = .ok (.iload_n 0, 1) := by decide +kernel
theorem dX6_tick_1 : decode cX6_tick 1 = .ok (.iload_n 2, 1) := by decide +kernel
theorem dX6_tick_2 : decode cX6_tick 2 = .ok (.invokestatic 9, 3) := by decide +kernel
theorem dX6_tick_5 : decode cX6_tick 5 = .ok (.iconst 1, 1) := by decide +kernel
theorem dX6_tick_6 : decode cX6_tick 6 = .ok (.iload_n 1, 1) := by decide +kernel
theorem dX6_tick_7 : decode cX6_tick 7 = .ok (.iload_n 2, 1) := by decide +kernel
theorem dX6_tick_8 : decode cX6_tick 8 = .ok (.invokestatic 35, 3) := by decide +kernel
theorem dX6_tick_11 : decode cX6_tick 11 = .ok (.ishl, 1) := by decide +kernel
theorem dX6_tick_12 : decode cX6_tick 12 = .ok (.iand, 1) := by decide +kernel
theorem dX6_tick_13 : decode cX6_tick 13 = .ok (.istore_n 3, 1) := by decide +kernel
theorem dX6_tick_14 : decode cX6_tick 14 = .ok (.iload_n 3, 1) := by decide +kernel
theorem dX6_tick_15 : decode cX6_tick 15 = .ok (.iconst 1, 1) := by decide +kernel
theorem dX6_tick_16 : decode cX6_tick 16 = .ok (.ishl, 1) := by decide +kernel
theorem dX6_tick_17 : decode cX6_tick 17 = .ok (.iload_n 3, 1) := by decide +kernel
theorem dX6_tick_18 : decode cX6_tick 18 = .ok (.iload_n 2, 1) := by decide +kernel
theorem dX6_tick_19 : decode cX6_tick 19 = .ok (.iconst 1, 1) := by decide +kernel
theorem dX6_tick_20 : decode cX6_tick 20 = .ok (.isub, 1) := by decide +kernel
theorem dX6_tick_21 : decode cX6_tick 21 = .ok (.ishr, 1) := by decide +kernel
theorem dX6_tick_22 : decode cX6_tick 22 = .ok (.ior, 1) := by decide +kernel
theorem dX6_tick_23 : decode cX6_tick 23 = .ok (.iconst 1, 1) := by decide +kernel
theorem dX6_tick_24 : decode cX6_tick 24 = .ok (.iload_n 2, 1) := by decide +kernel
theorem dX6_tick_25 : decode cX6_tick 25 = .ok (.ishl, 1) := by decide +kernel
theorem dX6_tick_26 : decode cX6_tick 26 = .ok (.iconst 1, 1) := by decide +kernel
theorem dX6_tick_27 : decode cX6_tick 27 = .ok (.isub, 1) := by decide +kernel
theorem dX6_tick_28 : decode cX6_tick 28 = .ok (.iand, 1) := by decide +kernel
theorem dX6_tick_29 : decode cX6_tick 29 = .ok (.istore 4, 2) := by decide +kernel
theorem dX6_tick_31 : decode cX6_tick 31 = .ok (.iload_n 0, 1) := by decide +kernel
theorem dX6_tick_32 : decode cX6_tick 32 = .ok (.iload_n 3, 1) := by decide +kernel
theorem dX6_tick_33 : decode cX6_tick 33 = .ok (.iconst (-1), 1) := by decide +kernel
theorem dX6_tick_34 : decode cX6_tick 34 = .ok (.ixor, 1) := by decide +kernel
theorem dX6_tick_35 : decode cX6_tick 35 = .ok (.iand, 1) := by decide +kernel
theorem dX6_tick_36 : decode cX6_tick 36 = .ok (.iload 4, 2) := by decide +kernel
theorem dX6_tick_38 : decode cX6_tick 38 = .ok (.ior, 1) := by decide +kernel
theorem dX6_tick_39 : decode cX6_tick 39 = .ok (.ireturn, 1) := by decide +kernel
theorem dX6_drawn_0 : decode cX6_drawn 0 = .ok (.iload_n 0, 1) := by decide +kernel
theorem dX6_drawn_1 : decode cX6_drawn 1 = .ok (.istore 4, 2) := by decide +kernel
theorem dX6_drawn_3 : decode cX6_drawn 3 = .ok (.iload_n 1, 1) := by decide +kernel
theorem dX6_drawn_4 : decode cX6_drawn 4 = .ok (.istore 5, 2) := by decide +kernel
theorem dX6_drawn_6 : decode cX6_drawn 6 = .ok (.iconst 0, 1) := by decide +kernel
theorem dX6_drawn_7 : decode cX6_drawn 7 = .ok (.istore 6, 2) := by decide +kernel
theorem dX6_drawn_9 : decode cX6_drawn 9 = .ok (.iload 6, 2) := by decide +kernel
theorem dX6_drawn_11 : decode cX6_drawn 11 = .ok (.iload_n 2, 1) := by decide +kernel
theorem dX6_drawn_12 : decode cX6_drawn 12 = .ok (.if_icmp .ge 26, 3) := by decide +kernel
theorem dX6_drawn_15 : decode cX6_drawn 15 = .ok (.iload 5, 2) := by decide +kernel
theorem dX6_drawn_17 : decode cX6_drawn 17 = .ok (.invokestatic 38, 3) := by decide +kernel
theorem dX6_drawn_20 : decode cX6_drawn 20 = .ok (.istore 5, 2) := by decide +kernel
theorem dX6_drawn_22 : decode cX6_drawn 22 = .ok (.iload 4, 2) := by decide +kernel
theorem dX6_drawn_24 : decode cX6_drawn 24 = .ok (.iload 5, 2) := by decide +kernel
theorem dX6_drawn_26 : decode cX6_drawn 26 = .ok (.iload_n 3, 1) := by decide +kernel
theorem dX6_drawn_27 : decode cX6_drawn 27 = .ok (.invokestatic 41, 3) := by decide +kernel
theorem dX6_drawn_30 : decode cX6_drawn 30 = .ok (.istore 4, 2) := by decide +kernel
theorem dX6_drawn_32 : decode cX6_drawn 32 = .ok (.iinc 6 1, 3) := by decide +kernel
theorem dX6_drawn_35 : decode cX6_drawn 35 = .ok (.goto (-26), 3) := by decide +kernel
theorem dX6_drawn_38 : decode cX6_drawn 38 = .ok (.iload 4, 2) := by decide +kernel
theorem dX6_drawn_40 : decode cX6_drawn 40 = .ok (.ireturn, 1) := by decide +kernel
theorem dX6_drawnHops_0 : decode cX6_drawnHops 0 = .ok (.iload_n 0, 1) := by decide +kernel
theorem dX6_drawnHops_1 : decode cX6_drawnHops 1 = .ok (.istore 4, 2) := by decide +kernel
theorem dX6_drawnHops_3 : decode cX6_drawnHops 3 = .ok (.iload_n 1, 1) := by decide +kernel
theorem dX6_drawnHops_4 : decode cX6_drawnHops 4 = .ok (.istore 5, 2) := by decide +kernel
theorem dX6_drawnHops_6 : decode cX6_drawnHops 6 = .ok (.iconst 0, 1) := by decide +kernel
theorem dX6_drawnHops_7 : decode cX6_drawnHops 7 = .ok (.istore 6, 2) := by decide +kernel
theorem dX6_drawnHops_9 : decode cX6_drawnHops 9 = .ok (.iconst 0, 1) := by decide +kernel
theorem dX6_drawnHops_10 : decode cX6_drawnHops 10 = .ok (.istore 7, 2) := by decide +kernel
theorem dX6_drawnHops_12 : decode cX6_drawnHops 12 = .ok (.iload 7, 2) := by decide +kernel
theorem dX6_drawnHops_14 : decode cX6_drawnHops 14 = .ok (.iload_n 2, 1) := by decide +kernel
theorem dX6_drawnHops_15 : decode cX6_drawnHops 15 = .ok (.if_icmp .ge 47, 3) := by decide +kernel
theorem dX6_drawnHops_18 : decode cX6_drawnHops 18 = .ok (.iload 5, 2) := by decide +kernel
theorem dX6_drawnHops_20 : decode cX6_drawnHops 20 = .ok (.invokestatic 38, 3) := by decide +kernel
theorem dX6_drawnHops_23 : decode cX6_drawnHops 23 = .ok (.istore 5, 2) := by decide +kernel
theorem dX6_drawnHops_25 : decode cX6_drawnHops 25 = .ok (.iload 4, 2) := by decide +kernel
theorem dX6_drawnHops_27 : decode cX6_drawnHops 27 = .ok (.iload 5, 2) := by decide +kernel
theorem dX6_drawnHops_29 : decode cX6_drawnHops 29 = .ok (.iload_n 3, 1) := by decide +kernel
theorem dX6_drawnHops_30 : decode cX6_drawnHops 30 = .ok (.invokestatic 41, 3) := by decide +kernel
theorem dX6_drawnHops_33 : decode cX6_drawnHops 33 = .ok (.istore 8, 2) := by decide +kernel
theorem dX6_drawnHops_35 : decode cX6_drawnHops 35 = .ok (.iload 6, 2) := by decide +kernel
theorem dX6_drawnHops_37 : decode cX6_drawnHops 37 = .ok (.iload 8, 2) := by decide +kernel
theorem dX6_drawnHops_39 : decode cX6_drawnHops 39 = .ok (.iload 4, 2) := by decide +kernel
theorem dX6_drawnHops_41 : decode cX6_drawnHops 41 = .ok (.if_icmp .ne 7, 3) := by decide +kernel
theorem dX6_drawnHops_44 : decode cX6_drawnHops 44 = .ok (.iconst 0, 1) := by decide +kernel
theorem dX6_drawnHops_45 : decode cX6_drawnHops 45 = .ok (.goto 4, 3) := by decide +kernel
theorem dX6_drawnHops_48 : decode cX6_drawnHops 48 = .ok (.iconst 1, 1) := by decide +kernel
theorem dX6_drawnHops_49 : decode cX6_drawnHops 49 = .ok (.iadd, 1) := by decide +kernel
theorem dX6_drawnHops_50 : decode cX6_drawnHops 50 = .ok (.istore 6, 2) := by decide +kernel
theorem dX6_drawnHops_52 : decode cX6_drawnHops 52 = .ok (.iload 8, 2) := by decide +kernel
theorem dX6_drawnHops_54 : decode cX6_drawnHops 54 = .ok (.istore 4, 2) := by decide +kernel
theorem dX6_drawnHops_56 : decode cX6_drawnHops 56 = .ok (.iinc 7 1, 3) := by decide +kernel
theorem dX6_drawnHops_59 : decode cX6_drawnHops 59 = .ok (.goto (-47), 3) := by decide +kernel
theorem dX6_drawnHops_62 : decode cX6_drawnHops 62 = .ok (.iload 6, 2) := by decide +kernel
theorem dX6_drawnHops_64 : decode cX6_drawnHops 64 = .ok (.ireturn, 1) := by decide +kernel
theorem dX6_alikeFrom_0 : decode cX6_alikeFrom 0 = .ok (.iload_n 0, 1) := by decide +kernel
theorem dX6_alikeFrom_1 : decode cX6_alikeFrom 1 = .ok (.istore 5, 2) := by decide +kernel
theorem dX6_alikeFrom_3 : decode cX6_alikeFrom 3 = .ok (.iload_n 1, 1) := by decide +kernel
theorem dX6_alikeFrom_4 : decode cX6_alikeFrom 4 = .ok (.istore 6, 2) := by decide +kernel
theorem dX6_alikeFrom_6 : decode cX6_alikeFrom 6 = .ok (.iload_n 2, 1) := by decide +kernel
theorem dX6_alikeFrom_7 : decode cX6_alikeFrom 7 = .ok (.istore 7, 2) := by decide +kernel
theorem dX6_alikeFrom_9 : decode cX6_alikeFrom 9 = .ok (.iconst 0, 1) := by decide +kernel
theorem dX6_alikeFrom_10 : decode cX6_alikeFrom 10 = .ok (.istore 8, 2) := by decide +kernel
theorem dX6_alikeFrom_12 : decode cX6_alikeFrom 12 = .ok (.iload 8, 2) := by decide +kernel
theorem dX6_alikeFrom_14 : decode cX6_alikeFrom 14 = .ok (.iload_n 3, 1) := by decide +kernel
theorem dX6_alikeFrom_15 : decode cX6_alikeFrom 15 = .ok (.if_icmp .ge 48, 3) := by decide +kernel
theorem dX6_alikeFrom_18 : decode cX6_alikeFrom 18 = .ok (.iload 5, 2) := by decide +kernel
theorem dX6_alikeFrom_20 : decode cX6_alikeFrom 20 = .ok (.iload 6, 2) := by decide +kernel
theorem dX6_alikeFrom_22 : decode cX6_alikeFrom 22 = .ok (.if_icmp .ne 6, 3) := by decide +kernel
theorem dX6_alikeFrom_25 : decode cX6_alikeFrom 25 = .ok (.iload 8, 2) := by decide +kernel
theorem dX6_alikeFrom_27 : decode cX6_alikeFrom 27 = .ok (.ireturn, 1) := by decide +kernel
theorem dX6_alikeFrom_28 : decode cX6_alikeFrom 28 = .ok (.iload 7, 2) := by decide +kernel
theorem dX6_alikeFrom_30 : decode cX6_alikeFrom 30 = .ok (.invokestatic 38, 3) := by decide +kernel
theorem dX6_alikeFrom_33 : decode cX6_alikeFrom 33 = .ok (.istore 7, 2) := by decide +kernel
theorem dX6_alikeFrom_35 : decode cX6_alikeFrom 35 = .ok (.iload 5, 2) := by decide +kernel
theorem dX6_alikeFrom_37 : decode cX6_alikeFrom 37 = .ok (.iload 7, 2) := by decide +kernel
theorem dX6_alikeFrom_39 : decode cX6_alikeFrom 39 = .ok (.iload 4, 2) := by decide +kernel
theorem dX6_alikeFrom_41 : decode cX6_alikeFrom 41 = .ok (.invokestatic 41, 3) := by decide +kernel
theorem dX6_alikeFrom_44 : decode cX6_alikeFrom 44 = .ok (.istore 5, 2) := by decide +kernel
theorem dX6_alikeFrom_46 : decode cX6_alikeFrom 46 = .ok (.iload 6, 2) := by decide +kernel
theorem dX6_alikeFrom_48 : decode cX6_alikeFrom 48 = .ok (.iload 7, 2) := by decide +kernel
theorem dX6_alikeFrom_50 : decode cX6_alikeFrom 50 = .ok (.iload 4, 2) := by decide +kernel
theorem dX6_alikeFrom_52 : decode cX6_alikeFrom 52 = .ok (.invokestatic 41, 3) := by decide +kernel
theorem dX6_alikeFrom_55 : decode cX6_alikeFrom 55 = .ok (.istore 6, 2) := by decide +kernel
theorem dX6_alikeFrom_57 : decode cX6_alikeFrom 57 = .ok (.iinc 8 1, 3) := by decide +kernel
theorem dX6_alikeFrom_60 : decode cX6_alikeFrom 60 = .ok (.goto (-48), 3) := by decide +kernel
theorem dX6_alikeFrom_63 : decode cX6_alikeFrom 63 = .ok (.iload 5, 2) := by decide +kernel
theorem dX6_alikeFrom_65 : decode cX6_alikeFrom 65 = .ok (.iload 6, 2) := by decide +kernel
theorem dX6_alikeFrom_67 : decode cX6_alikeFrom 67 = .ok (.if_icmp .ne 7, 3) := by decide +kernel
theorem dX6_alikeFrom_70 : decode cX6_alikeFrom 70 = .ok (.iload_n 3, 1) := by decide +kernel
theorem dX6_alikeFrom_71 : decode cX6_alikeFrom 71 = .ok (.goto 5, 3) := by decide +kernel
theorem dX6_alikeFrom_74 : decode cX6_alikeFrom 74 = .ok (.bipush (-4), 2) := by decide +kernel
theorem dX6_alikeFrom_76 : decode cX6_alikeFrom 76 = .ok (.ireturn, 1) := by decide +kernel
theorem dX6_mostUnlike_0 : decode cX6_mostUnlike 0 = .ok (.iload_n 0, 1) := by decide +kernel
theorem dX6_mostUnlike_1 : decode cX6_mostUnlike 1 = .ok (.istore 5, 2) := by decide +kernel
theorem dX6_mostUnlike_3 : decode cX6_mostUnlike 3 = .ok (.iload_n 1, 1) := by decide +kernel
theorem dX6_mostUnlike_4 : decode cX6_mostUnlike 4 = .ok (.istore 6, 2) := by decide +kernel
theorem dX6_mostUnlike_6 : decode cX6_mostUnlike 6 = .ok (.iload_n 2, 1) := by decide +kernel
theorem dX6_mostUnlike_7 : decode cX6_mostUnlike 7 = .ok (.istore 7, 2) := by decide +kernel
theorem dX6_mostUnlike_9 : decode cX6_mostUnlike 9 = .ok (.iload 5, 2) := by decide +kernel
theorem dX6_mostUnlike_11 : decode cX6_mostUnlike 11 = .ok (.iload 6, 2) := by decide +kernel
theorem dX6_mostUnlike_13 : decode cX6_mostUnlike 13 = .ok (.ixor, 1) := by decide +kernel
theorem dX6_mostUnlike_14 : decode cX6_mostUnlike 14 = .ok (.invokestatic 28, 3) := by decide +kernel
theorem dX6_mostUnlike_17 : decode cX6_mostUnlike 17 = .ok (.istore 8, 2) := by decide +kernel
theorem dX6_mostUnlike_19 : decode cX6_mostUnlike 19 = .ok (.iconst 0, 1) := by decide +kernel
theorem dX6_mostUnlike_20 : decode cX6_mostUnlike 20 = .ok (.istore 9, 2) := by decide +kernel
theorem dX6_mostUnlike_22 : decode cX6_mostUnlike 22 = .ok (.iload 9, 2) := by decide +kernel
theorem dX6_mostUnlike_24 : decode cX6_mostUnlike 24 = .ok (.iload_n 3, 1) := by decide +kernel
theorem dX6_mostUnlike_25 : decode cX6_mostUnlike 25 = .ok (.if_icmp .ge 53, 3) := by decide +kernel
theorem dX6_mostUnlike_28 : decode cX6_mostUnlike 28 = .ok (.iload 7, 2) := by decide +kernel
theorem dX6_mostUnlike_30 : decode cX6_mostUnlike 30 = .ok (.invokestatic 38, 3) := by decide +kernel
theorem dX6_mostUnlike_33 : decode cX6_mostUnlike 33 = .ok (.istore 7, 2) := by decide +kernel
theorem dX6_mostUnlike_35 : decode cX6_mostUnlike 35 = .ok (.iload 5, 2) := by decide +kernel
theorem dX6_mostUnlike_37 : decode cX6_mostUnlike 37 = .ok (.iload 7, 2) := by decide +kernel
theorem dX6_mostUnlike_39 : decode cX6_mostUnlike 39 = .ok (.iload 4, 2) := by decide +kernel
theorem dX6_mostUnlike_41 : decode cX6_mostUnlike 41 = .ok (.invokestatic 41, 3) := by decide +kernel
theorem dX6_mostUnlike_44 : decode cX6_mostUnlike 44 = .ok (.istore 5, 2) := by decide +kernel
theorem dX6_mostUnlike_46 : decode cX6_mostUnlike 46 = .ok (.iload 6, 2) := by decide +kernel
theorem dX6_mostUnlike_48 : decode cX6_mostUnlike 48 = .ok (.iload 7, 2) := by decide +kernel
theorem dX6_mostUnlike_50 : decode cX6_mostUnlike 50 = .ok (.iload 4, 2) := by decide +kernel
theorem dX6_mostUnlike_52 : decode cX6_mostUnlike 52 = .ok (.invokestatic 41, 3) := by decide +kernel
theorem dX6_mostUnlike_55 : decode cX6_mostUnlike 55 = .ok (.istore 6, 2) := by decide +kernel
theorem dX6_mostUnlike_57 : decode cX6_mostUnlike 57 = .ok (.iload 8, 2) := by decide +kernel
theorem dX6_mostUnlike_59 : decode cX6_mostUnlike 59 = .ok (.iload 5, 2) := by decide +kernel
theorem dX6_mostUnlike_61 : decode cX6_mostUnlike 61 = .ok (.iload 6, 2) := by decide +kernel
theorem dX6_mostUnlike_63 : decode cX6_mostUnlike 63 = .ok (.ixor, 1) := by decide +kernel
theorem dX6_mostUnlike_64 : decode cX6_mostUnlike 64 = .ok (.invokestatic 28, 3) := by decide +kernel
theorem dX6_mostUnlike_67 : decode cX6_mostUnlike 67 = .ok (.invokestatic 44, 3) := by decide +kernel
theorem dX6_mostUnlike_70 : decode cX6_mostUnlike 70 = .ok (.istore 8, 2) := by decide +kernel
theorem dX6_mostUnlike_72 : decode cX6_mostUnlike 72 = .ok (.iinc 9 1, 3) := by decide +kernel
theorem dX6_mostUnlike_75 : decode cX6_mostUnlike 75 = .ok (.goto (-53), 3) := by decide +kernel
theorem dX6_mostUnlike_78 : decode cX6_mostUnlike 78 = .ok (.iload 8, 2) := by decide +kernel
theorem dX6_mostUnlike_80 : decode cX6_mostUnlike 80 = .ok (.ireturn, 1) := by decide +kernel
theorem dX7_init_0 : decode cX7_init 0 = .ok (.aload_n 0, 1) := by decide +kernel
theorem dX7_init_1 : decode cX7_init 1 = .ok (.invokespecial 1, 3) := by decide +kernel
theorem dX7_init_4 : decode cX7_init 4 = .ok (.aload_n 0, 1) := by decide +kernel
theorem dX7_init_5 : decode cX7_init 5 = .ok (.iconst 4, 1) := by decide +kernel
theorem dX7_init_6 : decode cX7_init 6 = .ok (.newarray .int, 2) := by decide +kernel
theorem dX7_init_8 : decode cX7_init 8 = .ok (.putfield 9, 3) := by decide +kernel
theorem dX7_init_11 : decode cX7_init 11 = .ok (.aload_n 0, 1) := by decide +kernel
theorem dX7_init_12 : decode cX7_init 12 = .ok (.iconst 4, 1) := by decide +kernel
theorem dX7_init_13 : decode cX7_init 13 = .ok (.newarray .int, 2) := by decide +kernel
theorem dX7_init_15 : decode cX7_init 15 = .ok (.putfield 13, 3) := by decide +kernel
theorem dX7_init_18 : decode cX7_init 18 = .ok (.aload_n 0, 1) := by decide +kernel
theorem dX7_init_19 : decode cX7_init 19 = .ok (.sipush 256, 3) := by decide +kernel
theorem dX7_init_22 : decode cX7_init 22 = .ok (.newarray .int, 2) := by decide +kernel
theorem dX7_init_24 : decode cX7_init 24 = .ok (.putfield 16, 3) := by decide +kernel
theorem dX7_init_27 : decode cX7_init 27 = .ok (.iconst 0, 1) := by decide +kernel
theorem dX7_init_28 : decode cX7_init 28 = .ok (.istore_n 1, 1) := by decide +kernel
theorem dX7_init_29 : decode cX7_init 29 = .ok (.iload_n 1, 1) := by decide +kernel
theorem dX7_init_30 : decode cX7_init 30 = .ok (.iconst 4, 1) := by decide +kernel
theorem dX7_init_31 : decode cX7_init 31 = .ok (.if_icmp .ge 16, 3) := by decide +kernel
theorem dX7_init_34 : decode cX7_init 34 = .ok (.aload_n 0, 1) := by decide +kernel
theorem dX7_init_35 : decode cX7_init 35 = .ok (.getfield 9, 3) := by decide +kernel
theorem dX7_init_38 : decode cX7_init 38 = .ok (.iload_n 1, 1) := by decide +kernel
theorem dX7_init_39 : decode cX7_init 39 = .ok (.iconst (-1), 1) := by decide +kernel
theorem dX7_init_40 : decode cX7_init 40 = .ok (.iastore, 1) := by decide +kernel
theorem dX7_init_41 : decode cX7_init 41 = .ok (.iinc 1 1, 3) := by decide +kernel
theorem dX7_init_44 : decode cX7_init 44 = .ok (.goto (-15), 3) := by decide +kernel
theorem dX7_init_47 : decode cX7_init 47 = .ok (.return_, 1) := by decide +kernel
theorem dX7_isSheet_0 : decode cX7_isSheet 0 = .ok (.iload_n 0, 1) := by decide +kernel
theorem dX7_isSheet_1 : decode cX7_isSheet 1 = .ok (.ifCond .lt 12, 3) := by decide +kernel
theorem dX7_isSheet_4 : decode cX7_isSheet 4 = .ok (.iload_n 0, 1) := by decide +kernel
theorem dX7_isSheet_5 : decode cX7_isSheet 5 = .ok (.iconst 4, 1) := by decide +kernel
theorem dX7_isSheet_6 : decode cX7_isSheet 6 = .ok (.if_icmp .ge 7, 3) := by decide +kernel
theorem dX7_isSheet_9 : decode cX7_isSheet 9 = .ok (.iconst 1, 1) := by decide +kernel
theorem dX7_isSheet_10 : decode cX7_isSheet 10 = .ok (.goto 4, 3) := by decide +kernel
theorem dX7_isSheet_13 : decode cX7_isSheet 13 = .ok (.iconst 0, 1) := by decide +kernel
theorem dX7_isSheet_14 : decode cX7_isSheet 14 = .ok (.ireturn, 1) := by decide +kernel
theorem dX7_isKind_0 : decode cX7_isKind 0 = .ok (.iload_n 0, 1) := by decide +kernel
theorem dX7_isKind_1 : decode cX7_isKind 1 = .ok (.ifCond .lt 12, 3) := by decide +kernel
theorem dX7_isKind_4 : decode cX7_isKind 4 = .ok (.iload_n 0, 1) := by decide +kernel
theorem dX7_isKind_5 : decode cX7_isKind 5 = .ok (.iconst 2, 1) := by decide +kernel
theorem dX7_isKind_6 : decode cX7_isKind 6 = .ok (.if_icmp .gt 7, 3) := by decide +kernel
theorem dX7_isKind_9 : decode cX7_isKind 9 = .ok (.iconst 1, 1) := by decide +kernel
theorem dX7_isKind_10 : decode cX7_isKind 10 = .ok (.goto 4, 3) := by decide +kernel
theorem dX7_isKind_13 : decode cX7_isKind 13 = .ok (.iconst 0, 1) := by decide +kernel
theorem dX7_isKind_14 : decode cX7_isKind 14 = .ok (.ireturn, 1) := by decide +kernel
theorem dX7_renew_0 : decode cX7_renew 0 = .ok (.iload_n 1, 1) := by decide +kernel
theorem dX7_renew_1 : decode cX7_renew 1 = .ok (.invokestatic 19, 3) := by decide +kernel
theorem dX7_renew_4 : decode cX7_renew 4 = .ok (.ifCond .eq 20, 3) := by decide +kernel
theorem dX7_renew_7 : decode cX7_renew 7 = .ok (.iload_n 2, 1) := by decide +kernel
theorem dX7_renew_8 : decode cX7_renew 8 = .ok (.invokestatic 23, 3) := by decide +kernel
theorem dX7_renew_11 : decode cX7_renew 11 = .ok (.ifCond .eq 13, 3) := by decide +kernel
theorem dX7_renew_14 : decode cX7_renew 14 = .ok (.iload_n 3, 1) := by decide +kernel
theorem dX7_renew_15 : decode cX7_renew 15 = .ok (.ifCond .lt 9, 3) := by decide +kernel
theorem dX7_renew_18 : decode cX7_renew 18 = .ok (.iload_n 3, 1) := by decide +kernel
theorem dX7_renew_19 : decode cX7_renew 19 = .ok (.bipush 64, 2) := by decide +kernel
theorem dX7_renew_21 : decode cX7_renew 21 = .ok (.if_icmp .le 4, 3) := by decide +kernel
theorem dX7_renew_24 : decode cX7_renew 24 = .ok (.return_, 1) := by decide +kernel
theorem dX7_renew_25 : decode cX7_renew 25 = .ok (.aload_n 0, 1) := by decide +kernel
theorem dX7_renew_26 : decode cX7_renew 26 = .ok (.getfield 9, 3) := by decide +kernel
theorem dX7_renew_29 : decode cX7_renew 29 = .ok (.iload_n 1, 1) := by decide +kernel
theorem dX7_renew_30 : decode cX7_renew 30 = .ok (.iload_n 2, 1) := by decide +kernel
theorem dX7_renew_31 : decode cX7_renew 31 = .ok (.iastore, 1) := by decide +kernel
theorem dX7_renew_32 : decode cX7_renew 32 = .ok (.aload_n 0, 1) := by decide +kernel
theorem dX7_renew_33 : decode cX7_renew 33 = .ok (.getfield 13, 3) := by decide +kernel
theorem dX7_renew_36 : decode cX7_renew 36 = .ok (.iload_n 1, 1) := by decide +kernel
theorem dX7_renew_37 : decode cX7_renew 37 = .ok (.iload_n 3, 1) := by decide +kernel
theorem dX7_renew_38 : decode cX7_renew 38 = .ok (.iastore, 1) := by decide +kernel
theorem dX7_renew_39 : decode cX7_renew 39 = .ok (.iconst 0, 1) := by decide +kernel
theorem dX7_renew_40 : decode cX7_renew 40 = .ok (.istore 4, 2) := by decide +kernel
theorem dX7_renew_42 : decode cX7_renew 42 = .ok (.iload 4, 2) := by decide +kernel
theorem dX7_renew_44 : decode cX7_renew 44 = .ok (.iload_n 3, 1) := by decide +kernel
theorem dX7_renew_45 : decode cX7_renew 45 = .ok (.if_icmp .ge 22, 3) := by decide +kernel
theorem dX7_renew_48 : decode cX7_renew 48 = .ok (.aload_n 0, 1) := by decide +kernel
theorem dX7_renew_49 : decode cX7_renew 49 = .ok (.getfield 16, 3) := by decide +kernel
theorem dX7_renew_52 : decode cX7_renew 52 = .ok (.iload_n 1, 1) := by decide +kernel
theorem dX7_renew_53 : decode cX7_renew 53 = .ok (.bipush 64, 2) := by decide +kernel
theorem dX7_renew_55 : decode cX7_renew 55 = .ok (.imul, 1) := by decide +kernel
theorem dX7_renew_56 : decode cX7_renew 56 = .ok (.iload 4, 2) := by decide +kernel
theorem dX7_renew_58 : decode cX7_renew 58 = .ok (.iadd, 1) := by decide +kernel
theorem dX7_renew_59 : decode cX7_renew 59 = .ok (.iconst 0, 1) := by decide +kernel
theorem dX7_renew_60 : decode cX7_renew 60 = .ok (.iastore, 1) := by decide +kernel
theorem dX7_renew_61 : decode cX7_renew 61 = .ok (.iinc 4 1, 3) := by decide +kernel
theorem dX7_renew_64 : decode cX7_renew 64 = .ok (.goto (-22), 3) := by decide +kernel
theorem dX7_renew_67 : decode cX7_renew 67 = .ok (.return_, 1) := by decide +kernel
theorem dX7_isNothing_0 : decode cX7_isNothing 0 = .ok (.iload_n 1, 1) := by decide +kernel
theorem dX7_isNothing_1 : decode cX7_isNothing 1 = .ok (.invokestatic 19, 3) := by decide +kernel
theorem dX7_isNothing_4 : decode cX7_isNothing 4 = .ok (.ifCond .eq 13, 3) := by decide +kernel
theorem dX7_isNothing_7 : decode cX7_isNothing 7 = .ok (.aload_n 0, 1) := by decide +kernel
theorem dX7_isNothing_8 : decode cX7_isNothing 8 = .ok (.getfield 9, 3) := by decide +kernel
theorem dX7_isNothing_11 : decode cX7_isNothing 11 = .ok (.iload_n 1, 1) := by decide +kernel
theorem dX7_isNothing_12 : decode cX7_isNothing 12 = .ok (.iaload, 1) := by decide +kernel
theorem dX7_isNothing_13 : decode cX7_isNothing 13 = .ok (.iconst (-1), 1) := by decide +kernel
theorem dX7_isNothing_14 : decode cX7_isNothing 14 = .ok (.if_icmp .ne 7, 3) := by decide +kernel
theorem dX7_isNothing_17 : decode cX7_isNothing 17 = .ok (.iconst 1, 1) := by decide +kernel
theorem dX7_isNothing_18 : decode cX7_isNothing 18 = .ok (.goto 4, 3) := by decide +kernel
theorem dX7_isNothing_21 : decode cX7_isNothing 21 = .ok (.iconst 0, 1) := by decide +kernel
theorem dX7_isNothing_22 : decode cX7_isNothing 22 = .ok (.ireturn, 1) := by decide +kernel
theorem dX7_isOfKind_0 : decode cX7_isOfKind 0 = .ok (.iload_n 1, 1) := by decide +kernel
theorem dX7_isOfKind_1 : decode cX7_isOfKind 1 = .ok (.invokestatic 19, 3) := by decide +kernel
theorem dX7_isOfKind_4 : decode cX7_isOfKind 4 = .ok (.ifCond .eq 17, 3) := by decide +kernel
theorem dX7_isOfKind_7 : decode cX7_isOfKind 7 = .ok (.aload_n 0, 1) := by decide +kernel
theorem dX7_isOfKind_8 : decode cX7_isOfKind 8 = .ok (.getfield 9, 3) := by decide +kernel
theorem dX7_isOfKind_11 : decode cX7_isOfKind 11 = .ok (.iload_n 1, 1) := by decide +kernel
theorem dX7_isOfKind_12 : decode cX7_isOfKind 12 = .ok (.iaload, 1) := by decide +kernel
theorem dX7_isOfKind_13 : decode cX7_isOfKind 13 = .ok (.iload_n 2, 1) := by decide +kernel
theorem dX7_isOfKind_14 : decode cX7_isOfKind 14 = .ok (.if_icmp .ne 7, 3) := by decide +kernel
theorem dX7_isOfKind_17 : decode cX7_isOfKind 17 = .ok (.iconst 1, 1) := by decide +kernel
theorem dX7_isOfKind_18 : decode cX7_isOfKind 18 = .ok (.goto 4, 3) := by decide +kernel
theorem dX7_isOfKind_21 : decode cX7_isOfKind 21 = .ok (.iconst 0, 1) := by decide +kernel
theorem dX7_isOfKind_22 : decode cX7_isOfKind 22 = .ok (.ireturn, 1) := by decide +kernel
theorem dX7_size_0 : decode cX7_size 0 = .ok (.iload_n 1, 1) := by decide +kernel
theorem dX7_size_1 : decode cX7_size 1 = .ok (.invokestatic 19, 3) := by decide +kernel
theorem dX7_size_4 : decode cX7_size 4 = .ok (.ifCond .eq 12, 3) := by decide +kernel
theorem dX7_size_7 : decode cX7_size 7 = .ok (.aload_n 0, 1) := by decide +kernel
theorem dX7_size_8 : decode cX7_size 8 = .ok (.getfield 13, 3) := by decide +kernel
theorem dX7_size_11 : decode cX7_size 11 = .ok (.iload_n 1, 1) := by decide +kernel
theorem dX7_size_12 : decode cX7_size 12 = .ok (.iaload, 1) := by decide +kernel
theorem dX7_size_13 : decode cX7_size 13 = .ok (.goto 4, 3) := by decide +kernel
theorem dX7_size_16 : decode cX7_size 16 = .ok (.iconst 0, 1) := by decide +kernel
theorem dX7_size_17 : decode cX7_size 17 = .ok (.ireturn, 1) := by decide +kernel
theorem dX7_hasCell_0 : decode cX7_hasCell 0 = .ok (.iload_n 1, 1) := by decide +kernel
theorem dX7_hasCell_1 : decode cX7_hasCell 1 = .ok (.invokestatic 19, 3) := by decide +kernel
theorem dX7_hasCell_4 : decode cX7_hasCell 4 = .ok (.ifCond .eq 21, 3) := by decide +kernel
theorem dX7_hasCell_7 : decode cX7_hasCell 7 = .ok (.iload_n 2, 1) := by decide +kernel
theorem dX7_hasCell_8 : decode cX7_hasCell 8 = .ok (.ifCond .lt 17, 3) := by decide +kernel
theorem dX7_hasCell_11 : decode cX7_hasCell 11 = .ok (.iload_n 2, 1) := by decide +kernel
theorem dX7_hasCell_12 : decode cX7_hasCell 12 = .ok (.aload_n 0, 1) := by decide +kernel
theorem dX7_hasCell_13 : decode cX7_hasCell 13 = .ok (.getfield 13, 3) := by decide +kernel
theorem dX7_hasCell_16 : decode cX7_hasCell 16 = .ok (.iload_n 1, 1) := by decide +kernel
theorem dX7_hasCell_17 : decode cX7_hasCell 17 = .ok (.iaload, 1) := by decide +kernel
theorem dX7_hasCell_18 : decode cX7_hasCell 18 = .ok (.if_icmp .ge 7, 3) := by decide +kernel
theorem dX7_hasCell_21 : decode cX7_hasCell 21 = .ok (.iconst 1, 1) := by decide +kernel
theorem dX7_hasCell_22 : decode cX7_hasCell 22 = .ok (.goto 4, 3) := by decide +kernel
theorem dX7_hasCell_25 : decode cX7_hasCell 25 = .ok (.iconst 0, 1) := by decide +kernel
theorem dX7_hasCell_26 : decode cX7_hasCell 26 = .ok (.ireturn, 1) := by decide +kernel
theorem dX7_cell_0 : decode cX7_cell 0 = .ok (.aload_n 0, 1) := by decide +kernel
theorem dX7_cell_1 : decode cX7_cell 1 = .ok (.iload_n 1, 1) := by decide +kernel
theorem dX7_cell_2 : decode cX7_cell 2 = .ok (.iload_n 2, 1) := by decide +kernel
theorem dX7_cell_3 : decode cX7_cell 3 = .ok (.invokevirtual 26, 3) := by decide +kernel
theorem dX7_cell_6 : decode cX7_cell 6 = .ok (.ifCond .eq 17, 3) := by decide +kernel
theorem dX7_cell_9 : decode cX7_cell 9 = .ok (.aload_n 0, 1) := by decide +kernel
theorem dX7_cell_10 : decode cX7_cell 10 = .ok (.getfield 16, 3) := by decide +kernel
theorem dX7_cell_13 : decode cX7_cell 13 = .ok (.iload_n 1, 1) := by decide +kernel
theorem dX7_cell_14 : decode cX7_cell 14 = .ok (.bipush 64, 2) := by decide +kernel
theorem dX7_cell_16 : decode cX7_cell 16 = .ok (.imul, 1) := by decide +kernel
theorem dX7_cell_17 : decode cX7_cell 17 = .ok (.iload_n 2, 1) := by decide +kernel
theorem dX7_cell_18 : decode cX7_cell 18 = .ok (.iadd, 1) := by decide +kernel
theorem dX7_cell_19 : decode cX7_cell 19 = .ok (.iaload, 1) := by decide +kernel
theorem dX7_cell_20 : decode cX7_cell 20 = .ok (.goto 4, 3) := by decide +kernel
theorem dX7_cell_23 : decode cX7_cell 23 = .ok (.iconst 0, 1) := by decide +kernel
theorem dX7_cell_24 : decode cX7_cell 24 = .ok (.ireturn, 1) := by decide +kernel
theorem dX7_put_0 : decode cX7_put 0 = .ok (.aload_n 0, 1) := by decide +kernel
theorem dX7_put_1 : decode cX7_put 1 = .ok (.iload_n 1, 1) := by decide +kernel
theorem dX7_put_2 : decode cX7_put 2 = .ok (.iload_n 2, 1) := by decide +kernel
theorem dX7_put_3 : decode cX7_put 3 = .ok (.invokevirtual 26, 3) := by decide +kernel
theorem dX7_put_6 : decode cX7_put 6 = .ok (.ifCond .ne 4, 3) := by decide +kernel
theorem dX7_put_9 : decode cX7_put 9 = .ok (.return_, 1) := by decide +kernel
theorem dX7_put_10 : decode cX7_put 10 = .ok (.aload_n 0, 1) := by decide +kernel
theorem dX7_put_11 : decode cX7_put 11 = .ok (.getfield 16, 3) := by decide +kernel
theorem dX7_put_14 : decode cX7_put 14 = .ok (.iload_n 1, 1) := by decide +kernel
theorem dX7_put_15 : decode cX7_put 15 = .ok (.bipush 64, 2) := by decide +kernel
theorem dX7_put_17 : decode cX7_put 17 = .ok (.imul, 1) := by decide +kernel
theorem dX7_put_18 : decode cX7_put 18 = .ok (.iload_n 2, 1) := by decide +kernel
theorem dX7_put_19 : decode cX7_put 19 = .ok (.iadd, 1) := by decide +kernel
theorem dX7_put_20 : decode cX7_put 20 = .ok (.aload_n 0, 1) := by decide +kernel
theorem dX7_put_21 : decode cX7_put 21 = .ok (.getfield 9, 3) := by decide +kernel
theorem dX7_put_24 : decode cX7_put 24 = .ok (.iload_n 1, 1) := by decide +kernel
theorem dX7_put_25 : decode cX7_put 25 = .ok (.iaload, 1) := by decide +kernel
theorem dX7_put_26 : decode cX7_put 26 = .ok (.iload_n 3, 1) := by decide +kernel
theorem dX7_put_27 : decode cX7_put 27 = .ok (.invokestatic 30, 3) := by decide +kernel
theorem dX7_put_30 : decode cX7_put 30 = .ok (.iastore, 1) := by decide +kernel
theorem dX7_put_31 : decode cX7_put 31 = .ok (.return_, 1) := by decide +kernel
theorem dX7_narrowed_0 : decode cX7_narrowed 0 = .ok (.iload_n 0, 1) := by decide +kernel
theorem dX7_narrowed_1 : decode cX7_narrowed 1 = .ok (.lookupswitch 33 #[(0, 27), (1, 30)], 27) := by decide +kernel
theorem dX7_narrowed_28 : decode cX7_narrowed 28 = .ok (.iload_n 1, 1) := by decide +kernel
theorem dX7_narrowed_29 : decode cX7_narrowed 29 = .ok (.i2b, 1) := by decide +kernel
theorem dX7_narrowed_30 : decode cX7_narrowed 30 = .ok (.ireturn, 1) := by decide +kernel
theorem dX7_narrowed_31 : decode cX7_narrowed 31 = .ok (.iload_n 1, 1) := by decide +kernel
theorem dX7_narrowed_32 : decode cX7_narrowed 32 = .ok (.i2s, 1) := by decide +kernel
theorem dX7_narrowed_33 : decode cX7_narrowed 33 = .ok (.ireturn, 1) := by decide +kernel
theorem dX7_narrowed_34 : decode cX7_narrowed 34 = .ok (.iload_n 1, 1) := by decide +kernel
theorem dX7_narrowed_35 : decode cX7_narrowed 35 = .ok (.ireturn, 1) := by decide +kernel
theorem dX8_init_0 : decode cX8_init 0 = .ok (.aload_n 0, 1) := by decide +kernel
theorem dX8_init_1 : decode cX8_init 1 = .ok (.invokespecial 1, 3) := by decide +kernel
theorem dX8_init_4 : decode cX8_init 4 = .ok (.aload_n 0, 1) := by decide +kernel
theorem dX8_init_5 : decode cX8_init 5 = .ok (.bipush 120, 2) := by decide +kernel
theorem dX8_init_7 : decode cX8_init 7 = .ok (.newarray .byte, 2) := by decide +kernel
theorem dX8_init_9 : decode cX8_init 9 = .ok (.putfield 9, 3) := by decide +kernel
theorem dX8_init_12 : decode cX8_init 12 = .ok (.return_, 1) := by decide +kernel
theorem dX8_length_0 : decode cX8_length 0 = .ok (.aload_n 0, 1) := by decide +kernel
theorem dX8_length_1 : decode cX8_length 1 = .ok (.getfield 13, 3) := by decide +kernel
theorem dX8_length_4 : decode cX8_length 4 = .ok (.ireturn, 1) := by decide +kernel
theorem dX8_append_0 : decode cX8_append 0 = .ok (.aload_n 0, 1) := by decide +kernel
theorem dX8_append_1 : decode cX8_append 1 = .ok (.getfield 13, 3) := by decide +kernel
theorem dX8_append_4 : decode cX8_append 4 = .ok (.bipush 8, 2) := by decide +kernel
theorem dX8_append_6 : decode cX8_append 6 = .ok (.iadd, 1) := by decide +kernel
theorem dX8_append_7 : decode cX8_append 7 = .ok (.aload_n 0, 1) := by decide +kernel
theorem dX8_append_8 : decode cX8_append 8 = .ok (.getfield 9, 3) := by decide +kernel
theorem dX8_append_11 : decode cX8_append 11 = .ok (.arraylength, 1) := by decide +kernel
theorem dX8_append_12 : decode cX8_append 12 = .ok (.if_icmp .le 5, 3) := by decide +kernel
theorem dX8_append_15 : decode cX8_append 15 = .ok (.iconst 0, 1) := by decide +kernel
theorem dX8_append_16 : decode cX8_append 16 = .ok (.ireturn, 1) := by decide +kernel
theorem dX8_append_17 : decode cX8_append 17 = .ok (.iconst 0, 1) := by decide +kernel
theorem dX8_append_18 : decode cX8_append 18 = .ok (.istore_n 3, 1) := by decide +kernel
theorem dX8_append_19 : decode cX8_append 19 = .ok (.iload_n 3, 1) := by decide +kernel
theorem dX8_append_20 : decode cX8_append 20 = .ok (.bipush 8, 2) := by decide +kernel
theorem dX8_append_22 : decode cX8_append 22 = .ok (.if_icmp .ge 31, 3) := by decide +kernel
theorem dX8_append_25 : decode cX8_append 25 = .ok (.aload_n 0, 1) := by decide +kernel
theorem dX8_append_26 : decode cX8_append 26 = .ok (.getfield 9, 3) := by decide +kernel
theorem dX8_append_29 : decode cX8_append 29 = .ok (.aload_n 0, 1) := by decide +kernel
theorem dX8_append_30 : decode cX8_append 30 = .ok (.getfield 13, 3) := by decide +kernel
theorem dX8_append_33 : decode cX8_append 33 = .ok (.iload_n 3, 1) := by decide +kernel
theorem dX8_append_34 : decode cX8_append 34 = .ok (.iadd, 1) := by decide +kernel
theorem dX8_append_35 : decode cX8_append 35 = .ok (.lload_n 1, 1) := by decide +kernel
theorem dX8_append_36 : decode cX8_append 36 = .ok (.bipush 56, 2) := by decide +kernel
theorem dX8_append_38 : decode cX8_append 38 = .ok (.bipush 8, 2) := by decide +kernel
theorem dX8_append_40 : decode cX8_append 40 = .ok (.iload_n 3, 1) := by decide +kernel
theorem dX8_append_41 : decode cX8_append 41 = .ok (.imul, 1) := by decide +kernel
theorem dX8_append_42 : decode cX8_append 42 = .ok (.isub, 1) := by decide +kernel
theorem dX8_append_43 : decode cX8_append 43 = .ok (.lshr, 1) := by decide +kernel
theorem dX8_append_44 : decode cX8_append 44 = .ok (.l2i, 1) := by decide +kernel
theorem dX8_append_45 : decode cX8_append 45 = .ok (.i2b, 1) := by decide +kernel
theorem dX8_append_46 : decode cX8_append 46 = .ok (.bastore, 1) := by decide +kernel
theorem dX8_append_47 : decode cX8_append 47 = .ok (.iinc 3 1, 3) := by decide +kernel
theorem dX8_append_50 : decode cX8_append 50 = .ok (.goto (-31), 3) := by decide +kernel
theorem dX8_append_53 : decode cX8_append 53 = .ok (.aload_n 0, 1) := by decide +kernel
theorem dX8_append_54 : decode cX8_append 54 = .ok (.dup, 1) := by decide +kernel
theorem dX8_append_55 : decode cX8_append 55 = .ok (.getfield 13, 3) := by decide +kernel
theorem dX8_append_58 : decode cX8_append 58 = .ok (.bipush 8, 2) := by decide +kernel
theorem dX8_append_60 : decode cX8_append 60 = .ok (.iadd, 1) := by decide +kernel
theorem dX8_append_61 : decode cX8_append 61 = .ok (.putfield 13, 3) := by decide +kernel
theorem dX8_append_64 : decode cX8_append 64 = .ok (.iconst 1, 1) := by decide +kernel
theorem dX8_append_65 : decode cX8_append 65 = .ok (.ireturn, 1) := by decide +kernel
theorem dX8_cut_0 : decode cX8_cut 0 = .ok (.iload_n 1, 1) := by decide +kernel
theorem dX8_cut_1 : decode cX8_cut 1 = .ok (.ifCond .lt 11, 3) := by decide +kernel
theorem dX8_cut_4 : decode cX8_cut 4 = .ok (.iload_n 1, 1) := by decide +kernel
theorem dX8_cut_5 : decode cX8_cut 5 = .ok (.aload_n 0, 1) := by decide +kernel
theorem dX8_cut_6 : decode cX8_cut 6 = .ok (.getfield 13, 3) := by decide +kernel
theorem dX8_cut_9 : decode cX8_cut 9 = .ok (.if_icmp .le 5, 3) := by decide +kernel
theorem dX8_cut_12 : decode cX8_cut 12 = .ok (.iconst 0, 1) := by decide +kernel
theorem dX8_cut_13 : decode cX8_cut 13 = .ok (.ireturn, 1) := by decide +kernel
theorem dX8_cut_14 : decode cX8_cut 14 = .ok (.aload_n 0, 1) := by decide +kernel
theorem dX8_cut_15 : decode cX8_cut 15 = .ok (.iload_n 1, 1) := by decide +kernel
theorem dX8_cut_16 : decode cX8_cut 16 = .ok (.putfield 13, 3) := by decide +kernel
theorem dX8_cut_19 : decode cX8_cut 19 = .ok (.iconst 1, 1) := by decide +kernel
theorem dX8_cut_20 : decode cX8_cut 20 = .ok (.ireturn, 1) := by decide +kernel
theorem dX8_byteAt_0 : decode cX8_byteAt 0 = .ok (.iload_n 1, 1) := by decide +kernel
theorem dX8_byteAt_1 : decode cX8_byteAt 1 = .ok (.ifCond .lt 20, 3) := by decide +kernel
theorem dX8_byteAt_4 : decode cX8_byteAt 4 = .ok (.iload_n 1, 1) := by decide +kernel
theorem dX8_byteAt_5 : decode cX8_byteAt 5 = .ok (.aload_n 0, 1) := by decide +kernel
theorem dX8_byteAt_6 : decode cX8_byteAt 6 = .ok (.getfield 13, 3) := by decide +kernel
theorem dX8_byteAt_9 : decode cX8_byteAt 9 = .ok (.if_icmp .ge 12, 3) := by decide +kernel
theorem dX8_byteAt_12 : decode cX8_byteAt 12 = .ok (.iload_n 1, 1) := by decide +kernel
theorem dX8_byteAt_13 : decode cX8_byteAt 13 = .ok (.aload_n 0, 1) := by decide +kernel
theorem dX8_byteAt_14 : decode cX8_byteAt 14 = .ok (.getfield 9, 3) := by decide +kernel
theorem dX8_byteAt_17 : decode cX8_byteAt 17 = .ok (.arraylength, 1) := by decide +kernel
theorem dX8_byteAt_18 : decode cX8_byteAt 18 = .ok (.if_icmp .lt 5, 3) := by decide +kernel
theorem dX8_byteAt_21 : decode cX8_byteAt 21 = .ok (.iconst (-1), 1) := by decide +kernel
theorem dX8_byteAt_22 : decode cX8_byteAt 22 = .ok (.ireturn, 1) := by decide +kernel
theorem dX8_byteAt_23 : decode cX8_byteAt 23 = .ok (.aload_n 0, 1) := by decide +kernel
theorem dX8_byteAt_24 : decode cX8_byteAt 24 = .ok (.getfield 9, 3) := by decide +kernel
theorem dX8_byteAt_27 : decode cX8_byteAt 27 = .ok (.iload_n 1, 1) := by decide +kernel
theorem dX8_byteAt_28 : decode cX8_byteAt 28 = .ok (.baload, 1) := by decide +kernel
theorem dX8_byteAt_29 : decode cX8_byteAt 29 = .ok (.sipush 255, 3) := by decide +kernel
theorem dX8_byteAt_32 : decode cX8_byteAt 32 = .ok (.iand, 1) := by decide +kernel
theorem dX8_byteAt_33 : decode cX8_byteAt 33 = .ok (.ireturn, 1) := by decide +kernel
theorem dX9_lowest_0 : decode cX9_lowest 0 = .ok (.lload_n 0, 1) := by decide +kernel
theorem dX9_lowest_1 : decode cX9_lowest 1 = .ok (.invokestatic 7, 3) := by decide +kernel
theorem dX9_lowest_4 : decode cX9_lowest 4 = .ok (.lload_n 2, 1) := by decide +kernel
theorem dX9_lowest_5 : decode cX9_lowest 5 = .ok (.invokestatic 13, 3) := by decide +kernel
theorem dX9_lowest_8 : decode cX9_lowest 8 = .ok (.lstore 5, 2) := by decide +kernel
theorem dX9_lowest_10 : decode cX9_lowest 10 = .ok (.lload 5, 2) := by decide +kernel
theorem dX9_lowest_12 : decode cX9_lowest 12 = .ok (.lconst 0, 1) := by decide +kernel
theorem dX9_lowest_13 : decode cX9_lowest 13 = .ok (.lcmp, 1) := by decide +kernel
theorem dX9_lowest_14 : decode cX9_lowest 14 = .ok (.ifCond .ne 5, 3) := by decide +kernel
theorem dX9_lowest_17 : decode cX9_lowest 17 = .ok (.lconst 0, 1) := by decide +kernel
theorem dX9_lowest_18 : decode cX9_lowest 18 = .ok (.lreturn, 1) := by decide +kernel
theorem dX9_lowest_19 : decode cX9_lowest 19 = .ok (.iload 4, 2) := by decide +kernel
theorem dX9_lowest_21 : decode cX9_lowest 21 = .ok (.ifCond .ne 7, 3) := by decide +kernel
theorem dX9_lowest_24 : decode cX9_lowest 24 = .ok (.lload_n 0, 1) := by decide +kernel
theorem dX9_lowest_25 : decode cX9_lowest 25 = .ok (.goto 4, 3) := by decide +kernel
theorem dX9_lowest_28 : decode cX9_lowest 28 = .ok (.lload_n 2, 1) := by decide +kernel
theorem dX9_lowest_29 : decode cX9_lowest 29 = .ok (.lload 5, 2) := by decide +kernel
theorem dX9_lowest_31 : decode cX9_lowest 31 = .ok (.ldiv, 1) := by decide +kernel
theorem dX9_lowest_32 : decode cX9_lowest 32 = .ok (.lreturn, 1) := by decide +kernel
theorem dX9_commonDivisor_0 : decode cX9_commonDivisor 0 = .ok (.lload_n 0, 1) := by decide +kernel
theorem dX9_commonDivisor_1 : decode cX9_commonDivisor 1 = .ok (.lstore 4, 2) := by decide +kernel
theorem dX9_commonDivisor_3 : decode cX9_commonDivisor 3 = .ok (.lload_n 2, 1) := by decide +kernel
theorem dX9_commonDivisor_4 : decode cX9_commonDivisor 4 = .ok (.lstore 6, 2) := by decide +kernel
theorem dX9_commonDivisor_6 : decode cX9_commonDivisor 6 = .ok (.iconst 0, 1) := by decide +kernel
theorem dX9_commonDivisor_7 : decode cX9_commonDivisor 7 = .ok (.istore 8, 2) := by decide +kernel
theorem dX9_commonDivisor_9 : decode cX9_commonDivisor 9 = .ok (.iload 8, 2) := by decide +kernel
theorem dX9_commonDivisor_11 : decode cX9_commonDivisor 11 = .ok (.bipush 100, 2) := by decide +kernel
theorem dX9_commonDivisor_13 : decode cX9_commonDivisor 13 = .ok (.if_icmp .ge 31, 3) := by decide +kernel
theorem dX9_commonDivisor_16 : decode cX9_commonDivisor 16 = .ok (.lload 6, 2) := by decide +kernel
theorem dX9_commonDivisor_18 : decode cX9_commonDivisor 18 = .ok (.lconst 0, 1) := by decide +kernel
theorem dX9_commonDivisor_19 : decode cX9_commonDivisor 19 = .ok (.lcmp, 1) := by decide +kernel
theorem dX9_commonDivisor_20 : decode cX9_commonDivisor 20 = .ok (.ifCond .eq 24, 3) := by decide +kernel
theorem dX9_commonDivisor_23 : decode cX9_commonDivisor 23 = .ok (.lload 4, 2) := by decide +kernel
theorem dX9_commonDivisor_25 : decode cX9_commonDivisor 25 = .ok (.lload 6, 2) := by decide +kernel
theorem dX9_commonDivisor_27 : decode cX9_commonDivisor 27 = .ok (.lrem, 1) := by decide +kernel
theorem dX9_commonDivisor_28 : decode cX9_commonDivisor 28 = .ok (.lstore 9, 2) := by decide +kernel
theorem dX9_commonDivisor_30 : decode cX9_commonDivisor 30 = .ok (.lload 6, 2) := by decide +kernel
theorem dX9_commonDivisor_32 : decode cX9_commonDivisor 32 = .ok (.lstore 4, 2) := by decide +kernel
theorem dX9_commonDivisor_34 : decode cX9_commonDivisor 34 = .ok (.lload 9, 2) := by decide +kernel
theorem dX9_commonDivisor_36 : decode cX9_commonDivisor 36 = .ok (.lstore 6, 2) := by decide +kernel
theorem dX9_commonDivisor_38 : decode cX9_commonDivisor 38 = .ok (.iinc 8 1, 3) := by decide +kernel
theorem dX9_commonDivisor_41 : decode cX9_commonDivisor 41 = .ok (.goto (-32), 3) := by decide +kernel
theorem dX9_commonDivisor_44 : decode cX9_commonDivisor 44 = .ok (.lload 4, 2) := by decide +kernel
theorem dX9_commonDivisor_46 : decode cX9_commonDivisor 46 = .ok (.lreturn, 1) := by decide +kernel
theorem dX9_determinant_0 : decode cX9_determinant 0 = .ok (.iload_n 1, 1) := by decide +kernel
theorem dX9_determinant_1 : decode cX9_determinant 1 = .ok (.ifCond .lt 11, 3) := by decide +kernel
theorem dX9_determinant_4 : decode cX9_determinant 4 = .ok (.iload_n 1, 1) := by decide +kernel
theorem dX9_determinant_5 : decode cX9_determinant 5 = .ok (.iload_n 1, 1) := by decide +kernel
theorem dX9_determinant_6 : decode cX9_determinant 6 = .ok (.imul, 1) := by decide +kernel
theorem dX9_determinant_7 : decode cX9_determinant 7 = .ok (.aload_n 0, 1) := by decide +kernel
theorem dX9_determinant_8 : decode cX9_determinant 8 = .ok (.arraylength, 1) := by decide +kernel
theorem dX9_determinant_9 : decode cX9_determinant 9 = .ok (.if_icmp .le 5, 3) := by decide +kernel
theorem dX9_determinant_12 : decode cX9_determinant 12 = .ok (.lconst 0, 1) := by decide +kernel
theorem dX9_determinant_13 : decode cX9_determinant 13 = .ok (.lreturn, 1) := by decide +kernel
theorem dX9_determinant_14 : decode cX9_determinant 14 = .ok (.lconst 1, 1) := by decide +kernel
theorem dX9_determinant_15 : decode cX9_determinant 15 = .ok (.lstore_n 2, 1) := by decide +kernel
theorem dX9_determinant_16 : decode cX9_determinant 16 = .ok (.iconst 0, 1) := by decide +kernel
theorem dX9_determinant_17 : decode cX9_determinant 17 = .ok (.istore 4, 2) := by decide +kernel
theorem dX9_determinant_19 : decode cX9_determinant 19 = .ok (.iload 4, 2) := by decide +kernel
theorem dX9_determinant_21 : decode cX9_determinant 21 = .ok (.iload_n 1, 1) := by decide +kernel
theorem dX9_determinant_22 : decode cX9_determinant 22 = .ok (.if_icmp .ge 35, 3) := by decide +kernel
theorem dX9_determinant_25 : decode cX9_determinant 25 = .ok (.aload_n 0, 1) := by decide +kernel
theorem dX9_determinant_26 : decode cX9_determinant 26 = .ok (.iload_n 1, 1) := by decide +kernel
theorem dX9_determinant_27 : decode cX9_determinant 27 = .ok (.iload 4, 2) := by decide +kernel
theorem dX9_determinant_29 : decode cX9_determinant 29 = .ok (.lload_n 2, 1) := by decide +kernel
theorem dX9_determinant_30 : decode cX9_determinant 30 = .ok (.invokestatic 19, 3) := by decide +kernel
theorem dX9_determinant_33 : decode cX9_determinant 33 = .ok (.aload_n 0, 1) := by decide +kernel
theorem dX9_determinant_34 : decode cX9_determinant 34 = .ok (.iload 4, 2) := by decide +kernel
theorem dX9_determinant_36 : decode cX9_determinant 36 = .ok (.iload_n 1, 1) := by decide +kernel
theorem dX9_determinant_37 : decode cX9_determinant 37 = .ok (.imul, 1) := by decide +kernel
theorem dX9_determinant_38 : decode cX9_determinant 38 = .ok (.iload 4, 2) := by decide +kernel
theorem dX9_determinant_40 : decode cX9_determinant 40 = .ok (.iadd, 1) := by decide +kernel
theorem dX9_determinant_41 : decode cX9_determinant 41 = .ok (.laload, 1) := by decide +kernel
theorem dX9_determinant_42 : decode cX9_determinant 42 = .ok (.lstore_n 2, 1) := by decide +kernel
theorem dX9_determinant_43 : decode cX9_determinant 43 = .ok (.lload_n 2, 1) := by decide +kernel
theorem dX9_determinant_44 : decode cX9_determinant 44 = .ok (.lconst 0, 1) := by decide +kernel
theorem dX9_determinant_45 : decode cX9_determinant 45 = .ok (.lcmp, 1) := by decide +kernel
theorem dX9_determinant_46 : decode cX9_determinant 46 = .ok (.ifCond .ne 5, 3) := by decide +kernel
theorem dX9_determinant_49 : decode cX9_determinant 49 = .ok (.lconst 0, 1) := by decide +kernel
theorem dX9_determinant_50 : decode cX9_determinant 50 = .ok (.lreturn, 1) := by decide +kernel
theorem dX9_determinant_51 : decode cX9_determinant 51 = .ok (.iinc 4 1, 3) := by decide +kernel
theorem dX9_determinant_54 : decode cX9_determinant 54 = .ok (.goto (-35), 3) := by decide +kernel
theorem dX9_determinant_57 : decode cX9_determinant 57 = .ok (.lload_n 2, 1) := by decide +kernel
theorem dX9_determinant_58 : decode cX9_determinant 58 = .ok (.lreturn, 1) := by decide +kernel
theorem dX9_clearBelow_0 : decode cX9_clearBelow 0 = .ok (.aload_n 0, 1) := by decide +kernel
theorem dX9_clearBelow_1 : decode cX9_clearBelow 1 = .ok (.iload_n 2, 1) := by decide +kernel
theorem dX9_clearBelow_2 : decode cX9_clearBelow 2 = .ok (.iload_n 1, 1) := by decide +kernel
theorem dX9_clearBelow_3 : decode cX9_clearBelow 3 = .ok (.imul, 1) := by decide +kernel
theorem dX9_clearBelow_4 : decode cX9_clearBelow 4 = .ok (.iload_n 2, 1) := by decide +kernel
theorem dX9_clearBelow_5 : decode cX9_clearBelow 5 = .ok (.iadd, 1) := by decide +kernel
theorem dX9_clearBelow_6 : decode cX9_clearBelow 6 = .ok (.laload, 1) := by decide +kernel
theorem dX9_clearBelow_7 : decode cX9_clearBelow 7 = .ok (.lstore 5, 2) := by decide +kernel
theorem dX9_clearBelow_9 : decode cX9_clearBelow 9 = .ok (.iload_n 2, 1) := by decide +kernel
theorem dX9_clearBelow_10 : decode cX9_clearBelow 10 = .ok (.iconst 1, 1) := by decide +kernel
theorem dX9_clearBelow_11 : decode cX9_clearBelow 11 = .ok (.iadd, 1) := by decide +kernel
theorem dX9_clearBelow_12 : decode cX9_clearBelow 12 = .ok (.istore 7, 2) := by decide +kernel
theorem dX9_clearBelow_14 : decode cX9_clearBelow 14 = .ok (.iload 7, 2) := by decide +kernel
theorem dX9_clearBelow_16 : decode cX9_clearBelow 16 = .ok (.iload_n 1, 1) := by decide +kernel
theorem dX9_clearBelow_17 : decode cX9_clearBelow 17 = .ok (.if_icmp .ge 81, 3) := by decide +kernel
theorem dX9_clearBelow_20 : decode cX9_clearBelow 20 = .ok (.iload_n 2, 1) := by decide +kernel
theorem dX9_clearBelow_21 : decode cX9_clearBelow 21 = .ok (.iconst 1, 1) := by decide +kernel
theorem dX9_clearBelow_22 : decode cX9_clearBelow 22 = .ok (.iadd, 1) := by decide +kernel
theorem dX9_clearBelow_23 : decode cX9_clearBelow 23 = .ok (.istore 8, 2) := by decide +kernel
theorem dX9_clearBelow_25 : decode cX9_clearBelow 25 = .ok (.iload 8, 2) := by decide +kernel
theorem dX9_clearBelow_27 : decode cX9_clearBelow 27 = .ok (.iload_n 1, 1) := by decide +kernel
theorem dX9_clearBelow_28 : decode cX9_clearBelow 28 = .ok (.if_icmp .ge 64, 3) := by decide +kernel
theorem dX9_clearBelow_31 : decode cX9_clearBelow 31 = .ok (.aload_n 0, 1) := by decide +kernel
theorem dX9_clearBelow_32 : decode cX9_clearBelow 32 = .ok (.iload 7, 2) := by decide +kernel
theorem dX9_clearBelow_34 : decode cX9_clearBelow 34 = .ok (.iload_n 1, 1) := by decide +kernel
theorem dX9_clearBelow_35 : decode cX9_clearBelow 35 = .ok (.imul, 1) := by decide +kernel
theorem dX9_clearBelow_36 : decode cX9_clearBelow 36 = .ok (.iload 8, 2) := by decide +kernel
theorem dX9_clearBelow_38 : decode cX9_clearBelow 38 = .ok (.iadd, 1) := by decide +kernel
theorem dX9_clearBelow_39 : decode cX9_clearBelow 39 = .ok (.laload, 1) := by decide +kernel
theorem dX9_clearBelow_40 : decode cX9_clearBelow 40 = .ok (.lload 5, 2) := by decide +kernel
theorem dX9_clearBelow_42 : decode cX9_clearBelow 42 = .ok (.lmul, 1) := by decide +kernel
theorem dX9_clearBelow_43 : decode cX9_clearBelow 43 = .ok (.aload_n 0, 1) := by decide +kernel
theorem dX9_clearBelow_44 : decode cX9_clearBelow 44 = .ok (.iload 7, 2) := by decide +kernel
theorem dX9_clearBelow_46 : decode cX9_clearBelow 46 = .ok (.iload_n 1, 1) := by decide +kernel
theorem dX9_clearBelow_47 : decode cX9_clearBelow 47 = .ok (.imul, 1) := by decide +kernel
theorem dX9_clearBelow_48 : decode cX9_clearBelow 48 = .ok (.iload_n 2, 1) := by decide +kernel
theorem dX9_clearBelow_49 : decode cX9_clearBelow 49 = .ok (.iadd, 1) := by decide +kernel
theorem dX9_clearBelow_50 : decode cX9_clearBelow 50 = .ok (.laload, 1) := by decide +kernel
theorem dX9_clearBelow_51 : decode cX9_clearBelow 51 = .ok (.aload_n 0, 1) := by decide +kernel
theorem dX9_clearBelow_52 : decode cX9_clearBelow 52 = .ok (.iload_n 2, 1) := by decide +kernel
theorem dX9_clearBelow_53 : decode cX9_clearBelow 53 = .ok (.iload_n 1, 1) := by decide +kernel
theorem dX9_clearBelow_54 : decode cX9_clearBelow 54 = .ok (.imul, 1) := by decide +kernel
theorem dX9_clearBelow_55 : decode cX9_clearBelow 55 = .ok (.iload 8, 2) := by decide +kernel
theorem dX9_clearBelow_57 : decode cX9_clearBelow 57 = .ok (.iadd, 1) := by decide +kernel
theorem dX9_clearBelow_58 : decode cX9_clearBelow 58 = .ok (.laload, 1) := by decide +kernel
theorem dX9_clearBelow_59 : decode cX9_clearBelow 59 = .ok (.lmul, 1) := by decide +kernel
theorem dX9_clearBelow_60 : decode cX9_clearBelow 60 = .ok (.lsub, 1) := by decide +kernel
theorem dX9_clearBelow_61 : decode cX9_clearBelow 61 = .ok (.lstore 9, 2) := by decide +kernel
theorem dX9_clearBelow_63 : decode cX9_clearBelow 63 = .ok (.aload_n 0, 1) := by decide +kernel
theorem dX9_clearBelow_64 : decode cX9_clearBelow 64 = .ok (.iload 7, 2) := by decide +kernel
theorem dX9_clearBelow_66 : decode cX9_clearBelow 66 = .ok (.iload_n 1, 1) := by decide +kernel
theorem dX9_clearBelow_67 : decode cX9_clearBelow 67 = .ok (.imul, 1) := by decide +kernel
theorem dX9_clearBelow_68 : decode cX9_clearBelow 68 = .ok (.iload 8, 2) := by decide +kernel
theorem dX9_clearBelow_70 : decode cX9_clearBelow 70 = .ok (.iadd, 1) := by decide +kernel
theorem dX9_clearBelow_71 : decode cX9_clearBelow 71 = .ok (.lload_n 3, 1) := by decide +kernel
theorem dX9_clearBelow_72 : decode cX9_clearBelow 72 = .ok (.lconst 0, 1) := by decide +kernel
theorem dX9_clearBelow_73 : decode cX9_clearBelow 73 = .ok (.lcmp, 1) := by decide +kernel
theorem dX9_clearBelow_74 : decode cX9_clearBelow 74 = .ok (.ifCond .ne 7, 3) := by decide +kernel
theorem dX9_clearBelow_77 : decode cX9_clearBelow 77 = .ok (.lconst 0, 1) := by decide +kernel
theorem dX9_clearBelow_78 : decode cX9_clearBelow 78 = .ok (.goto 7, 3) := by decide +kernel
theorem dX9_clearBelow_81 : decode cX9_clearBelow 81 = .ok (.lload 9, 2) := by decide +kernel
theorem dX9_clearBelow_83 : decode cX9_clearBelow 83 = .ok (.lload_n 3, 1) := by decide +kernel
theorem dX9_clearBelow_84 : decode cX9_clearBelow 84 = .ok (.ldiv, 1) := by decide +kernel
theorem dX9_clearBelow_85 : decode cX9_clearBelow 85 = .ok (.lastore, 1) := by decide +kernel
theorem dX9_clearBelow_86 : decode cX9_clearBelow 86 = .ok (.iinc 8 1, 3) := by decide +kernel
theorem dX9_clearBelow_89 : decode cX9_clearBelow 89 = .ok (.goto (-64), 3) := by decide +kernel
theorem dX9_clearBelow_92 : decode cX9_clearBelow 92 = .ok (.iinc 7 1, 3) := by decide +kernel
theorem dX9_clearBelow_95 : decode cX9_clearBelow 95 = .ok (.goto (-81), 3) := by decide +kernel
theorem dX9_clearBelow_98 : decode cX9_clearBelow 98 = .ok (.return_, 1) := by decide +kernel
theorem dX10_init_0 : decode cX10_init 0 = .ok (.aload_n 0, 1) := by decide +kernel
theorem dX10_init_1 : decode cX10_init 1 = .ok (.invokespecial 1, 3) := by decide +kernel
theorem dX10_init_4 : decode cX10_init 4 = .ok (.aload_n 0, 1) := by decide +kernel
theorem dX10_init_5 : decode cX10_init 5 = .ok (.sipush 128, 3) := by decide +kernel
theorem dX10_init_8 : decode cX10_init 8 = .ok (.newarray .long, 2) := by decide +kernel
theorem dX10_init_10 : decode cX10_init 10 = .ok (.putfield 9, 3) := by decide +kernel
theorem dX10_init_13 : decode cX10_init 13 = .ok (.aload_n 0, 1) := by decide +kernel
theorem dX10_init_14 : decode cX10_init 14 = .ok (.aload_n 1, 1) := by decide +kernel
theorem dX10_init_15 : decode cX10_init 15 = .ok (.putfield 15, 3) := by decide +kernel
theorem dX10_init_18 : decode cX10_init 18 = .ok (.return_, 1) := by decide +kernel
theorem dX10_forget_0 : decode cX10_forget 0 = .ok (.aload_n 0, 1) := by decide +kernel
theorem dX10_forget_1 : decode cX10_forget 1 = .ok (.iconst 0, 1) := by decide +kernel
theorem dX10_forget_2 : decode cX10_forget 2 = .ok (.putfield 19, 3) := by decide +kernel
theorem dX10_forget_5 : decode cX10_forget 5 = .ok (.return_, 1) := by decide +kernel
theorem dX10_worthOf_0 : decode cX10_worthOf 0 = .ok (.aload_n 0, 1) := by decide +kernel
theorem dX10_worthOf_1 : decode cX10_worthOf 1 = .ok (.invokevirtual 23, 3) := by decide +kernel
theorem dX10_worthOf_4 : decode cX10_worthOf 4 = .ok (.aload_n 0, 1) := by decide +kernel
theorem dX10_worthOf_5 : decode cX10_worthOf 5 = .ok (.aload_n 0, 1) := by decide +kernel
theorem dX10_worthOf_6 : decode cX10_worthOf 6 = .ok (.getfield 15, 3) := by decide +kernel
theorem dX10_worthOf_9 : decode cX10_worthOf 9 = .ok (.invokevirtual 26, 3) := by decide +kernel
theorem dX10_worthOf_12 : decode cX10_worthOf 12 = .ok (.iload_n 1, 1) := by decide +kernel
theorem dX10_worthOf_13 : decode cX10_worthOf 13 = .ok (.invokevirtual 30, 3) := by decide +kernel
theorem dX10_worthOf_16 : decode cX10_worthOf 16 = .ok (.lreturn, 1) := by decide +kernel
theorem dX10_sum_0 : decode cX10_sum 0 = .ok (.aload_n 0, 1) := by decide +kernel
theorem dX10_sum_1 : decode cX10_sum 1 = .ok (.invokevirtual 23, 3) := by decide +kernel
theorem dX10_sum_4 : decode cX10_sum 4 = .ok (.lconst 0, 1) := by decide +kernel
theorem dX10_sum_5 : decode cX10_sum 5 = .ok (.lstore_n 3, 1) := by decide +kernel
theorem dX10_sum_6 : decode cX10_sum 6 = .ok (.iconst 0, 1) := by decide +kernel
theorem dX10_sum_7 : decode cX10_sum 7 = .ok (.istore 5, 2) := by decide +kernel
theorem dX10_sum_9 : decode cX10_sum 9 = .ok (.iload 5, 2) := by decide +kernel
theorem dX10_sum_11 : decode cX10_sum 11 = .ok (.iconst 1, 1) := by decide +kernel
theorem dX10_sum_12 : decode cX10_sum 12 = .ok (.iload_n 1, 1) := by decide +kernel
theorem dX10_sum_13 : decode cX10_sum 13 = .ok (.ishl, 1) := by decide +kernel
theorem dX10_sum_14 : decode cX10_sum 14 = .ok (.if_icmp .ge 27, 3) := by decide +kernel
theorem dX10_sum_17 : decode cX10_sum 17 = .ok (.iload 5, 2) := by decide +kernel
theorem dX10_sum_19 : decode cX10_sum 19 = .ok (.iload_n 2, 1) := by decide +kernel
theorem dX10_sum_20 : decode cX10_sum 20 = .ok (.iand, 1) := by decide +kernel
theorem dX10_sum_21 : decode cX10_sum 21 = .ok (.iload_n 2, 1) := by decide +kernel
theorem dX10_sum_22 : decode cX10_sum 22 = .ok (.if_icmp .ne 13, 3) := by decide +kernel
theorem dX10_sum_25 : decode cX10_sum 25 = .ok (.lload_n 3, 1) := by decide +kernel
theorem dX10_sum_26 : decode cX10_sum 26 = .ok (.aload_n 0, 1) := by decide +kernel
theorem dX10_sum_27 : decode cX10_sum 27 = .ok (.iload_n 1, 1) := by decide +kernel
theorem dX10_sum_28 : decode cX10_sum 28 = .ok (.iload 5, 2) := by decide +kernel
theorem dX10_sum_30 : decode cX10_sum 30 = .ok (.invokevirtual 30, 3) := by decide +kernel
theorem dX10_sum_33 : decode cX10_sum 33 = .ok (.ladd, 1) := by decide +kernel
theorem dX10_sum_34 : decode cX10_sum 34 = .ok (.lstore_n 3, 1) := by decide +kernel
theorem dX10_sum_35 : decode cX10_sum 35 = .ok (.iinc 5 1, 3) := by decide +kernel
theorem dX10_sum_38 : decode cX10_sum 38 = .ok (.goto (-29), 3) := by decide +kernel
theorem dX10_sum_41 : decode cX10_sum 41 = .ok (.lload_n 3, 1) := by decide +kernel
theorem dX10_sum_42 : decode cX10_sum 42 = .ok (.lreturn, 1) := by decide +kernel
theorem dX10_at_0 : decode cX10_at 0 = .ok (.iconst 1, 1) := by decide +kernel
theorem dX10_at_1 : decode cX10_at 1 = .ok (.iload_n 1, 1) := by decide +kernel
theorem dX10_at_2 : decode cX10_at 2 = .ok (.ishl, 1) := by decide +kernel
theorem dX10_at_3 : decode cX10_at 3 = .ok (.iload_n 2, 1) := by decide +kernel
theorem dX10_at_4 : decode cX10_at 4 = .ok (.ior, 1) := by decide +kernel
theorem dX10_at_5 : decode cX10_at 5 = .ok (.istore_n 3, 1) := by decide +kernel
theorem dX10_at_6 : decode cX10_at 6 = .ok (.iload_n 3, 1) := by decide +kernel
theorem dX10_at_7 : decode cX10_at 7 = .ok (.ifCond .lt 21, 3) := by decide +kernel
theorem dX10_at_10 : decode cX10_at 10 = .ok (.iload_n 3, 1) := by decide +kernel
theorem dX10_at_11 : decode cX10_at 11 = .ok (.aload_n 0, 1) := by decide +kernel
theorem dX10_at_12 : decode cX10_at 12 = .ok (.getfield 9, 3) := by decide +kernel
theorem dX10_at_15 : decode cX10_at 15 = .ok (.arraylength, 1) := by decide +kernel
theorem dX10_at_16 : decode cX10_at 16 = .ok (.if_icmp .ge 12, 3) := by decide +kernel
theorem dX10_at_19 : decode cX10_at 19 = .ok (.aload_n 0, 1) := by decide +kernel
theorem dX10_at_20 : decode cX10_at 20 = .ok (.getfield 9, 3) := by decide +kernel
theorem dX10_at_23 : decode cX10_at 23 = .ok (.iload_n 3, 1) := by decide +kernel
theorem dX10_at_24 : decode cX10_at 24 = .ok (.laload, 1) := by decide +kernel
theorem dX10_at_25 : decode cX10_at 25 = .ok (.goto 4, 3) := by decide +kernel
theorem dX10_at_28 : decode cX10_at 28 = .ok (.lconst 0, 1) := by decide +kernel
theorem dX10_at_29 : decode cX10_at 29 = .ok (.lreturn, 1) := by decide +kernel
theorem dX10_find_0 : decode cX10_find 0 = .ok (.aload_n 0, 1) := by decide +kernel
theorem dX10_find_1 : decode cX10_find 1 = .ok (.getfield 19, 3) := by decide +kernel
theorem dX10_find_4 : decode cX10_find 4 = .ok (.ifCond .eq 4, 3) := by decide +kernel
theorem dX10_find_7 : decode cX10_find 7 = .ok (.return_, 1) := by decide +kernel
theorem dX10_find_8 : decode cX10_find 8 = .ok (.aload_n 0, 1) := by decide +kernel
theorem dX10_find_9 : decode cX10_find 9 = .ok (.iconst 1, 1) := by decide +kernel
theorem dX10_find_10 : decode cX10_find 10 = .ok (.putfield 19, 3) := by decide +kernel
theorem dX10_find_13 : decode cX10_find 13 = .ok (.iconst 0, 1) := by decide +kernel
theorem dX10_find_14 : decode cX10_find 14 = .ok (.istore_n 1, 1) := by decide +kernel
theorem dX10_find_15 : decode cX10_find 15 = .ok (.iload_n 1, 1) := by decide +kernel
theorem dX10_find_16 : decode cX10_find 16 = .ok (.aload_n 0, 1) := by decide +kernel
theorem dX10_find_17 : decode cX10_find 17 = .ok (.getfield 15, 3) := by decide +kernel
theorem dX10_find_20 : decode cX10_find 20 = .ok (.invokevirtual 26, 3) := by decide +kernel
theorem dX10_find_23 : decode cX10_find 23 = .ok (.if_icmp .gt 51, 3) := by decide +kernel
theorem dX10_find_26 : decode cX10_find 26 = .ok (.iconst 0, 1) := by decide +kernel
theorem dX10_find_27 : decode cX10_find 27 = .ok (.istore_n 2, 1) := by decide +kernel
theorem dX10_find_28 : decode cX10_find 28 = .ok (.iload_n 2, 1) := by decide +kernel
theorem dX10_find_29 : decode cX10_find 29 = .ok (.iconst 1, 1) := by decide +kernel
theorem dX10_find_30 : decode cX10_find 30 = .ok (.iload_n 1, 1) := by decide +kernel
theorem dX10_find_31 : decode cX10_find 31 = .ok (.ishl, 1) := by decide +kernel
theorem dX10_find_32 : decode cX10_find 32 = .ok (.if_icmp .ge 36, 3) := by decide +kernel
theorem dX10_find_35 : decode cX10_find 35 = .ok (.iconst 1, 1) := by decide +kernel
theorem dX10_find_36 : decode cX10_find 36 = .ok (.iload_n 1, 1) := by decide +kernel
theorem dX10_find_37 : decode cX10_find 37 = .ok (.ishl, 1) := by decide +kernel
theorem dX10_find_38 : decode cX10_find 38 = .ok (.iload_n 2, 1) := by decide +kernel
theorem dX10_find_39 : decode cX10_find 39 = .ok (.ior, 1) := by decide +kernel
theorem dX10_find_40 : decode cX10_find 40 = .ok (.istore_n 3, 1) := by decide +kernel
theorem dX10_find_41 : decode cX10_find 41 = .ok (.iload_n 3, 1) := by decide +kernel
theorem dX10_find_42 : decode cX10_find 42 = .ok (.aload_n 0, 1) := by decide +kernel
theorem dX10_find_43 : decode cX10_find 43 = .ok (.getfield 9, 3) := by decide +kernel
theorem dX10_find_46 : decode cX10_find 46 = .ok (.arraylength, 1) := by decide +kernel
theorem dX10_find_47 : decode cX10_find 47 = .ok (.if_icmp .ge 15, 3) := by decide +kernel
theorem dX10_find_50 : decode cX10_find 50 = .ok (.aload_n 0, 1) := by decide +kernel
theorem dX10_find_51 : decode cX10_find 51 = .ok (.getfield 9, 3) := by decide +kernel
theorem dX10_find_54 : decode cX10_find 54 = .ok (.iload_n 3, 1) := by decide +kernel
theorem dX10_find_55 : decode cX10_find 55 = .ok (.aload_n 0, 1) := by decide +kernel
theorem dX10_find_56 : decode cX10_find 56 = .ok (.iload_n 1, 1) := by decide +kernel
theorem dX10_find_57 : decode cX10_find 57 = .ok (.iload_n 2, 1) := by decide +kernel
theorem dX10_find_58 : decode cX10_find 58 = .ok (.invokevirtual 34, 3) := by decide +kernel
theorem dX10_find_61 : decode cX10_find 61 = .ok (.lastore, 1) := by decide +kernel
theorem dX10_find_62 : decode cX10_find 62 = .ok (.iinc 2 1, 3) := by decide +kernel
theorem dX10_find_65 : decode cX10_find 65 = .ok (.goto (-37), 3) := by decide +kernel
theorem dX10_find_68 : decode cX10_find 68 = .ok (.iinc 1 1, 3) := by decide +kernel
theorem dX10_find_71 : decode cX10_find 71 = .ok (.goto (-56), 3) := by decide +kernel
theorem dX10_find_74 : decode cX10_find 74 = .ok (.return_, 1) := by decide +kernel
theorem dX10_fromShorter_0 : decode cX10_fromShorter 0 = .ok (.aload_n 0, 1) := by decide +kernel
theorem dX10_fromShorter_1 : decode cX10_fromShorter 1 = .ok (.getfield 15, 3) := by decide +kernel
theorem dX10_fromShorter_4 : decode cX10_fromShorter 4 = .ok (.iconst 4, 1) := by decide +kernel
theorem dX10_fromShorter_5 : decode cX10_fromShorter 5 = .ok (.invokevirtual 37, 3) := by decide +kernel
theorem dX10_fromShorter_8 : decode cX10_fromShorter 8 = .ok (.i2l, 1) := by decide +kernel
theorem dX10_fromShorter_9 : decode cX10_fromShorter 9 = .ok (.lstore_n 3, 1) := by decide +kernel
theorem dX10_fromShorter_10 : decode cX10_fromShorter 10 = .ok (.aload_n 0, 1) := by decide +kernel
theorem dX10_fromShorter_11 : decode cX10_fromShorter 11 = .ok (.getfield 15, 3) := by decide +kernel
theorem dX10_fromShorter_14 : decode cX10_fromShorter 14 = .ok (.bipush 6, 2) := by decide +kernel
theorem dX10_fromShorter_16 : decode cX10_fromShorter 16 = .ok (.invokevirtual 37, 3) := by decide +kernel
theorem dX10_fromShorter_19 : decode cX10_fromShorter 19 = .ok (.i2l, 1) := by decide +kernel
theorem dX10_fromShorter_20 : decode cX10_fromShorter 20 = .ok (.lstore 5, 2) := by decide +kernel
theorem dX10_fromShorter_22 : decode cX10_fromShorter 22 = .ok (.iload_n 1, 1) := by decide +kernel
theorem dX10_fromShorter_23 : decode cX10_fromShorter 23 = .ok (.ifCond .ne 7, 3) := by decide +kernel
theorem dX10_fromShorter_26 : decode cX10_fromShorter 26 = .ok (.iconst 0, 1) := by decide +kernel
theorem dX10_fromShorter_27 : decode cX10_fromShorter 27 = .ok (.goto 18, 3) := by decide +kernel
theorem dX10_fromShorter_30 : decode cX10_fromShorter 30 = .ok (.iload_n 2, 1) := by decide +kernel
theorem dX10_fromShorter_31 : decode cX10_fromShorter 31 = .ok (.iload_n 2, 1) := by decide +kernel
theorem dX10_fromShorter_32 : decode cX10_fromShorter 32 = .ok (.iconst 1, 1) := by decide +kernel
theorem dX10_fromShorter_33 : decode cX10_fromShorter 33 = .ok (.ishr, 1) := by decide +kernel
theorem dX10_fromShorter_34 : decode cX10_fromShorter 34 = .ok (.iconst (-1), 1) := by decide +kernel
theorem dX10_fromShorter_35 : decode cX10_fromShorter 35 = .ok (.ixor, 1) := by decide +kernel
theorem dX10_fromShorter_36 : decode cX10_fromShorter 36 = .ok (.iand, 1) := by decide +kernel
theorem dX10_fromShorter_37 : decode cX10_fromShorter 37 = .ok (.iconst 1, 1) := by decide +kernel
theorem dX10_fromShorter_38 : decode cX10_fromShorter 38 = .ok (.iload_n 1, 1) := by decide +kernel
theorem dX10_fromShorter_39 : decode cX10_fromShorter 39 = .ok (.iconst 1, 1) := by decide +kernel
theorem dX10_fromShorter_40 : decode cX10_fromShorter 40 = .ok (.isub, 1) := by decide +kernel
theorem dX10_fromShorter_41 : decode cX10_fromShorter 41 = .ok (.ishl, 1) := by decide +kernel
theorem dX10_fromShorter_42 : decode cX10_fromShorter 42 = .ok (.iconst 1, 1) := by decide +kernel
theorem dX10_fromShorter_43 : decode cX10_fromShorter 43 = .ok (.isub, 1) := by decide +kernel
theorem dX10_fromShorter_44 : decode cX10_fromShorter 44 = .ok (.iand, 1) := by decide +kernel
theorem dX10_fromShorter_45 : decode cX10_fromShorter 45 = .ok (.istore 7, 2) := by decide +kernel
theorem dX10_fromShorter_47 : decode cX10_fromShorter 47 = .ok (.iload 7, 2) := by decide +kernel
theorem dX10_fromShorter_49 : decode cX10_fromShorter 49 = .ok (.ifCond .ne 26, 3) := by decide +kernel
theorem dX10_fromShorter_52 : decode cX10_fromShorter 52 = .ok (.iload_n 2, 1) := by decide +kernel
theorem dX10_fromShorter_53 : decode cX10_fromShorter 53 = .ok (.invokestatic 41, 3) := by decide +kernel
theorem dX10_fromShorter_56 : decode cX10_fromShorter 56 = .ok (.istore 8, 2) := by decide +kernel
theorem dX10_fromShorter_58 : decode cX10_fromShorter 58 = .ok (.lload_n 3, 1) := by decide +kernel
theorem dX10_fromShorter_59 : decode cX10_fromShorter 59 = .ok (.iload 8, 2) := by decide +kernel
theorem dX10_fromShorter_61 : decode cX10_fromShorter 61 = .ok (.invokestatic 46, 3) := by decide +kernel
theorem dX10_fromShorter_64 : decode cX10_fromShorter 64 = .ok (.lload 5, 2) := by decide +kernel
theorem dX10_fromShorter_66 : decode cX10_fromShorter 66 = .ok (.iload_n 1, 1) := by decide +kernel
theorem dX10_fromShorter_67 : decode cX10_fromShorter 67 = .ok (.iload 8, 2) := by decide +kernel
theorem dX10_fromShorter_69 : decode cX10_fromShorter 69 = .ok (.isub, 1) := by decide +kernel
theorem dX10_fromShorter_70 : decode cX10_fromShorter 70 = .ok (.invokestatic 46, 3) := by decide +kernel
theorem dX10_fromShorter_73 : decode cX10_fromShorter 73 = .ok (.lmul, 1) := by decide +kernel
theorem dX10_fromShorter_74 : decode cX10_fromShorter 74 = .ok (.lreturn, 1) := by decide +kernel
theorem dX10_fromShorter_75 : decode cX10_fromShorter 75 = .ok (.iload 7, 2) := by decide +kernel
theorem dX10_fromShorter_77 : decode cX10_fromShorter 77 = .ok (.invokestatic 50, 3) := by decide +kernel
theorem dX10_fromShorter_80 : decode cX10_fromShorter 80 = .ok (.istore 8, 2) := by decide +kernel
theorem dX10_fromShorter_82 : decode cX10_fromShorter 82 = .ok (.lload_n 3, 1) := by decide +kernel
theorem dX10_fromShorter_83 : decode cX10_fromShorter 83 = .ok (.lload 5, 2) := by decide +kernel
theorem dX10_fromShorter_85 : decode cX10_fromShorter 85 = .ok (.lmul, 1) := by decide +kernel
theorem dX10_fromShorter_86 : decode cX10_fromShorter 86 = .ok (.aload_n 0, 1) := by decide +kernel
theorem dX10_fromShorter_87 : decode cX10_fromShorter 87 = .ok (.iload_n 1, 1) := by decide +kernel
theorem dX10_fromShorter_88 : decode cX10_fromShorter 88 = .ok (.iconst 1, 1) := by decide +kernel
theorem dX10_fromShorter_89 : decode cX10_fromShorter 89 = .ok (.isub, 1) := by decide +kernel
theorem dX10_fromShorter_90 : decode cX10_fromShorter 90 = .ok (.iload_n 2, 1) := by decide +kernel
theorem dX10_fromShorter_91 : decode cX10_fromShorter 91 = .ok (.iload 8, 2) := by decide +kernel
theorem dX10_fromShorter_93 : decode cX10_fromShorter 93 = .ok (.invokestatic 53, 3) := by decide +kernel
theorem dX10_fromShorter_96 : decode cX10_fromShorter 96 = .ok (.invokevirtual 30, 3) := by decide +kernel
theorem dX10_fromShorter_99 : decode cX10_fromShorter 99 = .ok (.aload_n 0, 1) := by decide +kernel
theorem dX10_fromShorter_100 : decode cX10_fromShorter 100 = .ok (.iload_n 1, 1) := by decide +kernel
theorem dX10_fromShorter_101 : decode cX10_fromShorter 101 = .ok (.iconst 1, 1) := by decide +kernel
theorem dX10_fromShorter_102 : decode cX10_fromShorter 102 = .ok (.isub, 1) := by decide +kernel
theorem dX10_fromShorter_103 : decode cX10_fromShorter 103 = .ok (.iload_n 2, 1) := by decide +kernel
theorem dX10_fromShorter_104 : decode cX10_fromShorter 104 = .ok (.iload 8, 2) := by decide +kernel
theorem dX10_fromShorter_106 : decode cX10_fromShorter 106 = .ok (.iconst 1, 1) := by decide +kernel
theorem dX10_fromShorter_107 : decode cX10_fromShorter 107 = .ok (.iadd, 1) := by decide +kernel
theorem dX10_fromShorter_108 : decode cX10_fromShorter 108 = .ok (.invokestatic 53, 3) := by decide +kernel
theorem dX10_fromShorter_111 : decode cX10_fromShorter 111 = .ok (.invokevirtual 30, 3) := by decide +kernel
theorem dX10_fromShorter_114 : decode cX10_fromShorter 114 = .ok (.ladd, 1) := by decide +kernel
theorem dX10_fromShorter_115 : decode cX10_fromShorter 115 = .ok (.lmul, 1) := by decide +kernel
theorem dX10_fromShorter_116 : decode cX10_fromShorter 116 = .ok (.lreturn, 1) := by decide +kernel
theorem dX10_without_0 : decode cX10_without 0 = .ok (.iload_n 0, 1) := by decide +kernel
theorem dX10_without_1 : decode cX10_without 1 = .ok (.iconst 1, 1) := by decide +kernel
theorem dX10_without_2 : decode cX10_without 2 = .ok (.iload_n 1, 1) := by decide +kernel
theorem dX10_without_3 : decode cX10_without 3 = .ok (.ishl, 1) := by decide +kernel
theorem dX10_without_4 : decode cX10_without 4 = .ok (.iconst 1, 1) := by decide +kernel
theorem dX10_without_5 : decode cX10_without 5 = .ok (.isub, 1) := by decide +kernel
theorem dX10_without_6 : decode cX10_without 6 = .ok (.iand, 1) := by decide +kernel
theorem dX10_without_7 : decode cX10_without 7 = .ok (.iload_n 0, 1) := by decide +kernel
theorem dX10_without_8 : decode cX10_without 8 = .ok (.iload_n 1, 1) := by decide +kernel
theorem dX10_without_9 : decode cX10_without 9 = .ok (.iconst 1, 1) := by decide +kernel
theorem dX10_without_10 : decode cX10_without 10 = .ok (.iadd, 1) := by decide +kernel
theorem dX10_without_11 : decode cX10_without 11 = .ok (.ishr, 1) := by decide +kernel
theorem dX10_without_12 : decode cX10_without 12 = .ok (.iload_n 1, 1) := by decide +kernel
theorem dX10_without_13 : decode cX10_without 13 = .ok (.ishl, 1) := by decide +kernel
theorem dX10_without_14 : decode cX10_without 14 = .ok (.ior, 1) := by decide +kernel
theorem dX10_without_15 : decode cX10_without 15 = .ok (.ireturn, 1) := by decide +kernel
theorem dX10_power_0 : decode cX10_power 0 = .ok (.lconst 1, 1) := by decide +kernel
theorem dX10_power_1 : decode cX10_power 1 = .ok (.lstore_n 3, 1) := by decide +kernel
theorem dX10_power_2 : decode cX10_power 2 = .ok (.iconst 0, 1) := by decide +kernel
theorem dX10_power_3 : decode cX10_power 3 = .ok (.istore 5, 2) := by decide +kernel
theorem dX10_power_5 : decode cX10_power 5 = .ok (.iload 5, 2) := by decide +kernel
theorem dX10_power_7 : decode cX10_power 7 = .ok (.iload_n 2, 1) := by decide +kernel
theorem dX10_power_8 : decode cX10_power 8 = .ok (.if_icmp .ge 13, 3) := by decide +kernel
theorem dX10_power_11 : decode cX10_power 11 = .ok (.lload_n 3, 1) := by decide +kernel
theorem dX10_power_12 : decode cX10_power 12 = .ok (.lload_n 0, 1) := by decide +kernel
theorem dX10_power_13 : decode cX10_power 13 = .ok (.lmul, 1) := by decide +kernel
theorem dX10_power_14 : decode cX10_power 14 = .ok (.lstore_n 3, 1) := by decide +kernel
theorem dX10_power_15 : decode cX10_power 15 = .ok (.iinc 5 1, 3) := by decide +kernel
theorem dX10_power_18 : decode cX10_power 18 = .ok (.goto (-13), 3) := by decide +kernel
theorem dX10_power_21 : decode cX10_power 21 = .ok (.lload_n 3, 1) := by decide +kernel
theorem dX10_power_22 : decode cX10_power 22 = .ok (.lreturn, 1) := by decide +kernel
theorem dX11_init_0 : decode cX11_init 0 = .ok (.aload_n 0, 1) := by decide +kernel
theorem dX11_init_1 : decode cX11_init 1 = .ok (.invokespecial 1, 3) := by decide +kernel
theorem dX11_init_4 : decode cX11_init 4 = .ok (.aload_n 0, 1) := by decide +kernel
theorem dX11_init_5 : decode cX11_init 5 = .ok (.new 7, 3) := by decide +kernel
theorem dX11_init_8 : decode cX11_init 8 = .ok (.dup, 1) := by decide +kernel
theorem dX11_init_9 : decode cX11_init 9 = .ok (.invokespecial 9, 3) := by decide +kernel
theorem dX11_init_12 : decode cX11_init 12 = .ok (.putfield 10, 3) := by decide +kernel
theorem dX11_init_15 : decode cX11_init 15 = .ok (.aload_n 0, 1) := by decide +kernel
theorem dX11_init_16 : decode cX11_init 16 = .ok (.new 16, 3) := by decide +kernel
theorem dX11_init_19 : decode cX11_init 19 = .ok (.dup, 1) := by decide +kernel
theorem dX11_init_20 : decode cX11_init 20 = .ok (.invokespecial 18, 3) := by decide +kernel
theorem dX11_init_23 : decode cX11_init 23 = .ok (.putfield 19, 3) := by decide +kernel
theorem dX11_init_26 : decode cX11_init 26 = .ok (.aload_n 0, 1) := by decide +kernel
theorem dX11_init_27 : decode cX11_init 27 = .ok (.new 23, 3) := by decide +kernel
theorem dX11_init_30 : decode cX11_init 30 = .ok (.dup, 1) := by decide +kernel
theorem dX11_init_31 : decode cX11_init 31 = .ok (.aload_n 0, 1) := by decide +kernel
theorem dX11_init_32 : decode cX11_init 32 = .ok (.getfield 10, 3) := by decide +kernel
theorem dX11_init_35 : decode cX11_init 35 = .ok (.invokespecial 25, 3) := by decide +kernel
theorem dX11_init_38 : decode cX11_init 38 = .ok (.putfield 28, 3) := by decide +kernel
theorem dX11_init_41 : decode cX11_init 41 = .ok (.aload_n 0, 1) := by decide +kernel
theorem dX11_init_42 : decode cX11_init 42 = .ok (.new 32, 3) := by decide +kernel
theorem dX11_init_45 : decode cX11_init 45 = .ok (.dup, 1) := by decide +kernel
theorem dX11_init_46 : decode cX11_init 46 = .ok (.aload_n 0, 1) := by decide +kernel
theorem dX11_init_47 : decode cX11_init 47 = .ok (.getfield 19, 3) := by decide +kernel
theorem dX11_init_50 : decode cX11_init 50 = .ok (.invokespecial 34, 3) := by decide +kernel
theorem dX11_init_53 : decode cX11_init 53 = .ok (.putfield 37, 3) := by decide +kernel
theorem dX11_init_56 : decode cX11_init 56 = .ok (.aload_n 0, 1) := by decide +kernel
theorem dX11_init_57 : decode cX11_init 57 = .ok (.new 41, 3) := by decide +kernel
theorem dX11_init_60 : decode cX11_init 60 = .ok (.dup, 1) := by decide +kernel
theorem dX11_init_61 : decode cX11_init 61 = .ok (.aload_n 0, 1) := by decide +kernel
theorem dX11_init_62 : decode cX11_init 62 = .ok (.getfield 19, 3) := by decide +kernel
theorem dX11_init_65 : decode cX11_init 65 = .ok (.invokespecial 43, 3) := by decide +kernel
theorem dX11_init_68 : decode cX11_init 68 = .ok (.putfield 44, 3) := by decide +kernel
theorem dX11_init_71 : decode cX11_init 71 = .ok (.aload_n 0, 1) := by decide +kernel
theorem dX11_init_72 : decode cX11_init 72 = .ok (.new 48, 3) := by decide +kernel
theorem dX11_init_75 : decode cX11_init 75 = .ok (.dup, 1) := by decide +kernel
theorem dX11_init_76 : decode cX11_init 76 = .ok (.aload_n 0, 1) := by decide +kernel
theorem dX11_init_77 : decode cX11_init 77 = .ok (.getfield 19, 3) := by decide +kernel
theorem dX11_init_80 : decode cX11_init 80 = .ok (.invokespecial 50, 3) := by decide +kernel
theorem dX11_init_83 : decode cX11_init 83 = .ok (.putfield 51, 3) := by decide +kernel
theorem dX11_init_86 : decode cX11_init 86 = .ok (.aload_n 0, 1) := by decide +kernel
theorem dX11_init_87 : decode cX11_init 87 = .ok (.new 55, 3) := by decide +kernel
theorem dX11_init_90 : decode cX11_init 90 = .ok (.dup, 1) := by decide +kernel
theorem dX11_init_91 : decode cX11_init 91 = .ok (.invokespecial 57, 3) := by decide +kernel
theorem dX11_init_94 : decode cX11_init 94 = .ok (.putfield 58, 3) := by decide +kernel
theorem dX11_init_97 : decode cX11_init 97 = .ok (.aload_n 0, 1) := by decide +kernel
theorem dX11_init_98 : decode cX11_init 98 = .ok (.new 62, 3) := by decide +kernel
theorem dX11_init_101 : decode cX11_init 101 = .ok (.dup, 1) := by decide +kernel
theorem dX11_init_102 : decode cX11_init 102 = .ok (.invokespecial 64, 3) := by decide +kernel
theorem dX11_init_105 : decode cX11_init 105 = .ok (.putfield 65, 3) := by decide +kernel
theorem dX11_init_108 : decode cX11_init 108 = .ok (.return_, 1) := by decide +kernel
theorem dX11_feed_0 : decode cX11_feed 0 = .ok (.aload_n 0, 1) := by decide +kernel
theorem dX11_feed_1 : decode cX11_feed 1 = .ok (.getfield 10, 3) := by decide +kernel
theorem dX11_feed_4 : decode cX11_feed 4 = .ok (.lload_n 1, 1) := by decide +kernel
theorem dX11_feed_5 : decode cX11_feed 5 = .ok (.invokevirtual 69, 3) := by decide +kernel
theorem dX11_feed_8 : decode cX11_feed 8 = .ok (.ifCond .eq 13, 3) := by decide +kernel
theorem dX11_feed_11 : decode cX11_feed 11 = .ok (.aload_n 0, 1) := by decide +kernel
theorem dX11_feed_12 : decode cX11_feed 12 = .ok (.getfield 10, 3) := by decide +kernel
theorem dX11_feed_15 : decode cX11_feed 15 = .ok (.invokevirtual 73, 3) := by decide +kernel
theorem dX11_feed_18 : decode cX11_feed 18 = .ok (.goto 5, 3) := by decide +kernel
theorem dX11_feed_21 : decode cX11_feed 21 = .ok (.bipush (-3), 2) := by decide +kernel
theorem dX11_feed_23 : decode cX11_feed 23 = .ok (.ireturn, 1) := by decide +kernel
theorem dX11_end_0 : decode cX11_end 0 = .ok (.aload_n 0, 1) := by decide +kernel
theorem dX11_end_1 : decode cX11_end 1 = .ok (.getfield 10, 3) := by decide +kernel
theorem dX11_end_4 : decode cX11_end 4 = .ok (.invokevirtual 73, 3) := by decide +kernel
theorem dX11_end_7 : decode cX11_end 7 = .ok (.istore_n 2, 1) := by decide +kernel
theorem dX11_end_8 : decode cX11_end 8 = .ok (.aload_n 0, 1) := by decide +kernel
theorem dX11_end_9 : decode cX11_end 9 = .ok (.getfield 10, 3) := by decide +kernel
theorem dX11_end_12 : decode cX11_end 12 = .ok (.iload_n 1, 1) := by decide +kernel
theorem dX11_end_13 : decode cX11_end 13 = .ok (.invokevirtual 77, 3) := by decide +kernel
theorem dX11_end_16 : decode cX11_end 16 = .ok (.ifCond .eq 7, 3) := by decide +kernel
theorem dX11_end_19 : decode cX11_end 19 = .ok (.iload_n 2, 1) := by decide +kernel
theorem dX11_end_20 : decode cX11_end 20 = .ok (.goto 4, 3) := by decide +kernel
theorem dX11_end_23 : decode cX11_end 23 = .ok (.iconst (-1), 1) := by decide +kernel
theorem dX11_end_24 : decode cX11_end 24 = .ok (.ireturn, 1) := by decide +kernel
theorem dX11_text_0 : decode cX11_text 0 = .ok (.aload_n 0, 1) := by decide +kernel
theorem dX11_text_1 : decode cX11_text 1 = .ok (.getfield 28, 3) := by decide +kernel
theorem dX11_text_4 : decode cX11_text 4 = .ok (.invokevirtual 81, 3) := by decide +kernel
theorem dX11_text_7 : decode cX11_text 7 = .ok (.istore_n 1, 1) := by decide +kernel
theorem dX11_text_8 : decode cX11_text 8 = .ok (.aload_n 0, 1) := by decide +kernel
theorem dX11_text_9 : decode cX11_text 9 = .ok (.getfield 10, 3) := by decide +kernel
theorem dX11_text_12 : decode cX11_text 12 = .ok (.iconst 0, 1) := by decide +kernel
theorem dX11_text_13 : decode cX11_text 13 = .ok (.invokevirtual 77, 3) := by decide +kernel
theorem dX11_text_16 : decode cX11_text 16 = .ok (.pop, 1) := by decide +kernel
theorem dX11_text_17 : decode cX11_text 17 = .ok (.iload_n 1, 1) := by decide +kernel
theorem dX11_text_18 : decode cX11_text 18 = .ok (.ifCond .ne 14, 3) := by decide +kernel
theorem dX11_text_21 : decode cX11_text 21 = .ok (.bipush (-10), 2) := by decide +kernel
theorem dX11_text_23 : decode cX11_text 23 = .ok (.aload_n 0, 1) := by decide +kernel
theorem dX11_text_24 : decode cX11_text 24 = .ok (.getfield 28, 3) := by decide +kernel
theorem dX11_text_27 : decode cX11_text 27 = .ok (.invokevirtual 85, 3) := by decide +kernel
theorem dX11_text_30 : decode cX11_text 30 = .ok (.isub, 1) := by decide +kernel
theorem dX11_text_31 : decode cX11_text 31 = .ok (.ireturn, 1) := by decide +kernel
theorem dX11_text_32 : decode cX11_text 32 = .ok (.aload_n 0, 1) := by decide +kernel
theorem dX11_text_33 : decode cX11_text 33 = .ok (.getfield 28, 3) := by decide +kernel
theorem dX11_text_36 : decode cX11_text 36 = .ok (.aload_n 0, 1) := by decide +kernel
theorem dX11_text_37 : decode cX11_text 37 = .ok (.getfield 19, 3) := by decide +kernel
theorem dX11_text_40 : decode cX11_text 40 = .ok (.invokevirtual 88, 3) := by decide +kernel
theorem dX11_text_43 : decode cX11_text 43 = .ok (.aload_n 0, 1) := by decide +kernel
theorem dX11_text_44 : decode cX11_text 44 = .ok (.getfield 37, 3) := by decide +kernel
theorem dX11_text_47 : decode cX11_text 47 = .ok (.invokevirtual 91, 3) := by decide +kernel
theorem dX11_text_50 : decode cX11_text 50 = .ok (.aload_n 0, 1) := by decide +kernel
theorem dX11_text_51 : decode cX11_text 51 = .ok (.getfield 44, 3) := by decide +kernel
theorem dX11_text_54 : decode cX11_text 54 = .ok (.invokevirtual 94, 3) := by decide +kernel
theorem dX11_text_57 : decode cX11_text 57 = .ok (.aload_n 0, 1) := by decide +kernel
theorem dX11_text_58 : decode cX11_text 58 = .ok (.getfield 51, 3) := by decide +kernel
theorem dX11_text_61 : decode cX11_text 61 = .ok (.invokevirtual 95, 3) := by decide +kernel
theorem dX11_text_64 : decode cX11_text 64 = .ok (.aload_n 0, 1) := by decide +kernel
theorem dX11_text_65 : decode cX11_text 65 = .ok (.getfield 28, 3) := by decide +kernel
theorem dX11_text_68 : decode cX11_text 68 = .ok (.invokevirtual 96, 3) := by decide +kernel
theorem dX11_text_71 : decode cX11_text 71 = .ok (.ireturn, 1) := by decide +kernel
theorem dX11_fault_0 : decode cX11_fault 0 = .ok (.aload_n 0, 1) := by decide +kernel
theorem dX11_fault_1 : decode cX11_fault 1 = .ok (.getfield 28, 3) := by decide +kernel
theorem dX11_fault_4 : decode cX11_fault 4 = .ok (.invokevirtual 99, 3) := by decide +kernel
theorem dX11_fault_7 : decode cX11_fault 7 = .ok (.ireturn, 1) := by decide +kernel
theorem dX11_told_0 : decode cX11_told 0 = .ok (.iload_n 1, 1) := by decide +kernel
theorem dX11_told_1 : decode cX11_told 1 = .ok (.iconst 0, 1) := by decide +kernel
theorem dX11_told_2 : decode cX11_told 2 = .ok (.bipush 7, 2) := by decide +kernel
theorem dX11_told_4 : decode cX11_told 4 = .ok (.invokestatic 102, 3) := by decide +kernel
theorem dX11_told_7 : decode cX11_told 7 = .ok (.ifCond .eq 14, 3) := by decide +kernel
theorem dX11_told_10 : decode cX11_told 10 = .ok (.aload_n 0, 1) := by decide +kernel
theorem dX11_told_11 : decode cX11_told 11 = .ok (.getfield 19, 3) := by decide +kernel
theorem dX11_told_14 : decode cX11_told 14 = .ok (.iload_n 1, 1) := by decide +kernel
theorem dX11_told_15 : decode cX11_told 15 = .ok (.invokevirtual 106, 3) := by decide +kernel
theorem dX11_told_18 : decode cX11_told 18 = .ok (.goto 4, 3) := by decide +kernel
theorem dX11_told_21 : decode cX11_told 21 = .ok (.iconst (-1), 1) := by decide +kernel
theorem dX11_told_22 : decode cX11_told 22 = .ok (.ireturn, 1) := by decide +kernel
theorem dX11_rate_0 : decode cX11_rate 0 = .ok (.aload_n 0, 1) := by decide +kernel
theorem dX11_rate_1 : decode cX11_rate 1 = .ok (.getfield 19, 3) := by decide +kernel
theorem dX11_rate_4 : decode cX11_rate 4 = .ok (.iload_n 1, 1) := by decide +kernel
theorem dX11_rate_5 : decode cX11_rate 5 = .ok (.invokevirtual 110, 3) := by decide +kernel
theorem dX11_rate_8 : decode cX11_rate 8 = .ok (.ifCond .eq 26, 3) := by decide +kernel
theorem dX11_rate_11 : decode cX11_rate 11 = .ok (.aload_n 0, 1) := by decide +kernel
theorem dX11_rate_12 : decode cX11_rate 12 = .ok (.getfield 19, 3) := by decide +kernel
theorem dX11_rate_15 : decode cX11_rate 15 = .ok (.iload_n 2, 1) := by decide +kernel
theorem dX11_rate_16 : decode cX11_rate 16 = .ok (.invokevirtual 110, 3) := by decide +kernel
theorem dX11_rate_19 : decode cX11_rate 19 = .ok (.ifCond .eq 15, 3) := by decide +kernel
theorem dX11_rate_22 : decode cX11_rate 22 = .ok (.aload_n 0, 1) := by decide +kernel
theorem dX11_rate_23 : decode cX11_rate 23 = .ok (.getfield 19, 3) := by decide +kernel
theorem dX11_rate_26 : decode cX11_rate 26 = .ok (.iload_n 1, 1) := by decide +kernel
theorem dX11_rate_27 : decode cX11_rate 27 = .ok (.iload_n 2, 1) := by decide +kernel
theorem dX11_rate_28 : decode cX11_rate 28 = .ok (.invokevirtual 113, 3) := by decide +kernel
theorem dX11_rate_31 : decode cX11_rate 31 = .ok (.goto 4, 3) := by decide +kernel
theorem dX11_rate_34 : decode cX11_rate 34 = .ok (.iconst (-1), 1) := by decide +kernel
theorem dX11_rate_35 : decode cX11_rate 35 = .ok (.ireturn, 1) := by decide +kernel
theorem dX11_of_0 : decode cX11_of 0 = .ok (.aload_n 0, 1) := by decide +kernel
theorem dX11_of_1 : decode cX11_of 1 = .ok (.getfield 19, 3) := by decide +kernel
theorem dX11_of_4 : decode cX11_of 4 = .ok (.iload_n 1, 1) := by decide +kernel
theorem dX11_of_5 : decode cX11_of 5 = .ok (.invokevirtual 110, 3) := by decide +kernel
theorem dX11_of_8 : decode cX11_of 8 = .ok (.ifCond .ne 5, 3) := by decide +kernel
theorem dX11_of_11 : decode cX11_of 11 = .ok (.iconst (-1), 1) := by decide +kernel
theorem dX11_of_12 : decode cX11_of 12 = .ok (.ireturn, 1) := by decide +kernel
theorem dX11_of_13 : decode cX11_of 13 = .ok (.iload_n 2, 1) := by decide +kernel
theorem dX11_of_14 : decode cX11_of 14 = .ok (.tableswitch 133 0 6 #[42, 51, 63, 78, 93, 113, 128], 42) := by decide +kernel
theorem dX11_of_56 : decode cX11_of 56 = .ok (.aload_n 0, 1) := by decide +kernel
theorem dX11_of_57 : decode cX11_of 57 = .ok (.getfield 19, 3) := by decide +kernel
theorem dX11_of_60 : decode cX11_of 60 = .ok (.iload_n 1, 1) := by decide +kernel
theorem dX11_of_61 : decode cX11_of 61 = .ok (.invokevirtual 117, 3) := by decide +kernel
theorem dX11_of_64 : decode cX11_of 64 = .ok (.ireturn, 1) := by decide +kernel
theorem dX11_of_65 : decode cX11_of 65 = .ok (.aload_n 0, 1) := by decide +kernel
theorem dX11_of_66 : decode cX11_of 66 = .ok (.getfield 19, 3) := by decide +kernel
theorem dX11_of_69 : decode cX11_of 69 = .ok (.iload_n 1, 1) := by decide +kernel
theorem dX11_of_70 : decode cX11_of 70 = .ok (.invokevirtual 120, 3) := by decide +kernel
theorem dX11_of_73 : decode cX11_of 73 = .ok (.invokestatic 124, 3) := by decide +kernel
theorem dX11_of_76 : decode cX11_of 76 = .ok (.ireturn, 1) := by decide +kernel
theorem dX11_of_77 : decode cX11_of 77 = .ok (.aload_n 0, 1) := by decide +kernel
theorem dX11_of_78 : decode cX11_of 78 = .ok (.getfield 37, 3) := by decide +kernel
theorem dX11_of_81 : decode cX11_of 81 = .ok (.invokevirtual 130, 3) := by decide +kernel
theorem dX11_of_84 : decode cX11_of 84 = .ok (.iload_n 1, 1) := by decide +kernel
theorem dX11_of_85 : decode cX11_of 85 = .ok (.invokevirtual 134, 3) := by decide +kernel
theorem dX11_of_88 : decode cX11_of 88 = .ok (.invokestatic 124, 3) := by decide +kernel
theorem dX11_of_91 : decode cX11_of 91 = .ok (.ireturn, 1) := by decide +kernel
theorem dX11_of_92 : decode cX11_of 92 = .ok (.aload_n 0, 1) := by decide +kernel
theorem dX11_of_93 : decode cX11_of 93 = .ok (.getfield 37, 3) := by decide +kernel
theorem dX11_of_96 : decode cX11_of 96 = .ok (.invokevirtual 130, 3) := by decide +kernel
theorem dX11_of_99 : decode cX11_of 99 = .ok (.iload_n 1, 1) := by decide +kernel
theorem dX11_of_100 : decode cX11_of 100 = .ok (.invokevirtual 137, 3) := by decide +kernel
theorem dX11_of_103 : decode cX11_of 103 = .ok (.invokestatic 124, 3) := by decide +kernel
theorem dX11_of_106 : decode cX11_of 106 = .ok (.ireturn, 1) := by decide +kernel
theorem dX11_of_107 : decode cX11_of 107 = .ok (.aload_n 0, 1) := by decide +kernel
theorem dX11_of_108 : decode cX11_of 108 = .ok (.getfield 37, 3) := by decide +kernel
theorem dX11_of_111 : decode cX11_of 111 = .ok (.invokevirtual 130, 3) := by decide +kernel
theorem dX11_of_114 : decode cX11_of 114 = .ok (.iload_n 1, 1) := by decide +kernel
theorem dX11_of_115 : decode cX11_of 115 = .ok (.invokevirtual 140, 3) := by decide +kernel
theorem dX11_of_118 : decode cX11_of 118 = .ok (.ifCond .eq 7, 3) := by decide +kernel
theorem dX11_of_121 : decode cX11_of 121 = .ok (.iconst 1, 1) := by decide +kernel
theorem dX11_of_122 : decode cX11_of 122 = .ok (.goto 4, 3) := by decide +kernel
theorem dX11_of_125 : decode cX11_of 125 = .ok (.iconst 0, 1) := by decide +kernel
theorem dX11_of_126 : decode cX11_of 126 = .ok (.ireturn, 1) := by decide +kernel
theorem dX11_of_127 : decode cX11_of 127 = .ok (.aload_n 0, 1) := by decide +kernel
theorem dX11_of_128 : decode cX11_of 128 = .ok (.getfield 37, 3) := by decide +kernel
theorem dX11_of_131 : decode cX11_of 131 = .ok (.invokevirtual 130, 3) := by decide +kernel
theorem dX11_of_134 : decode cX11_of 134 = .ok (.iload_n 1, 1) := by decide +kernel
theorem dX11_of_135 : decode cX11_of 135 = .ok (.invokevirtual 137, 3) := by decide +kernel
theorem dX11_of_138 : decode cX11_of 138 = .ok (.invokestatic 143, 3) := by decide +kernel
theorem dX11_of_141 : decode cX11_of 141 = .ok (.ireturn, 1) := by decide +kernel
theorem dX11_of_142 : decode cX11_of 142 = .ok (.iload_n 1, 1) := by decide +kernel
theorem dX11_of_143 : decode cX11_of 143 = .ok (.invokestatic 146, 3) := by decide +kernel
theorem dX11_of_146 : decode cX11_of 146 = .ok (.ireturn, 1) := by decide +kernel
theorem dX11_of_147 : decode cX11_of 147 = .ok (.iconst (-1), 1) := by decide +kernel
theorem dX11_of_148 : decode cX11_of 148 = .ok (.ireturn, 1) := by decide +kernel
theorem dX11_parts_0 : decode cX11_parts 0 = .ok (.iload_n 1, 1) := by decide +kernel
theorem dX11_parts_1 : decode cX11_parts 1 = .ok (.tableswitch 62 0 2 #[27, 39, 51], 27) := by decide +kernel
theorem dX11_parts_28 : decode cX11_parts 28 = .ok (.aload_n 0, 1) := by decide +kernel
theorem dX11_parts_29 : decode cX11_parts 29 = .ok (.getfield 37, 3) := by decide +kernel
theorem dX11_parts_32 : decode cX11_parts 32 = .ok (.invokevirtual 130, 3) := by decide +kernel
theorem dX11_parts_35 : decode cX11_parts 35 = .ok (.iconst 0, 1) := by decide +kernel
theorem dX11_parts_36 : decode cX11_parts 36 = .ok (.invokevirtual 150, 3) := by decide +kernel
theorem dX11_parts_39 : decode cX11_parts 39 = .ok (.ireturn, 1) := by decide +kernel
theorem dX11_parts_40 : decode cX11_parts 40 = .ok (.aload_n 0, 1) := by decide +kernel
theorem dX11_parts_41 : decode cX11_parts 41 = .ok (.getfield 37, 3) := by decide +kernel
theorem dX11_parts_44 : decode cX11_parts 44 = .ok (.invokevirtual 130, 3) := by decide +kernel
theorem dX11_parts_47 : decode cX11_parts 47 = .ok (.iconst 1, 1) := by decide +kernel
theorem dX11_parts_48 : decode cX11_parts 48 = .ok (.invokevirtual 150, 3) := by decide +kernel
theorem dX11_parts_51 : decode cX11_parts 51 = .ok (.ireturn, 1) := by decide +kernel
theorem dX11_parts_52 : decode cX11_parts 52 = .ok (.aload_n 0, 1) := by decide +kernel
theorem dX11_parts_53 : decode cX11_parts 53 = .ok (.getfield 37, 3) := by decide +kernel
theorem dX11_parts_56 : decode cX11_parts 56 = .ok (.invokevirtual 130, 3) := by decide +kernel
theorem dX11_parts_59 : decode cX11_parts 59 = .ok (.invokevirtual 154, 3) := by decide +kernel
theorem dX11_parts_62 : decode cX11_parts 62 = .ok (.ireturn, 1) := by decide +kernel
theorem dX11_parts_63 : decode cX11_parts 63 = .ok (.iconst (-1), 1) := by decide +kernel
theorem dX11_parts_64 : decode cX11_parts 64 = .ok (.ireturn, 1) := by decide +kernel
theorem dX11_rest_0 : decode cX11_rest 0 = .ok (.aload_n 0, 1) := by decide +kernel
theorem dX11_rest_1 : decode cX11_rest 1 = .ok (.getfield 19, 3) := by decide +kernel
theorem dX11_rest_4 : decode cX11_rest 4 = .ok (.iload_n 1, 1) := by decide +kernel
theorem dX11_rest_5 : decode cX11_rest 5 = .ok (.invokevirtual 110, 3) := by decide +kernel
theorem dX11_rest_8 : decode cX11_rest 8 = .ok (.ifCond .eq 10, 3) := by decide +kernel
theorem dX11_rest_11 : decode cX11_rest 11 = .ok (.iload_n 2, 1) := by decide +kernel
theorem dX11_rest_12 : decode cX11_rest 12 = .ok (.invokestatic 157, 3) := by decide +kernel
theorem dX11_rest_15 : decode cX11_rest 15 = .ok (.ifCond .ne 7, 3) := by decide +kernel
theorem dX11_rest_18 : decode cX11_rest 18 = .ok (.ldc2_w 160, 3) := by decide +kernel
theorem dX11_rest_21 : decode cX11_rest 21 = .ok (.lreturn, 1) := by decide +kernel
theorem dX11_rest_22 : decode cX11_rest 22 = .ok (.aload_n 0, 1) := by decide +kernel
theorem dX11_rest_23 : decode cX11_rest 23 = .ok (.iload_n 1, 1) := by decide +kernel
theorem dX11_rest_24 : decode cX11_rest 24 = .ok (.invokevirtual 162, 3) := by decide +kernel
theorem dX11_rest_27 : decode cX11_rest 27 = .ok (.istore_n 3, 1) := by decide +kernel
theorem dX11_rest_28 : decode cX11_rest 28 = .ok (.iload_n 3, 1) := by decide +kernel
theorem dX11_rest_29 : decode cX11_rest 29 = .ok (.ifCond .eq 8, 3) := by decide +kernel
theorem dX11_rest_32 : decode cX11_rest 32 = .ok (.iload_n 3, 1) := by decide +kernel
theorem dX11_rest_33 : decode cX11_rest 33 = .ok (.i2l, 1) := by decide +kernel
theorem dX11_rest_34 : decode cX11_rest 34 = .ok (.goto 22, 3) := by decide +kernel
theorem dX11_rest_37 : decode cX11_rest 37 = .ok (.aload_n 0, 1) := by decide +kernel
theorem dX11_rest_38 : decode cX11_rest 38 = .ok (.getfield 44, 3) := by decide +kernel
theorem dX11_rest_41 : decode cX11_rest 41 = .ok (.iload_n 1, 1) := by decide +kernel
theorem dX11_rest_42 : decode cX11_rest 42 = .ok (.invokevirtual 165, 3) := by decide +kernel
theorem dX11_rest_45 : decode cX11_rest 45 = .ok (.aload_n 0, 1) := by decide +kernel
theorem dX11_rest_46 : decode cX11_rest 46 = .ok (.getfield 44, 3) := by decide +kernel
theorem dX11_rest_49 : decode cX11_rest 49 = .ok (.invokevirtual 168, 3) := by decide +kernel
theorem dX11_rest_52 : decode cX11_rest 52 = .ok (.iload_n 2, 1) := by decide +kernel
theorem dX11_rest_53 : decode cX11_rest 53 = .ok (.invokestatic 172, 3) := by decide +kernel
theorem dX11_rest_56 : decode cX11_rest 56 = .ok (.lreturn, 1) := by decide +kernel
theorem dX11_through_0 : decode cX11_through 0 = .ok (.aload_n 0, 1) := by decide +kernel
theorem dX11_through_1 : decode cX11_through 1 = .ok (.getfield 19, 3) := by decide +kernel
theorem dX11_through_4 : decode cX11_through 4 = .ok (.iload_n 1, 1) := by decide +kernel
theorem dX11_through_5 : decode cX11_through 5 = .ok (.invokevirtual 110, 3) := by decide +kernel
theorem dX11_through_8 : decode cX11_through 8 = .ok (.ifCond .eq 10, 3) := by decide +kernel
theorem dX11_through_11 : decode cX11_through 11 = .ok (.iload_n 2, 1) := by decide +kernel
theorem dX11_through_12 : decode cX11_through 12 = .ok (.invokestatic 157, 3) := by decide +kernel
theorem dX11_through_15 : decode cX11_through 15 = .ok (.ifCond .ne 7, 3) := by decide +kernel
theorem dX11_through_18 : decode cX11_through 18 = .ok (.ldc2_w 178, 3) := by decide +kernel
theorem dX11_through_21 : decode cX11_through 21 = .ok (.lreturn, 1) := by decide +kernel
theorem dX11_through_22 : decode cX11_through 22 = .ok (.aload_n 0, 1) := by decide +kernel
theorem dX11_through_23 : decode cX11_through 23 = .ok (.iload_n 1, 1) := by decide +kernel
theorem dX11_through_24 : decode cX11_through 24 = .ok (.invokevirtual 162, 3) := by decide +kernel
theorem dX11_through_27 : decode cX11_through 27 = .ok (.istore_n 3, 1) := by decide +kernel
theorem dX11_through_28 : decode cX11_through 28 = .ok (.iload_n 3, 1) := by decide +kernel
theorem dX11_through_29 : decode cX11_through 29 = .ok (.ifCond .eq 11, 3) := by decide +kernel
theorem dX11_through_32 : decode cX11_through 32 = .ok (.bipush (-100), 2) := by decide +kernel
theorem dX11_through_34 : decode cX11_through 34 = .ok (.iload_n 3, 1) := by decide +kernel
theorem dX11_through_35 : decode cX11_through 35 = .ok (.iadd, 1) := by decide +kernel
theorem dX11_through_36 : decode cX11_through 36 = .ok (.i2l, 1) := by decide +kernel
theorem dX11_through_37 : decode cX11_through 37 = .ok (.goto 21, 3) := by decide +kernel
theorem dX11_through_40 : decode cX11_through 40 = .ok (.aload_n 0, 1) := by decide +kernel
theorem dX11_through_41 : decode cX11_through 41 = .ok (.getfield 44, 3) := by decide +kernel
theorem dX11_through_44 : decode cX11_through 44 = .ok (.invokevirtual 180, 3) := by decide +kernel
theorem dX11_through_47 : decode cX11_through 47 = .ok (.aload_n 0, 1) := by decide +kernel
theorem dX11_through_48 : decode cX11_through 48 = .ok (.getfield 44, 3) := by decide +kernel
theorem dX11_through_51 : decode cX11_through 51 = .ok (.invokevirtual 168, 3) := by decide +kernel
theorem dX11_through_54 : decode cX11_through 54 = .ok (.iload_n 2, 1) := by decide +kernel
theorem dX11_through_55 : decode cX11_through 55 = .ok (.invokestatic 172, 3) := by decide +kernel
theorem dX11_through_58 : decode cX11_through 58 = .ok (.lreturn, 1) := by decide +kernel
theorem dX11_even_0 : decode cX11_even 0 = .ok (.aload_n 0, 1) := by decide +kernel
theorem dX11_even_1 : decode cX11_even 1 = .ok (.getfield 19, 3) := by decide +kernel
theorem dX11_even_4 : decode cX11_even 4 = .ok (.iload_n 1, 1) := by decide +kernel
theorem dX11_even_5 : decode cX11_even 5 = .ok (.invokevirtual 110, 3) := by decide +kernel
theorem dX11_even_8 : decode cX11_even 8 = .ok (.ifCond .ne 5, 3) := by decide +kernel
theorem dX11_even_11 : decode cX11_even 11 = .ok (.iconst (-1), 1) := by decide +kernel
theorem dX11_even_12 : decode cX11_even 12 = .ok (.ireturn, 1) := by decide +kernel
theorem dX11_even_13 : decode cX11_even 13 = .ok (.aload_n 0, 1) := by decide +kernel
theorem dX11_even_14 : decode cX11_even 14 = .ok (.iload_n 1, 1) := by decide +kernel
theorem dX11_even_15 : decode cX11_even 15 = .ok (.invokevirtual 162, 3) := by decide +kernel
theorem dX11_even_18 : decode cX11_even 18 = .ok (.istore_n 2, 1) := by decide +kernel
theorem dX11_even_19 : decode cX11_even 19 = .ok (.iload_n 2, 1) := by decide +kernel
theorem dX11_even_20 : decode cX11_even 20 = .ok (.ifCond .eq 5, 3) := by decide +kernel
theorem dX11_even_23 : decode cX11_even 23 = .ok (.iload_n 2, 1) := by decide +kernel
theorem dX11_even_24 : decode cX11_even 24 = .ok (.ireturn, 1) := by decide +kernel
theorem dX11_even_25 : decode cX11_even 25 = .ok (.aload_n 0, 1) := by decide +kernel
theorem dX11_even_26 : decode cX11_even 26 = .ok (.getfield 44, 3) := by decide +kernel
theorem dX11_even_29 : decode cX11_even 29 = .ok (.invokevirtual 183, 3) := by decide +kernel
theorem dX11_even_32 : decode cX11_even 32 = .ok (.ifCond .eq 7, 3) := by decide +kernel
theorem dX11_even_35 : decode cX11_even 35 = .ok (.iconst 1, 1) := by decide +kernel
theorem dX11_even_36 : decode cX11_even 36 = .ok (.goto 4, 3) := by decide +kernel
theorem dX11_even_39 : decode cX11_even 39 = .ok (.iconst 0, 1) := by decide +kernel
theorem dX11_even_40 : decode cX11_even 40 = .ok (.ireturn, 1) := by decide +kernel
theorem dX11_worth_0 : decode cX11_worth 0 = .ok (.aload_n 0, 1) := by decide +kernel
theorem dX11_worth_1 : decode cX11_worth 1 = .ok (.getfield 19, 3) := by decide +kernel
theorem dX11_worth_4 : decode cX11_worth 4 = .ok (.iload_n 1, 1) := by decide +kernel
theorem dX11_worth_5 : decode cX11_worth 5 = .ok (.invokevirtual 110, 3) := by decide +kernel
theorem dX11_worth_8 : decode cX11_worth 8 = .ok (.ifCond .ne 7, 3) := by decide +kernel
theorem dX11_worth_11 : decode cX11_worth 11 = .ok (.ldc2_w 160, 3) := by decide +kernel
theorem dX11_worth_14 : decode cX11_worth 14 = .ok (.lreturn, 1) := by decide +kernel
theorem dX11_worth_15 : decode cX11_worth 15 = .ok (.aload_n 0, 1) := by decide +kernel
theorem dX11_worth_16 : decode cX11_worth 16 = .ok (.getfield 19, 3) := by decide +kernel
theorem dX11_worth_19 : decode cX11_worth 19 = .ok (.invokevirtual 186, 3) := by decide +kernel
theorem dX11_worth_22 : decode cX11_worth 22 = .ok (.ifCond .eq 14, 3) := by decide +kernel
theorem dX11_worth_25 : decode cX11_worth 25 = .ok (.aload_n 0, 1) := by decide +kernel
theorem dX11_worth_26 : decode cX11_worth 26 = .ok (.getfield 51, 3) := by decide +kernel
theorem dX11_worth_29 : decode cX11_worth 29 = .ok (.iload_n 1, 1) := by decide +kernel
theorem dX11_worth_30 : decode cX11_worth 30 = .ok (.invokevirtual 189, 3) := by decide +kernel
theorem dX11_worth_33 : decode cX11_worth 33 = .ok (.goto 6, 3) := by decide +kernel
theorem dX11_worth_36 : decode cX11_worth 36 = .ok (.ldc2_w 192, 3) := by decide +kernel
theorem dX11_worth_39 : decode cX11_worth 39 = .ok (.lreturn, 1) := by decide +kernel
theorem dX11_all_0 : decode cX11_all 0 = .ok (.iload_n 1, 1) := by decide +kernel
theorem dX11_all_1 : decode cX11_all 1 = .ok (.iconst 0, 1) := by decide +kernel
theorem dX11_all_2 : decode cX11_all 2 = .ok (.aload_n 0, 1) := by decide +kernel
theorem dX11_all_3 : decode cX11_all 3 = .ok (.getfield 19, 3) := by decide +kernel
theorem dX11_all_6 : decode cX11_all 6 = .ok (.invokevirtual 194, 3) := by decide +kernel
theorem dX11_all_9 : decode cX11_all 9 = .ok (.invokestatic 102, 3) := by decide +kernel
theorem dX11_all_12 : decode cX11_all 12 = .ok (.ifCond .ne 7, 3) := by decide +kernel
theorem dX11_all_15 : decode cX11_all 15 = .ok (.ldc2_w 160, 3) := by decide +kernel
theorem dX11_all_18 : decode cX11_all 18 = .ok (.lreturn, 1) := by decide +kernel
theorem dX11_all_19 : decode cX11_all 19 = .ok (.aload_n 0, 1) := by decide +kernel
theorem dX11_all_20 : decode cX11_all 20 = .ok (.getfield 19, 3) := by decide +kernel
theorem dX11_all_23 : decode cX11_all 23 = .ok (.invokevirtual 186, 3) := by decide +kernel
theorem dX11_all_26 : decode cX11_all 26 = .ok (.ifCond .eq 15, 3) := by decide +kernel
theorem dX11_all_29 : decode cX11_all 29 = .ok (.aload_n 0, 1) := by decide +kernel
theorem dX11_all_30 : decode cX11_all 30 = .ok (.getfield 51, 3) := by decide +kernel
theorem dX11_all_33 : decode cX11_all 33 = .ok (.iload_n 1, 1) := by decide +kernel
theorem dX11_all_34 : decode cX11_all 34 = .ok (.iconst 0, 1) := by decide +kernel
theorem dX11_all_35 : decode cX11_all 35 = .ok (.invokevirtual 197, 3) := by decide +kernel
theorem dX11_all_38 : decode cX11_all 38 = .ok (.goto 6, 3) := by decide +kernel
theorem dX11_all_41 : decode cX11_all 41 = .ok (.ldc2_w 192, 3) := by decide +kernel
theorem dX11_all_44 : decode cX11_all 44 = .ok (.lreturn, 1) := by decide +kernel
theorem dX11_flow_0 : decode cX11_flow 0 = .ok (.iload_n 1, 1) := by decide +kernel
theorem dX11_flow_1 : decode cX11_flow 1 = .ok (.invokestatic 157, 3) := by decide +kernel
theorem dX11_flow_4 : decode cX11_flow 4 = .ok (.ifCond .ne 7, 3) := by decide +kernel
theorem dX11_flow_7 : decode cX11_flow 7 = .ok (.ldc2_w 160, 3) := by decide +kernel
theorem dX11_flow_10 : decode cX11_flow 10 = .ok (.lreturn, 1) := by decide +kernel
theorem dX11_flow_11 : decode cX11_flow 11 = .ok (.aload_n 0, 1) := by decide +kernel
theorem dX11_flow_12 : decode cX11_flow 12 = .ok (.getfield 19, 3) := by decide +kernel
theorem dX11_flow_15 : decode cX11_flow 15 = .ok (.invokevirtual 186, 3) := by decide +kernel
theorem dX11_flow_18 : decode cX11_flow 18 = .ok (.ifCond .ne 7, 3) := by decide +kernel
theorem dX11_flow_21 : decode cX11_flow 21 = .ok (.ldc2_w 192, 3) := by decide +kernel
theorem dX11_flow_24 : decode cX11_flow 24 = .ok (.lreturn, 1) := by decide +kernel
theorem dX11_flow_25 : decode cX11_flow 25 = .ok (.aload_n 0, 1) := by decide +kernel
theorem dX11_flow_26 : decode cX11_flow 26 = .ok (.getfield 19, 3) := by decide +kernel
theorem dX11_flow_29 : decode cX11_flow 29 = .ok (.invokevirtual 194, 3) := by decide +kernel
theorem dX11_flow_32 : decode cX11_flow 32 = .ok (.istore_n 2, 1) := by decide +kernel
theorem dX11_flow_33 : decode cX11_flow 33 = .ok (.aload_n 0, 1) := by decide +kernel
theorem dX11_flow_34 : decode cX11_flow 34 = .ok (.getfield 19, 3) := by decide +kernel
theorem dX11_flow_37 : decode cX11_flow 37 = .ok (.iconst 4, 1) := by decide +kernel
theorem dX11_flow_38 : decode cX11_flow 38 = .ok (.invokevirtual 106, 3) := by decide +kernel
theorem dX11_flow_41 : decode cX11_flow 41 = .ok (.i2l, 1) := by decide +kernel
theorem dX11_flow_42 : decode cX11_flow 42 = .ok (.aload_n 0, 1) := by decide +kernel
theorem dX11_flow_43 : decode cX11_flow 43 = .ok (.getfield 19, 3) := by decide +kernel
theorem dX11_flow_46 : decode cX11_flow 46 = .ok (.bipush 6, 2) := by decide +kernel
theorem dX11_flow_48 : decode cX11_flow 48 = .ok (.invokevirtual 106, 3) := by decide +kernel
theorem dX11_flow_51 : decode cX11_flow 51 = .ok (.i2l, 1) := by decide +kernel
theorem dX11_flow_52 : decode cX11_flow 52 = .ok (.lmul, 1) := by decide +kernel
theorem dX11_flow_53 : decode cX11_flow 53 = .ok (.lstore_n 3, 1) := by decide +kernel
theorem dX11_flow_54 : decode cX11_flow 54 = .ok (.lload_n 3, 1) := by decide +kernel
theorem dX11_flow_55 : decode cX11_flow 55 = .ok (.aload_n 0, 1) := by decide +kernel
theorem dX11_flow_56 : decode cX11_flow 56 = .ok (.getfield 51, 3) := by decide +kernel
theorem dX11_flow_59 : decode cX11_flow 59 = .ok (.iload_n 2, 1) := by decide +kernel
theorem dX11_flow_60 : decode cX11_flow 60 = .ok (.iconst 1, 1) := by decide +kernel
theorem dX11_flow_61 : decode cX11_flow 61 = .ok (.isub, 1) := by decide +kernel
theorem dX11_flow_62 : decode cX11_flow 62 = .ok (.iconst 0, 1) := by decide +kernel
theorem dX11_flow_63 : decode cX11_flow 63 = .ok (.invokevirtual 197, 3) := by decide +kernel
theorem dX11_flow_66 : decode cX11_flow 66 = .ok (.lmul, 1) := by decide +kernel
theorem dX11_flow_67 : decode cX11_flow 67 = .ok (.aload_n 0, 1) := by decide +kernel
theorem dX11_flow_68 : decode cX11_flow 68 = .ok (.getfield 51, 3) := by decide +kernel
theorem dX11_flow_71 : decode cX11_flow 71 = .ok (.iload_n 2, 1) := by decide +kernel
theorem dX11_flow_72 : decode cX11_flow 72 = .ok (.iconst 0, 1) := by decide +kernel
theorem dX11_flow_73 : decode cX11_flow 73 = .ok (.invokevirtual 197, 3) := by decide +kernel
theorem dX11_flow_76 : decode cX11_flow 76 = .ok (.iload_n 1, 1) := by decide +kernel
theorem dX11_flow_77 : decode cX11_flow 77 = .ok (.invokestatic 172, 3) := by decide +kernel
theorem dX11_flow_80 : decode cX11_flow 80 = .ok (.lreturn, 1) := by decide +kernel
theorem dX11_full_0 : decode cX11_full 0 = .ok (.aload_n 0, 1) := by decide +kernel
theorem dX11_full_1 : decode cX11_full 1 = .ok (.getfield 19, 3) := by decide +kernel
theorem dX11_full_4 : decode cX11_full 4 = .ok (.iload_n 1, 1) := by decide +kernel
theorem dX11_full_5 : decode cX11_full 5 = .ok (.invokevirtual 201, 3) := by decide +kernel
theorem dX11_full_8 : decode cX11_full 8 = .ok (.ifCond .eq 10, 3) := by decide +kernel
theorem dX11_full_11 : decode cX11_full 11 = .ok (.iload_n 2, 1) := by decide +kernel
theorem dX11_full_12 : decode cX11_full 12 = .ok (.invokestatic 157, 3) := by decide +kernel
theorem dX11_full_15 : decode cX11_full 15 = .ok (.ifCond .ne 7, 3) := by decide +kernel
theorem dX11_full_18 : decode cX11_full 18 = .ok (.ldc2_w 160, 3) := by decide +kernel
theorem dX11_full_21 : decode cX11_full 21 = .ok (.lreturn, 1) := by decide +kernel
theorem dX11_full_22 : decode cX11_full 22 = .ok (.aload_n 0, 1) := by decide +kernel
theorem dX11_full_23 : decode cX11_full 23 = .ok (.iconst 1, 1) := by decide +kernel
theorem dX11_full_24 : decode cX11_full 24 = .ok (.iload_n 1, 1) := by decide +kernel
theorem dX11_full_25 : decode cX11_full 25 = .ok (.ishl, 1) := by decide +kernel
theorem dX11_full_26 : decode cX11_full 26 = .ok (.iload_n 2, 1) := by decide +kernel
theorem dX11_full_27 : decode cX11_full 27 = .ok (.invokevirtual 204, 3) := by decide +kernel
theorem dX11_full_30 : decode cX11_full 30 = .ok (.lreturn, 1) := by decide +kernel
theorem dX11_both_0 : decode cX11_both 0 = .ok (.aload_n 0, 1) := by decide +kernel
theorem dX11_both_1 : decode cX11_both 1 = .ok (.getfield 19, 3) := by decide +kernel
theorem dX11_both_4 : decode cX11_both 4 = .ok (.iload_n 1, 1) := by decide +kernel
theorem dX11_both_5 : decode cX11_both 5 = .ok (.invokevirtual 201, 3) := by decide +kernel
theorem dX11_both_8 : decode cX11_both 8 = .ok (.ifCond .eq 26, 3) := by decide +kernel
theorem dX11_both_11 : decode cX11_both 11 = .ok (.aload_n 0, 1) := by decide +kernel
theorem dX11_both_12 : decode cX11_both 12 = .ok (.getfield 19, 3) := by decide +kernel
theorem dX11_both_15 : decode cX11_both 15 = .ok (.iload_n 2, 1) := by decide +kernel
theorem dX11_both_16 : decode cX11_both 16 = .ok (.invokevirtual 201, 3) := by decide +kernel
theorem dX11_both_19 : decode cX11_both 19 = .ok (.ifCond .eq 15, 3) := by decide +kernel
theorem dX11_both_22 : decode cX11_both 22 = .ok (.iload_n 1, 1) := by decide +kernel
theorem dX11_both_23 : decode cX11_both 23 = .ok (.iload_n 2, 1) := by decide +kernel
theorem dX11_both_24 : decode cX11_both 24 = .ok (.if_icmp .eq 10, 3) := by decide +kernel
theorem dX11_both_27 : decode cX11_both 27 = .ok (.iload_n 3, 1) := by decide +kernel
theorem dX11_both_28 : decode cX11_both 28 = .ok (.invokestatic 157, 3) := by decide +kernel
theorem dX11_both_31 : decode cX11_both 31 = .ok (.ifCond .ne 7, 3) := by decide +kernel
theorem dX11_both_34 : decode cX11_both 34 = .ok (.ldc2_w 160, 3) := by decide +kernel
theorem dX11_both_37 : decode cX11_both 37 = .ok (.lreturn, 1) := by decide +kernel
theorem dX11_both_38 : decode cX11_both 38 = .ok (.aload_n 0, 1) := by decide +kernel
theorem dX11_both_39 : decode cX11_both 39 = .ok (.iconst 1, 1) := by decide +kernel
theorem dX11_both_40 : decode cX11_both 40 = .ok (.iload_n 1, 1) := by decide +kernel
theorem dX11_both_41 : decode cX11_both 41 = .ok (.ishl, 1) := by decide +kernel
theorem dX11_both_42 : decode cX11_both 42 = .ok (.iconst 1, 1) := by decide +kernel
theorem dX11_both_43 : decode cX11_both 43 = .ok (.iload_n 2, 1) := by decide +kernel
theorem dX11_both_44 : decode cX11_both 44 = .ok (.ishl, 1) := by decide +kernel
theorem dX11_both_45 : decode cX11_both 45 = .ok (.ior, 1) := by decide +kernel
theorem dX11_both_46 : decode cX11_both 46 = .ok (.iload_n 3, 1) := by decide +kernel
theorem dX11_both_47 : decode cX11_both 47 = .ok (.invokevirtual 204, 3) := by decide +kernel
theorem dX11_both_50 : decode cX11_both 50 = .ok (.lreturn, 1) := by decide +kernel
theorem dX11_rule_0 : decode cX11_rule 0 = .ok (.iload_n 1, 1) := by decide +kernel
theorem dX11_rule_1 : decode cX11_rule 1 = .ok (.iconst 1, 1) := by decide +kernel
theorem dX11_rule_2 : decode cX11_rule 2 = .ok (.bipush 10, 2) := by decide +kernel
theorem dX11_rule_4 : decode cX11_rule 4 = .ok (.invokestatic 102, 3) := by decide +kernel
theorem dX11_rule_7 : decode cX11_rule 7 = .ok (.ifCond .eq 13, 3) := by decide +kernel
theorem dX11_rule_10 : decode cX11_rule 10 = .ok (.iload_n 2, 1) := by decide +kernel
theorem dX11_rule_11 : decode cX11_rule 11 = .ok (.iconst 1, 1) := by decide +kernel
theorem dX11_rule_12 : decode cX11_rule 12 = .ok (.bipush 10, 2) := by decide +kernel
theorem dX11_rule_14 : decode cX11_rule 14 = .ok (.invokestatic 102, 3) := by decide +kernel
theorem dX11_rule_17 : decode cX11_rule 17 = .ok (.ifCond .ne 5, 3) := by decide +kernel
theorem dX11_rule_20 : decode cX11_rule 20 = .ok (.iconst (-1), 1) := by decide +kernel
theorem dX11_rule_21 : decode cX11_rule 21 = .ok (.ireturn, 1) := by decide +kernel
theorem dX11_rule_22 : decode cX11_rule 22 = .ok (.iload_n 1, 1) := by decide +kernel
theorem dX11_rule_23 : decode cX11_rule 23 = .ok (.iconst 5, 1) := by decide +kernel
theorem dX11_rule_24 : decode cX11_rule 24 = .ok (.if_icmp .lt 10, 3) := by decide +kernel
theorem dX11_rule_27 : decode cX11_rule 27 = .ok (.iload_n 2, 1) := by decide +kernel
theorem dX11_rule_28 : decode cX11_rule 28 = .ok (.iconst 5, 1) := by decide +kernel
theorem dX11_rule_29 : decode cX11_rule 29 = .ok (.if_icmp .lt 5, 3) := by decide +kernel
theorem dX11_rule_32 : decode cX11_rule 32 = .ok (.iconst 2, 1) := by decide +kernel
theorem dX11_rule_33 : decode cX11_rule 33 = .ok (.ireturn, 1) := by decide +kernel
theorem dX11_rule_34 : decode cX11_rule 34 = .ok (.iload_n 1, 1) := by decide +kernel
theorem dX11_rule_35 : decode cX11_rule 35 = .ok (.iload_n 2, 1) := by decide +kernel
theorem dX11_rule_36 : decode cX11_rule 36 = .ok (.if_icmp .ne 5, 3) := by decide +kernel
theorem dX11_rule_39 : decode cX11_rule 39 = .ok (.iconst 3, 1) := by decide +kernel
theorem dX11_rule_40 : decode cX11_rule 40 = .ok (.ireturn, 1) := by decide +kernel
theorem dX11_rule_41 : decode cX11_rule 41 = .ok (.iload_n 1, 1) := by decide +kernel
theorem dX11_rule_42 : decode cX11_rule 42 = .ok (.iload_n 2, 1) := by decide +kernel
theorem dX11_rule_43 : decode cX11_rule 43 = .ok (.if_icmp .ge 7, 3) := by decide +kernel
theorem dX11_rule_46 : decode cX11_rule 46 = .ok (.iconst 0, 1) := by decide +kernel
theorem dX11_rule_47 : decode cX11_rule 47 = .ok (.goto 4, 3) := by decide +kernel
theorem dX11_rule_50 : decode cX11_rule 50 = .ok (.iconst 1, 1) := by decide +kernel
theorem dX11_rule_51 : decode cX11_rule 51 = .ok (.ireturn, 1) := by decide +kernel
theorem dX11_shock_0 : decode cX11_shock 0 = .ok (.iload_n 1, 1) := by decide +kernel
theorem dX11_shock_1 : decode cX11_shock 1 = .ok (.iconst 0, 1) := by decide +kernel
theorem dX11_shock_2 : decode cX11_shock 2 = .ok (.bipush 10, 2) := by decide +kernel
theorem dX11_shock_4 : decode cX11_shock 4 = .ok (.invokestatic 102, 3) := by decide +kernel
theorem dX11_shock_7 : decode cX11_shock 7 = .ok (.ifCond .eq 22, 3) := by decide +kernel
theorem dX11_shock_10 : decode cX11_shock 10 = .ok (.iload_n 2, 1) := by decide +kernel
theorem dX11_shock_11 : decode cX11_shock 11 = .ok (.iconst 0, 1) := by decide +kernel
theorem dX11_shock_12 : decode cX11_shock 12 = .ok (.bipush 10, 2) := by decide +kernel
theorem dX11_shock_14 : decode cX11_shock 14 = .ok (.invokestatic 102, 3) := by decide +kernel
theorem dX11_shock_17 : decode cX11_shock 17 = .ok (.ifCond .eq 12, 3) := by decide +kernel
theorem dX11_shock_20 : decode cX11_shock 20 = .ok (.iload_n 3, 1) := by decide +kernel
theorem dX11_shock_21 : decode cX11_shock 21 = .ok (.iconst 0, 1) := by decide +kernel
theorem dX11_shock_22 : decode cX11_shock 22 = .ok (.iconst 2, 1) := by decide +kernel
theorem dX11_shock_23 : decode cX11_shock 23 = .ok (.invokestatic 102, 3) := by decide +kernel
theorem dX11_shock_26 : decode cX11_shock 26 = .ok (.ifCond .ne 6, 3) := by decide +kernel
theorem dX11_shock_29 : decode cX11_shock 29 = .ok (.bipush (-100), 2) := by decide +kernel
theorem dX11_shock_31 : decode cX11_shock 31 = .ok (.ireturn, 1) := by decide +kernel
theorem dX11_shock_32 : decode cX11_shock 32 = .ok (.iload_n 1, 1) := by decide +kernel
theorem dX11_shock_33 : decode cX11_shock 33 = .ok (.iload_n 2, 1) := by decide +kernel
theorem dX11_shock_34 : decode cX11_shock 34 = .ok (.if_icmp .ne 6, 3) := by decide +kernel
theorem dX11_shock_37 : decode cX11_shock 37 = .ok (.bipush (-104), 2) := by decide +kernel
theorem dX11_shock_39 : decode cX11_shock 39 = .ok (.ireturn, 1) := by decide +kernel
theorem dX11_shock_40 : decode cX11_shock 40 = .ok (.bipush 10, 2) := by decide +kernel
theorem dX11_shock_42 : decode cX11_shock 42 = .ok (.iload_n 1, 1) := by decide +kernel
theorem dX11_shock_43 : decode cX11_shock 43 = .ok (.isub, 1) := by decide +kernel
theorem dX11_shock_44 : decode cX11_shock 44 = .ok (.iload_n 2, 1) := by decide +kernel
theorem dX11_shock_45 : decode cX11_shock 45 = .ok (.isub, 1) := by decide +kernel
theorem dX11_shock_46 : decode cX11_shock 46 = .ok (.istore 4, 2) := by decide +kernel
theorem dX11_shock_48 : decode cX11_shock 48 = .ok (.iload_n 3, 1) := by decide +kernel
theorem dX11_shock_49 : decode cX11_shock 49 = .ok (.iconst 2, 1) := by decide +kernel
theorem dX11_shock_50 : decode cX11_shock 50 = .ok (.if_icmp .ne 14, 3) := by decide +kernel
theorem dX11_shock_53 : decode cX11_shock 53 = .ok (.iload 4, 2) := by decide +kernel
theorem dX11_shock_55 : decode cX11_shock 55 = .ok (.ifCond .ne 7, 3) := by decide +kernel
theorem dX11_shock_58 : decode cX11_shock 58 = .ok (.iconst 1, 1) := by decide +kernel
theorem dX11_shock_59 : decode cX11_shock 59 = .ok (.goto 4, 3) := by decide +kernel
theorem dX11_shock_62 : decode cX11_shock 62 = .ok (.iconst 0, 1) := by decide +kernel
theorem dX11_shock_63 : decode cX11_shock 63 = .ok (.ireturn, 1) := by decide +kernel
theorem dX11_shock_64 : decode cX11_shock 64 = .ok (.iload 4, 2) := by decide +kernel
theorem dX11_shock_66 : decode cX11_shock 66 = .ok (.i2l, 1) := by decide +kernel
theorem dX11_shock_67 : decode cX11_shock 67 = .ok (.ldc2_w 207, 3) := by decide +kernel
theorem dX11_shock_70 : decode cX11_shock 70 = .ok (.iload_n 3, 1) := by decide +kernel
theorem dX11_shock_71 : decode cX11_shock 71 = .ok (.invokestatic 172, 3) := by decide +kernel
theorem dX11_shock_74 : decode cX11_shock 74 = .ok (.l2i, 1) := by decide +kernel
theorem dX11_shock_75 : decode cX11_shock 75 = .ok (.ireturn, 1) := by decide +kernel
theorem dX11_atOnce_0 : decode cX11_atOnce 0 = .ok (.aload_n 0, 1) := by decide +kernel
theorem dX11_atOnce_1 : decode cX11_atOnce 1 = .ok (.getfield 19, 3) := by decide +kernel
theorem dX11_atOnce_4 : decode cX11_atOnce 4 = .ok (.iload_n 1, 1) := by decide +kernel
theorem dX11_atOnce_5 : decode cX11_atOnce 5 = .ok (.invokevirtual 110, 3) := by decide +kernel
theorem dX11_atOnce_8 : decode cX11_atOnce 8 = .ok (.ifCond .eq 14, 3) := by decide +kernel
theorem dX11_atOnce_11 : decode cX11_atOnce 11 = .ok (.iload_n 2, 1) := by decide +kernel
theorem dX11_atOnce_12 : decode cX11_atOnce 12 = .ok (.iconst 0, 1) := by decide +kernel
theorem dX11_atOnce_13 : decode cX11_atOnce 13 = .ok (.sipush 1000, 3) := by decide +kernel
theorem dX11_atOnce_16 : decode cX11_atOnce 16 = .ok (.invokestatic 102, 3) := by decide +kernel
theorem dX11_atOnce_19 : decode cX11_atOnce 19 = .ok (.ifCond .ne 5, 3) := by decide +kernel
theorem dX11_atOnce_22 : decode cX11_atOnce 22 = .ok (.iconst (-1), 1) := by decide +kernel
theorem dX11_atOnce_23 : decode cX11_atOnce 23 = .ok (.ireturn, 1) := by decide +kernel
theorem dX11_atOnce_24 : decode cX11_atOnce 24 = .ok (.aload_n 0, 1) := by decide +kernel
theorem dX11_atOnce_25 : decode cX11_atOnce 25 = .ok (.getfield 19, 3) := by decide +kernel
theorem dX11_atOnce_28 : decode cX11_atOnce 28 = .ok (.invokevirtual 209, 3) := by decide +kernel
theorem dX11_atOnce_31 : decode cX11_atOnce 31 = .ok (.ifCond .eq 8, 3) := by decide +kernel
theorem dX11_atOnce_34 : decode cX11_atOnce 34 = .ok (.bipush (-2), 2) := by decide +kernel
theorem dX11_atOnce_36 : decode cX11_atOnce 36 = .ok (.goto 15, 3) := by decide +kernel
theorem dX11_atOnce_39 : decode cX11_atOnce 39 = .ok (.iload_n 1, 1) := by decide +kernel
theorem dX11_atOnce_40 : decode cX11_atOnce 40 = .ok (.iload_n 2, 1) := by decide +kernel
theorem dX11_atOnce_41 : decode cX11_atOnce 41 = .ok (.aload_n 0, 1) := by decide +kernel
theorem dX11_atOnce_42 : decode cX11_atOnce 42 = .ok (.getfield 19, 3) := by decide +kernel
theorem dX11_atOnce_45 : decode cX11_atOnce 45 = .ok (.invokevirtual 194, 3) := by decide +kernel
theorem dX11_atOnce_48 : decode cX11_atOnce 48 = .ok (.invokestatic 212, 3) := by decide +kernel
theorem dX11_atOnce_51 : decode cX11_atOnce 51 = .ok (.ireturn, 1) := by decide +kernel
theorem dX11_round_0 : decode cX11_round 0 = .ok (.aload_n 0, 1) := by decide +kernel
theorem dX11_round_1 : decode cX11_round 1 = .ok (.getfield 19, 3) := by decide +kernel
theorem dX11_round_4 : decode cX11_round 4 = .ok (.iload_n 1, 1) := by decide +kernel
theorem dX11_round_5 : decode cX11_round 5 = .ok (.invokevirtual 110, 3) := by decide +kernel
theorem dX11_round_8 : decode cX11_round 8 = .ok (.ifCond .eq 12, 3) := by decide +kernel
theorem dX11_round_11 : decode cX11_round 11 = .ok (.iload_n 2, 1) := by decide +kernel
theorem dX11_round_12 : decode cX11_round 12 = .ok (.iconst 0, 1) := by decide +kernel
theorem dX11_round_13 : decode cX11_round 13 = .ok (.iconst 2, 1) := by decide +kernel
theorem dX11_round_14 : decode cX11_round 14 = .ok (.invokestatic 102, 3) := by decide +kernel
theorem dX11_round_17 : decode cX11_round 17 = .ok (.ifCond .ne 5, 3) := by decide +kernel
theorem dX11_round_20 : decode cX11_round 20 = .ok (.iconst (-1), 1) := by decide +kernel
theorem dX11_round_21 : decode cX11_round 21 = .ok (.ireturn, 1) := by decide +kernel
theorem dX11_round_22 : decode cX11_round 22 = .ok (.aload_n 0, 1) := by decide +kernel
theorem dX11_round_23 : decode cX11_round 23 = .ok (.getfield 19, 3) := by decide +kernel
theorem dX11_round_26 : decode cX11_round 26 = .ok (.invokevirtual 209, 3) := by decide +kernel
theorem dX11_round_29 : decode cX11_round 29 = .ok (.ifCond .eq 6, 3) := by decide +kernel
theorem dX11_round_32 : decode cX11_round 32 = .ok (.bipush (-2), 2) := by decide +kernel
theorem dX11_round_34 : decode cX11_round 34 = .ok (.ireturn, 1) := by decide +kernel
theorem dX11_round_35 : decode cX11_round 35 = .ok (.aload_n 0, 1) := by decide +kernel
theorem dX11_round_36 : decode cX11_round 36 = .ok (.getfield 19, 3) := by decide +kernel
theorem dX11_round_39 : decode cX11_round 39 = .ok (.invokevirtual 194, 3) := by decide +kernel
theorem dX11_round_42 : decode cX11_round 42 = .ok (.istore_n 3, 1) := by decide +kernel
theorem dX11_round_43 : decode cX11_round 43 = .ok (.iload_n 2, 1) := by decide +kernel
theorem dX11_round_44 : decode cX11_round 44 = .ok (.lookupswitch 40 #[(0, 28), (1, 34)], 28) := by decide +kernel
theorem dX11_round_72 : decode cX11_round 72 = .ok (.iload_n 1, 1) := by decide +kernel
theorem dX11_round_73 : decode cX11_round 73 = .ok (.iload_n 3, 1) := by decide +kernel
theorem dX11_round_74 : decode cX11_round 74 = .ok (.invokestatic 218, 3) := by decide +kernel
theorem dX11_round_77 : decode cX11_round 77 = .ok (.ireturn, 1) := by decide +kernel
theorem dX11_round_78 : decode cX11_round 78 = .ok (.iload_n 1, 1) := by decide +kernel
theorem dX11_round_79 : decode cX11_round 79 = .ok (.iload_n 3, 1) := by decide +kernel
theorem dX11_round_80 : decode cX11_round 80 = .ok (.invokestatic 221, 3) := by decide +kernel
theorem dX11_round_83 : decode cX11_round 83 = .ok (.ireturn, 1) := by decide +kernel
theorem dX11_round_84 : decode cX11_round 84 = .ok (.iload_n 1, 1) := by decide +kernel
theorem dX11_round_85 : decode cX11_round 85 = .ok (.iload_n 3, 1) := by decide +kernel
theorem dX11_round_86 : decode cX11_round 86 = .ok (.invokestatic 224, 3) := by decide +kernel
theorem dX11_round_89 : decode cX11_round 89 = .ok (.ireturn, 1) := by decide +kernel
theorem dX11_run_0 : decode cX11_run 0 = .ok (.aload_n 0, 1) := by decide +kernel
theorem dX11_run_1 : decode cX11_run 1 = .ok (.getfield 19, 3) := by decide +kernel
theorem dX11_run_4 : decode cX11_run 4 = .ok (.iload_n 1, 1) := by decide +kernel
theorem dX11_run_5 : decode cX11_run 5 = .ok (.invokevirtual 110, 3) := by decide +kernel
theorem dX11_run_8 : decode cX11_run 8 = .ok (.ifCond .eq 24, 3) := by decide +kernel
theorem dX11_run_11 : decode cX11_run 11 = .ok (.iload_n 3, 1) := by decide +kernel
theorem dX11_run_12 : decode cX11_run 12 = .ok (.iconst 0, 1) := by decide +kernel
theorem dX11_run_13 : decode cX11_run 13 = .ok (.sipush 200, 3) := by decide +kernel
theorem dX11_run_16 : decode cX11_run 16 = .ok (.invokestatic 102, 3) := by decide +kernel
theorem dX11_run_19 : decode cX11_run 19 = .ok (.ifCond .eq 13, 3) := by decide +kernel
theorem dX11_run_22 : decode cX11_run 22 = .ok (.iload 4, 2) := by decide +kernel
theorem dX11_run_24 : decode cX11_run 24 = .ok (.iconst 0, 1) := by decide +kernel
theorem dX11_run_25 : decode cX11_run 25 = .ok (.iconst 1, 1) := by decide +kernel
theorem dX11_run_26 : decode cX11_run 26 = .ok (.invokestatic 102, 3) := by decide +kernel
theorem dX11_run_29 : decode cX11_run 29 = .ok (.ifCond .ne 5, 3) := by decide +kernel
theorem dX11_run_32 : decode cX11_run 32 = .ok (.iconst (-1), 1) := by decide +kernel
theorem dX11_run_33 : decode cX11_run 33 = .ok (.ireturn, 1) := by decide +kernel
theorem dX11_run_34 : decode cX11_run 34 = .ok (.aload_n 0, 1) := by decide +kernel
theorem dX11_run_35 : decode cX11_run 35 = .ok (.getfield 19, 3) := by decide +kernel
theorem dX11_run_38 : decode cX11_run 38 = .ok (.invokevirtual 209, 3) := by decide +kernel
theorem dX11_run_41 : decode cX11_run 41 = .ok (.ifCond .eq 6, 3) := by decide +kernel
theorem dX11_run_44 : decode cX11_run 44 = .ok (.bipush (-2), 2) := by decide +kernel
theorem dX11_run_46 : decode cX11_run 46 = .ok (.ireturn, 1) := by decide +kernel
theorem dX11_run_47 : decode cX11_run 47 = .ok (.aload_n 0, 1) := by decide +kernel
theorem dX11_run_48 : decode cX11_run 48 = .ok (.getfield 19, 3) := by decide +kernel
theorem dX11_run_51 : decode cX11_run 51 = .ok (.invokevirtual 194, 3) := by decide +kernel
theorem dX11_run_54 : decode cX11_run 54 = .ok (.istore 5, 2) := by decide +kernel
theorem dX11_run_56 : decode cX11_run 56 = .ok (.iload 4, 2) := by decide +kernel
theorem dX11_run_58 : decode cX11_run 58 = .ok (.ifCond .ne 14, 3) := by decide +kernel
theorem dX11_run_61 : decode cX11_run 61 = .ok (.iload_n 1, 1) := by decide +kernel
theorem dX11_run_62 : decode cX11_run 62 = .ok (.iload_n 2, 1) := by decide +kernel
theorem dX11_run_63 : decode cX11_run 63 = .ok (.iload_n 3, 1) := by decide +kernel
theorem dX11_run_64 : decode cX11_run 64 = .ok (.iload 5, 2) := by decide +kernel
theorem dX11_run_66 : decode cX11_run 66 = .ok (.invokestatic 227, 3) := by decide +kernel
theorem dX11_run_69 : decode cX11_run 69 = .ok (.goto 11, 3) := by decide +kernel
theorem dX11_run_72 : decode cX11_run 72 = .ok (.iload_n 1, 1) := by decide +kernel
theorem dX11_run_73 : decode cX11_run 73 = .ok (.iload_n 2, 1) := by decide +kernel
theorem dX11_run_74 : decode cX11_run 74 = .ok (.iload_n 3, 1) := by decide +kernel
theorem dX11_run_75 : decode cX11_run 75 = .ok (.iload 5, 2) := by decide +kernel
theorem dX11_run_77 : decode cX11_run 77 = .ok (.invokestatic 231, 3) := by decide +kernel
theorem dX11_run_80 : decode cX11_run 80 = .ok (.ireturn, 1) := by decide +kernel
theorem dX11_coupled_0 : decode cX11_coupled 0 = .ok (.aload_n 0, 1) := by decide +kernel
theorem dX11_coupled_1 : decode cX11_coupled 1 = .ok (.getfield 19, 3) := by decide +kernel
theorem dX11_coupled_4 : decode cX11_coupled 4 = .ok (.iload_n 1, 1) := by decide +kernel
theorem dX11_coupled_5 : decode cX11_coupled 5 = .ok (.invokevirtual 110, 3) := by decide +kernel
theorem dX11_coupled_8 : decode cX11_coupled 8 = .ok (.ifCond .eq 36, 3) := by decide +kernel
theorem dX11_coupled_11 : decode cX11_coupled 11 = .ok (.aload_n 0, 1) := by decide +kernel
theorem dX11_coupled_12 : decode cX11_coupled 12 = .ok (.getfield 19, 3) := by decide +kernel
theorem dX11_coupled_15 : decode cX11_coupled 15 = .ok (.iload_n 2, 1) := by decide +kernel
theorem dX11_coupled_16 : decode cX11_coupled 16 = .ok (.invokevirtual 110, 3) := by decide +kernel
theorem dX11_coupled_19 : decode cX11_coupled 19 = .ok (.ifCond .eq 25, 3) := by decide +kernel
theorem dX11_coupled_22 : decode cX11_coupled 22 = .ok (.iload 4, 2) := by decide +kernel
theorem dX11_coupled_24 : decode cX11_coupled 24 = .ok (.iconst 0, 1) := by decide +kernel
theorem dX11_coupled_25 : decode cX11_coupled 25 = .ok (.sipush 200, 3) := by decide +kernel
theorem dX11_coupled_28 : decode cX11_coupled 28 = .ok (.invokestatic 102, 3) := by decide +kernel
theorem dX11_coupled_31 : decode cX11_coupled 31 = .ok (.ifCond .eq 13, 3) := by decide +kernel
theorem dX11_coupled_34 : decode cX11_coupled 34 = .ok (.iload 5, 2) := by decide +kernel
theorem dX11_coupled_36 : decode cX11_coupled 36 = .ok (.iconst 0, 1) := by decide +kernel
theorem dX11_coupled_37 : decode cX11_coupled 37 = .ok (.iconst 2, 1) := by decide +kernel
theorem dX11_coupled_38 : decode cX11_coupled 38 = .ok (.invokestatic 102, 3) := by decide +kernel
theorem dX11_coupled_41 : decode cX11_coupled 41 = .ok (.ifCond .ne 5, 3) := by decide +kernel
theorem dX11_coupled_44 : decode cX11_coupled 44 = .ok (.iconst (-1), 1) := by decide +kernel
theorem dX11_coupled_45 : decode cX11_coupled 45 = .ok (.ireturn, 1) := by decide +kernel
theorem dX11_coupled_46 : decode cX11_coupled 46 = .ok (.aload_n 0, 1) := by decide +kernel
theorem dX11_coupled_47 : decode cX11_coupled 47 = .ok (.getfield 19, 3) := by decide +kernel
theorem dX11_coupled_50 : decode cX11_coupled 50 = .ok (.invokevirtual 209, 3) := by decide +kernel
theorem dX11_coupled_53 : decode cX11_coupled 53 = .ok (.ifCond .eq 6, 3) := by decide +kernel
theorem dX11_coupled_56 : decode cX11_coupled 56 = .ok (.bipush (-2), 2) := by decide +kernel
theorem dX11_coupled_58 : decode cX11_coupled 58 = .ok (.ireturn, 1) := by decide +kernel
theorem dX11_coupled_59 : decode cX11_coupled 59 = .ok (.aload_n 0, 1) := by decide +kernel
theorem dX11_coupled_60 : decode cX11_coupled 60 = .ok (.getfield 19, 3) := by decide +kernel
theorem dX11_coupled_63 : decode cX11_coupled 63 = .ok (.invokevirtual 194, 3) := by decide +kernel
theorem dX11_coupled_66 : decode cX11_coupled 66 = .ok (.istore 6, 2) := by decide +kernel
theorem dX11_coupled_68 : decode cX11_coupled 68 = .ok (.iload 5, 2) := by decide +kernel
theorem dX11_coupled_70 : decode cX11_coupled 70 = .ok (.lookupswitch 60 #[(0, 26), (1, 49)], 26) := by decide +kernel
theorem dX11_coupled_96 : decode cX11_coupled 96 = .ok (.iload_n 1, 1) := by decide +kernel
theorem dX11_coupled_97 : decode cX11_coupled 97 = .ok (.iload_n 3, 1) := by decide +kernel
theorem dX11_coupled_98 : decode cX11_coupled 98 = .ok (.iload 4, 2) := by decide +kernel
theorem dX11_coupled_100 : decode cX11_coupled 100 = .ok (.iload 6, 2) := by decide +kernel
theorem dX11_coupled_102 : decode cX11_coupled 102 = .ok (.invokestatic 227, 3) := by decide +kernel
theorem dX11_coupled_105 : decode cX11_coupled 105 = .ok (.iload_n 2, 1) := by decide +kernel
theorem dX11_coupled_106 : decode cX11_coupled 106 = .ok (.iload_n 3, 1) := by decide +kernel
theorem dX11_coupled_107 : decode cX11_coupled 107 = .ok (.iload 4, 2) := by decide +kernel
theorem dX11_coupled_109 : decode cX11_coupled 109 = .ok (.iload 6, 2) := by decide +kernel
theorem dX11_coupled_111 : decode cX11_coupled 111 = .ok (.invokestatic 227, 3) := by decide +kernel
theorem dX11_coupled_114 : decode cX11_coupled 114 = .ok (.ixor, 1) := by decide +kernel
theorem dX11_coupled_115 : decode cX11_coupled 115 = .ok (.invokestatic 146, 3) := by decide +kernel
theorem dX11_coupled_118 : decode cX11_coupled 118 = .ok (.ireturn, 1) := by decide +kernel
theorem dX11_coupled_119 : decode cX11_coupled 119 = .ok (.iload_n 1, 1) := by decide +kernel
theorem dX11_coupled_120 : decode cX11_coupled 120 = .ok (.iload_n 2, 1) := by decide +kernel
theorem dX11_coupled_121 : decode cX11_coupled 121 = .ok (.iload_n 3, 1) := by decide +kernel
theorem dX11_coupled_122 : decode cX11_coupled 122 = .ok (.iload 4, 2) := by decide +kernel
theorem dX11_coupled_124 : decode cX11_coupled 124 = .ok (.iload 6, 2) := by decide +kernel
theorem dX11_coupled_126 : decode cX11_coupled 126 = .ok (.invokestatic 234, 3) := by decide +kernel
theorem dX11_coupled_129 : decode cX11_coupled 129 = .ok (.ireturn, 1) := by decide +kernel
theorem dX11_coupled_130 : decode cX11_coupled 130 = .ok (.iload_n 1, 1) := by decide +kernel
theorem dX11_coupled_131 : decode cX11_coupled 131 = .ok (.iload_n 2, 1) := by decide +kernel
theorem dX11_coupled_132 : decode cX11_coupled 132 = .ok (.iload_n 3, 1) := by decide +kernel
theorem dX11_coupled_133 : decode cX11_coupled 133 = .ok (.iload 4, 2) := by decide +kernel
theorem dX11_coupled_135 : decode cX11_coupled 135 = .ok (.iload 6, 2) := by decide +kernel
theorem dX11_coupled_137 : decode cX11_coupled 137 = .ok (.invokestatic 238, 3) := by decide +kernel
theorem dX11_coupled_140 : decode cX11_coupled 140 = .ok (.ireturn, 1) := by decide +kernel
theorem dX11_cells_0 : decode cX11_cells 0 = .ok (.iload_n 1, 1) := by decide +kernel
theorem dX11_cells_1 : decode cX11_cells 1 = .ok (.invokestatic 241, 3) := by decide +kernel
theorem dX11_cells_4 : decode cX11_cells 4 = .ok (.ifCond .eq 10, 3) := by decide +kernel
theorem dX11_cells_7 : decode cX11_cells 7 = .ok (.iload_n 2, 1) := by decide +kernel
theorem dX11_cells_8 : decode cX11_cells 8 = .ok (.invokestatic 241, 3) := by decide +kernel
theorem dX11_cells_11 : decode cX11_cells 11 = .ok (.ifCond .ne 5, 3) := by decide +kernel
theorem dX11_cells_14 : decode cX11_cells 14 = .ok (.iconst (-1), 1) := by decide +kernel
theorem dX11_cells_15 : decode cX11_cells 15 = .ok (.ireturn, 1) := by decide +kernel
theorem dX11_cells_16 : decode cX11_cells 16 = .ok (.iload_n 1, 1) := by decide +kernel
theorem dX11_cells_17 : decode cX11_cells 17 = .ok (.iload_n 2, 1) := by decide +kernel
theorem dX11_cells_18 : decode cX11_cells 18 = .ok (.invokestatic 244, 3) := by decide +kernel
theorem dX11_cells_21 : decode cX11_cells 21 = .ok (.ireturn, 1) := by decide +kernel
theorem dX11_orders_0 : decode cX11_orders 0 = .ok (.iload_n 1, 1) := by decide +kernel
theorem dX11_orders_1 : decode cX11_orders 1 = .ok (.invokestatic 241, 3) := by decide +kernel
theorem dX11_orders_4 : decode cX11_orders 4 = .ok (.ifCond .eq 10, 3) := by decide +kernel
theorem dX11_orders_7 : decode cX11_orders 7 = .ok (.iload_n 2, 1) := by decide +kernel
theorem dX11_orders_8 : decode cX11_orders 8 = .ok (.invokestatic 241, 3) := by decide +kernel
theorem dX11_orders_11 : decode cX11_orders 11 = .ok (.ifCond .ne 7, 3) := by decide +kernel
theorem dX11_orders_14 : decode cX11_orders 14 = .ok (.ldc2_w 160, 3) := by decide +kernel
theorem dX11_orders_17 : decode cX11_orders 17 = .ok (.lreturn, 1) := by decide +kernel
theorem dX11_orders_18 : decode cX11_orders 18 = .ok (.aload_n 0, 1) := by decide +kernel
theorem dX11_orders_19 : decode cX11_orders 19 = .ok (.getfield 58, 3) := by decide +kernel
theorem dX11_orders_22 : decode cX11_orders 22 = .ok (.iload_n 1, 1) := by decide +kernel
theorem dX11_orders_23 : decode cX11_orders 23 = .ok (.iload_n 2, 1) := by decide +kernel
theorem dX11_orders_24 : decode cX11_orders 24 = .ok (.invokevirtual 247, 3) := by decide +kernel
theorem dX11_orders_27 : decode cX11_orders 27 = .ok (.lreturn, 1) := by decide +kernel
theorem dX11_ways_0 : decode cX11_ways 0 = .ok (.iload_n 1, 1) := by decide +kernel
theorem dX11_ways_1 : decode cX11_ways 1 = .ok (.invokestatic 250, 3) := by decide +kernel
theorem dX11_ways_4 : decode cX11_ways 4 = .ok (.ifCond .eq 20, 3) := by decide +kernel
theorem dX11_ways_7 : decode cX11_ways 7 = .ok (.iload_n 2, 1) := by decide +kernel
theorem dX11_ways_8 : decode cX11_ways 8 = .ok (.invokestatic 250, 3) := by decide +kernel
theorem dX11_ways_11 : decode cX11_ways 11 = .ok (.ifCond .eq 13, 3) := by decide +kernel
theorem dX11_ways_14 : decode cX11_ways 14 = .ok (.iload_n 3, 1) := by decide +kernel
theorem dX11_ways_15 : decode cX11_ways 15 = .ok (.iconst 0, 1) := by decide +kernel
theorem dX11_ways_16 : decode cX11_ways 16 = .ok (.bipush 8, 2) := by decide +kernel
theorem dX11_ways_18 : decode cX11_ways 18 = .ok (.invokestatic 102, 3) := by decide +kernel
theorem dX11_ways_21 : decode cX11_ways 21 = .ok (.ifCond .ne 7, 3) := by decide +kernel
theorem dX11_ways_24 : decode cX11_ways 24 = .ok (.ldc2_w 160, 3) := by decide +kernel
theorem dX11_ways_27 : decode cX11_ways 27 = .ok (.lreturn, 1) := by decide +kernel
theorem dX11_ways_28 : decode cX11_ways 28 = .ok (.iload_n 1, 1) := by decide +kernel
theorem dX11_ways_29 : decode cX11_ways 29 = .ok (.invokestatic 146, 3) := by decide +kernel
theorem dX11_ways_32 : decode cX11_ways 32 = .ok (.iload_n 2, 1) := by decide +kernel
theorem dX11_ways_33 : decode cX11_ways 33 = .ok (.invokestatic 146, 3) := by decide +kernel
theorem dX11_ways_36 : decode cX11_ways 36 = .ok (.if_icmp .eq 7, 3) := by decide +kernel
theorem dX11_ways_39 : decode cX11_ways 39 = .ok (.ldc2_w 160, 3) := by decide +kernel
theorem dX11_ways_42 : decode cX11_ways 42 = .ok (.lreturn, 1) := by decide +kernel
theorem dX11_ways_43 : decode cX11_ways 43 = .ok (.aload_n 0, 1) := by decide +kernel
theorem dX11_ways_44 : decode cX11_ways 44 = .ok (.getfield 58, 3) := by decide +kernel
theorem dX11_ways_47 : decode cX11_ways 47 = .ok (.iload_n 1, 1) := by decide +kernel
theorem dX11_ways_48 : decode cX11_ways 48 = .ok (.iload_n 2, 1) := by decide +kernel
theorem dX11_ways_49 : decode cX11_ways 49 = .ok (.iload_n 3, 1) := by decide +kernel
theorem dX11_ways_50 : decode cX11_ways 50 = .ok (.invokevirtual 253, 3) := by decide +kernel
theorem dX11_ways_53 : decode cX11_ways 53 = .ok (.lreturn, 1) := by decide +kernel
theorem dX11_view_0 : decode cX11_view 0 = .ok (.aload_n 0, 1) := by decide +kernel
theorem dX11_view_1 : decode cX11_view 1 = .ok (.getfield 19, 3) := by decide +kernel
theorem dX11_view_4 : decode cX11_view 4 = .ok (.iload_n 1, 1) := by decide +kernel
theorem dX11_view_5 : decode cX11_view 5 = .ok (.invokevirtual 110, 3) := by decide +kernel
theorem dX11_view_8 : decode cX11_view 8 = .ok (.ifCond .eq 25, 3) := by decide +kernel
theorem dX11_view_11 : decode cX11_view 11 = .ok (.aload_n 0, 1) := by decide +kernel
theorem dX11_view_12 : decode cX11_view 12 = .ok (.getfield 19, 3) := by decide +kernel
theorem dX11_view_15 : decode cX11_view 15 = .ok (.iload_n 2, 1) := by decide +kernel
theorem dX11_view_16 : decode cX11_view 16 = .ok (.invokevirtual 110, 3) := by decide +kernel
theorem dX11_view_19 : decode cX11_view 19 = .ok (.ifCond .eq 14, 3) := by decide +kernel
theorem dX11_view_22 : decode cX11_view 22 = .ok (.iload_n 1, 1) := by decide +kernel
theorem dX11_view_23 : decode cX11_view 23 = .ok (.invokestatic 146, 3) := by decide +kernel
theorem dX11_view_26 : decode cX11_view 26 = .ok (.iload_n 2, 1) := by decide +kernel
theorem dX11_view_27 : decode cX11_view 27 = .ok (.invokestatic 146, 3) := by decide +kernel
theorem dX11_view_30 : decode cX11_view 30 = .ok (.if_icmp .le 5, 3) := by decide +kernel
theorem dX11_view_33 : decode cX11_view 33 = .ok (.iconst (-1), 1) := by decide +kernel
theorem dX11_view_34 : decode cX11_view 34 = .ok (.ireturn, 1) := by decide +kernel
theorem dX11_view_35 : decode cX11_view 35 = .ok (.aload_n 0, 1) := by decide +kernel
theorem dX11_view_36 : decode cX11_view 36 = .ok (.getfield 19, 3) := by decide +kernel
theorem dX11_view_39 : decode cX11_view 39 = .ok (.invokevirtual 194, 3) := by decide +kernel
theorem dX11_view_42 : decode cX11_view 42 = .ok (.istore_n 3, 1) := by decide +kernel
theorem dX11_view_43 : decode cX11_view 43 = .ok (.iload_n 1, 1) := by decide +kernel
theorem dX11_view_44 : decode cX11_view 44 = .ok (.iload_n 2, 1) := by decide +kernel
theorem dX11_view_45 : decode cX11_view 45 = .ok (.iload_n 3, 1) := by decide +kernel
theorem dX11_view_46 : decode cX11_view 46 = .ok (.invokestatic 257, 3) := by decide +kernel
theorem dX11_view_49 : decode cX11_view 49 = .ok (.istore 4, 2) := by decide +kernel
theorem dX11_view_51 : decode cX11_view 51 = .ok (.iload 4, 2) := by decide +kernel
theorem dX11_view_53 : decode cX11_view 53 = .ok (.iload_n 2, 1) := by decide +kernel
theorem dX11_view_54 : decode cX11_view 54 = .ok (.iload 4, 2) := by decide +kernel
theorem dX11_view_56 : decode cX11_view 56 = .ok (.iconst (-1), 1) := by decide +kernel
theorem dX11_view_57 : decode cX11_view 57 = .ok (.ixor, 1) := by decide +kernel
theorem dX11_view_58 : decode cX11_view 58 = .ok (.iand, 1) := by decide +kernel
theorem dX11_view_59 : decode cX11_view 59 = .ok (.iload_n 3, 1) := by decide +kernel
theorem dX11_view_60 : decode cX11_view 60 = .ok (.invokestatic 262, 3) := by decide +kernel
theorem dX11_view_63 : decode cX11_view 63 = .ok (.ireturn, 1) := by decide +kernel
theorem dX11_seen_0 : decode cX11_seen 0 = .ok (.aload_n 0, 1) := by decide +kernel
theorem dX11_seen_1 : decode cX11_seen 1 = .ok (.getfield 19, 3) := by decide +kernel
theorem dX11_seen_4 : decode cX11_seen 4 = .ok (.invokevirtual 194, 3) := by decide +kernel
theorem dX11_seen_7 : decode cX11_seen 7 = .ok (.istore_n 2, 1) := by decide +kernel
theorem dX11_seen_8 : decode cX11_seen 8 = .ok (.iload_n 1, 1) := by decide +kernel
theorem dX11_seen_9 : decode cX11_seen 9 = .ok (.iload_n 2, 1) := by decide +kernel
theorem dX11_seen_10 : decode cX11_seen 10 = .ok (.invokestatic 265, 3) := by decide +kernel
theorem dX11_seen_13 : decode cX11_seen 13 = .ok (.ifCond .ne 5, 3) := by decide +kernel
theorem dX11_seen_16 : decode cX11_seen 16 = .ok (.iconst (-1), 1) := by decide +kernel
theorem dX11_seen_17 : decode cX11_seen 17 = .ok (.ireturn, 1) := by decide +kernel
theorem dX11_seen_18 : decode cX11_seen 18 = .ok (.iload_n 1, 1) := by decide +kernel
theorem dX11_seen_19 : decode cX11_seen 19 = .ok (.iconst 1, 1) := by decide +kernel
theorem dX11_seen_20 : decode cX11_seen 20 = .ok (.iload_n 2, 1) := by decide +kernel
theorem dX11_seen_21 : decode cX11_seen 21 = .ok (.invokestatic 269, 3) := by decide +kernel
theorem dX11_seen_24 : decode cX11_seen 24 = .ok (.iload_n 1, 1) := by decide +kernel
theorem dX11_seen_25 : decode cX11_seen 25 = .ok (.iconst 2, 1) := by decide +kernel
theorem dX11_seen_26 : decode cX11_seen 26 = .ok (.iload_n 2, 1) := by decide +kernel
theorem dX11_seen_27 : decode cX11_seen 27 = .ok (.invokestatic 269, 3) := by decide +kernel
theorem dX11_seen_30 : decode cX11_seen 30 = .ok (.iload_n 2, 1) := by decide +kernel
theorem dX11_seen_31 : decode cX11_seen 31 = .ok (.invokestatic 272, 3) := by decide +kernel
theorem dX11_seen_34 : decode cX11_seen 34 = .ok (.ireturn, 1) := by decide +kernel
theorem dX11_word_0 : decode cX11_word 0 = .ok (.aload_n 0, 1) := by decide +kernel
theorem dX11_word_1 : decode cX11_word 1 = .ok (.getfield 19, 3) := by decide +kernel
theorem dX11_word_4 : decode cX11_word 4 = .ok (.invokevirtual 194, 3) := by decide +kernel
theorem dX11_word_7 : decode cX11_word 7 = .ok (.istore_n 3, 1) := by decide +kernel
theorem dX11_word_8 : decode cX11_word 8 = .ok (.iload_n 1, 1) := by decide +kernel
theorem dX11_word_9 : decode cX11_word 9 = .ok (.iload_n 3, 1) := by decide +kernel
theorem dX11_word_10 : decode cX11_word 10 = .ok (.invokestatic 265, 3) := by decide +kernel
theorem dX11_word_13 : decode cX11_word 13 = .ok (.ifCond .ne 5, 3) := by decide +kernel
theorem dX11_word_16 : decode cX11_word 16 = .ok (.iconst (-1), 1) := by decide +kernel
theorem dX11_word_17 : decode cX11_word 17 = .ok (.ireturn, 1) := by decide +kernel
theorem dX11_word_18 : decode cX11_word 18 = .ok (.iload_n 1, 1) := by decide +kernel
theorem dX11_word_19 : decode cX11_word 19 = .ok (.iconst 1, 1) := by decide +kernel
theorem dX11_word_20 : decode cX11_word 20 = .ok (.iload_n 3, 1) := by decide +kernel
theorem dX11_word_21 : decode cX11_word 21 = .ok (.invokestatic 269, 3) := by decide +kernel
theorem dX11_word_24 : decode cX11_word 24 = .ok (.istore 4, 2) := by decide +kernel
theorem dX11_word_26 : decode cX11_word 26 = .ok (.iload_n 1, 1) := by decide +kernel
theorem dX11_word_27 : decode cX11_word 27 = .ok (.iconst 2, 1) := by decide +kernel
theorem dX11_word_28 : decode cX11_word 28 = .ok (.iload_n 3, 1) := by decide +kernel
theorem dX11_word_29 : decode cX11_word 29 = .ok (.invokestatic 269, 3) := by decide +kernel
theorem dX11_word_32 : decode cX11_word 32 = .ok (.istore 5, 2) := by decide +kernel
theorem dX11_word_34 : decode cX11_word 34 = .ok (.iload_n 2, 1) := by decide +kernel
theorem dX11_word_35 : decode cX11_word 35 = .ok (.tableswitch 59 0 3 #[29, 38, 47, 53], 29) := by decide +kernel
theorem dX11_word_64 : decode cX11_word 64 = .ok (.iload 4, 2) := by decide +kernel
theorem dX11_word_66 : decode cX11_word 66 = .ok (.iload 5, 2) := by decide +kernel
theorem dX11_word_68 : decode cX11_word 68 = .ok (.iload_n 3, 1) := by decide +kernel
theorem dX11_word_69 : decode cX11_word 69 = .ok (.invokestatic 275, 3) := by decide +kernel
theorem dX11_word_72 : decode cX11_word 72 = .ok (.ireturn, 1) := by decide +kernel
theorem dX11_word_73 : decode cX11_word 73 = .ok (.iload 4, 2) := by decide +kernel
theorem dX11_word_75 : decode cX11_word 75 = .ok (.iload 5, 2) := by decide +kernel
theorem dX11_word_77 : decode cX11_word 77 = .ok (.iload_n 3, 1) := by decide +kernel
theorem dX11_word_78 : decode cX11_word 78 = .ok (.invokestatic 278, 3) := by decide +kernel
theorem dX11_word_81 : decode cX11_word 81 = .ok (.ireturn, 1) := by decide +kernel
theorem dX11_word_82 : decode cX11_word 82 = .ok (.iload 4, 2) := by decide +kernel
theorem dX11_word_84 : decode cX11_word 84 = .ok (.invokestatic 146, 3) := by decide +kernel
theorem dX11_word_87 : decode cX11_word 87 = .ok (.ireturn, 1) := by decide +kernel
theorem dX11_word_88 : decode cX11_word 88 = .ok (.iload 5, 2) := by decide +kernel
theorem dX11_word_90 : decode cX11_word 90 = .ok (.invokestatic 146, 3) := by decide +kernel
theorem dX11_word_93 : decode cX11_word 93 = .ok (.ireturn, 1) := by decide +kernel
theorem dX11_word_94 : decode cX11_word 94 = .ok (.iload_n 2, 1) := by decide +kernel
theorem dX11_word_95 : decode cX11_word 95 = .ok (.bipush 10, 2) := by decide +kernel
theorem dX11_word_97 : decode cX11_word 97 = .ok (.bipush 9, 2) := by decide +kernel
theorem dX11_word_99 : decode cX11_word 99 = .ok (.iload_n 3, 1) := by decide +kernel
theorem dX11_word_100 : decode cX11_word 100 = .ok (.iadd, 1) := by decide +kernel
theorem dX11_word_101 : decode cX11_word 101 = .ok (.invokestatic 102, 3) := by decide +kernel
theorem dX11_word_104 : decode cX11_word 104 = .ok (.ifCond .eq 17, 3) := by decide +kernel
theorem dX11_word_107 : decode cX11_word 107 = .ok (.iload 4, 2) := by decide +kernel
theorem dX11_word_109 : decode cX11_word 109 = .ok (.iload 5, 2) := by decide +kernel
theorem dX11_word_111 : decode cX11_word 111 = .ok (.iload_n 2, 1) := by decide +kernel
theorem dX11_word_112 : decode cX11_word 112 = .ok (.bipush 10, 2) := by decide +kernel
theorem dX11_word_114 : decode cX11_word 114 = .ok (.isub, 1) := by decide +kernel
theorem dX11_word_115 : decode cX11_word 115 = .ok (.invokestatic 281, 3) := by decide +kernel
theorem dX11_word_118 : decode cX11_word 118 = .ok (.goto 4, 3) := by decide +kernel
theorem dX11_word_121 : decode cX11_word 121 = .ok (.iconst (-1), 1) := by decide +kernel
theorem dX11_word_122 : decode cX11_word 122 = .ok (.ireturn, 1) := by decide +kernel
theorem dX11_sheet_0 : decode cX11_sheet 0 = .ok (.iload_n 1, 1) := by decide +kernel
theorem dX11_sheet_1 : decode cX11_sheet 1 = .ok (.invokestatic 284, 3) := by decide +kernel
theorem dX11_sheet_4 : decode cX11_sheet 4 = .ok (.ifCond .eq 16, 3) := by decide +kernel
theorem dX11_sheet_7 : decode cX11_sheet 7 = .ok (.iload_n 2, 1) := by decide +kernel
theorem dX11_sheet_8 : decode cX11_sheet 8 = .ok (.invokestatic 287, 3) := by decide +kernel
theorem dX11_sheet_11 : decode cX11_sheet 11 = .ok (.ifCond .eq 9, 3) := by decide +kernel
theorem dX11_sheet_14 : decode cX11_sheet 14 = .ok (.iload_n 3, 1) := by decide +kernel
theorem dX11_sheet_15 : decode cX11_sheet 15 = .ok (.bipush 64, 2) := by decide +kernel
theorem dX11_sheet_17 : decode cX11_sheet 17 = .ok (.if_icmp .le 5, 3) := by decide +kernel
theorem dX11_sheet_20 : decode cX11_sheet 20 = .ok (.iconst (-1), 1) := by decide +kernel
theorem dX11_sheet_21 : decode cX11_sheet 21 = .ok (.ireturn, 1) := by decide +kernel
theorem dX11_sheet_22 : decode cX11_sheet 22 = .ok (.iload_n 3, 1) := by decide +kernel
theorem dX11_sheet_23 : decode cX11_sheet 23 = .ok (.ifCond .ge 6, 3) := by decide +kernel
theorem dX11_sheet_26 : decode cX11_sheet 26 = .ok (.bipush (-14), 2) := by decide +kernel
theorem dX11_sheet_28 : decode cX11_sheet 28 = .ok (.ireturn, 1) := by decide +kernel
theorem dX11_sheet_29 : decode cX11_sheet 29 = .ok (.aload_n 0, 1) := by decide +kernel
theorem dX11_sheet_30 : decode cX11_sheet 30 = .ok (.getfield 65, 3) := by decide +kernel
theorem dX11_sheet_33 : decode cX11_sheet 33 = .ok (.iload_n 1, 1) := by decide +kernel
theorem dX11_sheet_34 : decode cX11_sheet 34 = .ok (.iload_n 2, 1) := by decide +kernel
theorem dX11_sheet_35 : decode cX11_sheet 35 = .ok (.iload_n 3, 1) := by decide +kernel
theorem dX11_sheet_36 : decode cX11_sheet 36 = .ok (.invokevirtual 290, 3) := by decide +kernel
theorem dX11_sheet_39 : decode cX11_sheet 39 = .ok (.iconst 1, 1) := by decide +kernel
theorem dX11_sheet_40 : decode cX11_sheet 40 = .ok (.ireturn, 1) := by decide +kernel
theorem dX11_lay_0 : decode cX11_lay 0 = .ok (.iload_n 1, 1) := by decide +kernel
theorem dX11_lay_1 : decode cX11_lay 1 = .ok (.invokestatic 284, 3) := by decide +kernel
theorem dX11_lay_4 : decode cX11_lay 4 = .ok (.ifCond .ne 5, 3) := by decide +kernel
theorem dX11_lay_7 : decode cX11_lay 7 = .ok (.iconst (-1), 1) := by decide +kernel
theorem dX11_lay_8 : decode cX11_lay 8 = .ok (.ireturn, 1) := by decide +kernel
theorem dX11_lay_9 : decode cX11_lay 9 = .ok (.aload_n 0, 1) := by decide +kernel
theorem dX11_lay_10 : decode cX11_lay 10 = .ok (.getfield 65, 3) := by decide +kernel
theorem dX11_lay_13 : decode cX11_lay 13 = .ok (.iload_n 1, 1) := by decide +kernel
theorem dX11_lay_14 : decode cX11_lay 14 = .ok (.invokevirtual 294, 3) := by decide +kernel
theorem dX11_lay_17 : decode cX11_lay 17 = .ok (.ifCond .eq 6, 3) := by decide +kernel
theorem dX11_lay_20 : decode cX11_lay 20 = .ok (.bipush (-11), 2) := by decide +kernel
theorem dX11_lay_22 : decode cX11_lay 22 = .ok (.ireturn, 1) := by decide +kernel
theorem dX11_lay_23 : decode cX11_lay 23 = .ok (.aload_n 0, 1) := by decide +kernel
theorem dX11_lay_24 : decode cX11_lay 24 = .ok (.getfield 65, 3) := by decide +kernel
theorem dX11_lay_27 : decode cX11_lay 27 = .ok (.iload_n 1, 1) := by decide +kernel
theorem dX11_lay_28 : decode cX11_lay 28 = .ok (.iload_n 2, 1) := by decide +kernel
theorem dX11_lay_29 : decode cX11_lay 29 = .ok (.invokevirtual 297, 3) := by decide +kernel
theorem dX11_lay_32 : decode cX11_lay 32 = .ok (.ifCond .ne 6, 3) := by decide +kernel
theorem dX11_lay_35 : decode cX11_lay 35 = .ok (.bipush (-12), 2) := by decide +kernel
theorem dX11_lay_37 : decode cX11_lay 37 = .ok (.ireturn, 1) := by decide +kernel
theorem dX11_lay_38 : decode cX11_lay 38 = .ok (.aload_n 0, 1) := by decide +kernel
theorem dX11_lay_39 : decode cX11_lay 39 = .ok (.getfield 65, 3) := by decide +kernel
theorem dX11_lay_42 : decode cX11_lay 42 = .ok (.iload_n 1, 1) := by decide +kernel
theorem dX11_lay_43 : decode cX11_lay 43 = .ok (.iload_n 2, 1) := by decide +kernel
theorem dX11_lay_44 : decode cX11_lay 44 = .ok (.iload_n 3, 1) := by decide +kernel
theorem dX11_lay_45 : decode cX11_lay 45 = .ok (.invokevirtual 300, 3) := by decide +kernel
theorem dX11_lay_48 : decode cX11_lay 48 = .ok (.iconst 1, 1) := by decide +kernel
theorem dX11_lay_49 : decode cX11_lay 49 = .ok (.ireturn, 1) := by decide +kernel
theorem dX11_judge_0 : decode cX11_judge 0 = .ok (.aload_n 0, 1) := by decide +kernel
theorem dX11_judge_1 : decode cX11_judge 1 = .ok (.getfield 19, 3) := by decide +kernel
theorem dX11_judge_4 : decode cX11_judge 4 = .ok (.iload_n 1, 1) := by decide +kernel
theorem dX11_judge_5 : decode cX11_judge 5 = .ok (.invokevirtual 110, 3) := by decide +kernel
theorem dX11_judge_8 : decode cX11_judge 8 = .ok (.ifCond .eq 17, 3) := by decide +kernel
theorem dX11_judge_11 : decode cX11_judge 11 = .ok (.iload_n 2, 1) := by decide +kernel
theorem dX11_judge_12 : decode cX11_judge 12 = .ok (.invokestatic 284, 3) := by decide +kernel
theorem dX11_judge_15 : decode cX11_judge 15 = .ok (.ifCond .eq 10, 3) := by decide +kernel
theorem dX11_judge_18 : decode cX11_judge 18 = .ok (.iload_n 3, 1) := by decide +kernel
theorem dX11_judge_19 : decode cX11_judge 19 = .ok (.invokestatic 287, 3) := by decide +kernel
theorem dX11_judge_22 : decode cX11_judge 22 = .ok (.ifCond .ne 5, 3) := by decide +kernel
theorem dX11_judge_25 : decode cX11_judge 25 = .ok (.iconst (-1), 1) := by decide +kernel
theorem dX11_judge_26 : decode cX11_judge 26 = .ok (.ireturn, 1) := by decide +kernel
theorem dX11_judge_27 : decode cX11_judge 27 = .ok (.aload_n 0, 1) := by decide +kernel
theorem dX11_judge_28 : decode cX11_judge 28 = .ok (.getfield 37, 3) := by decide +kernel
theorem dX11_judge_31 : decode cX11_judge 31 = .ok (.invokevirtual 130, 3) := by decide +kernel
theorem dX11_judge_34 : decode cX11_judge 34 = .ok (.iload_n 1, 1) := by decide +kernel
theorem dX11_judge_35 : decode cX11_judge 35 = .ok (.invokevirtual 140, 3) := by decide +kernel
theorem dX11_judge_38 : decode cX11_judge 38 = .ok (.ifCond .ne 6, 3) := by decide +kernel
theorem dX11_judge_41 : decode cX11_judge 41 = .ok (.bipush (-4), 2) := by decide +kernel
theorem dX11_judge_43 : decode cX11_judge 43 = .ok (.ireturn, 1) := by decide +kernel
theorem dX11_judge_44 : decode cX11_judge 44 = .ok (.aload_n 0, 1) := by decide +kernel
theorem dX11_judge_45 : decode cX11_judge 45 = .ok (.getfield 65, 3) := by decide +kernel
theorem dX11_judge_48 : decode cX11_judge 48 = .ok (.iload_n 2, 1) := by decide +kernel
theorem dX11_judge_49 : decode cX11_judge 49 = .ok (.invokevirtual 294, 3) := by decide +kernel
theorem dX11_judge_52 : decode cX11_judge 52 = .ok (.ifCond .eq 6, 3) := by decide +kernel
theorem dX11_judge_55 : decode cX11_judge 55 = .ok (.bipush (-11), 2) := by decide +kernel
theorem dX11_judge_57 : decode cX11_judge 57 = .ok (.ireturn, 1) := by decide +kernel
theorem dX11_judge_58 : decode cX11_judge 58 = .ok (.aload_n 0, 1) := by decide +kernel
theorem dX11_judge_59 : decode cX11_judge 59 = .ok (.getfield 65, 3) := by decide +kernel
theorem dX11_judge_62 : decode cX11_judge 62 = .ok (.iload_n 2, 1) := by decide +kernel
theorem dX11_judge_63 : decode cX11_judge 63 = .ok (.iload_n 3, 1) := by decide +kernel
theorem dX11_judge_64 : decode cX11_judge 64 = .ok (.invokevirtual 303, 3) := by decide +kernel
theorem dX11_judge_67 : decode cX11_judge 67 = .ok (.ifCond .ne 6, 3) := by decide +kernel
theorem dX11_judge_70 : decode cX11_judge 70 = .ok (.bipush (-13), 2) := by decide +kernel
theorem dX11_judge_72 : decode cX11_judge 72 = .ok (.ireturn, 1) := by decide +kernel
theorem dX11_judge_73 : decode cX11_judge 73 = .ok (.aload_n 0, 1) := by decide +kernel
theorem dX11_judge_74 : decode cX11_judge 74 = .ok (.aload_n 0, 1) := by decide +kernel
theorem dX11_judge_75 : decode cX11_judge 75 = .ok (.getfield 37, 3) := by decide +kernel
theorem dX11_judge_78 : decode cX11_judge 78 = .ok (.iload_n 1, 1) := by decide +kernel
theorem dX11_judge_79 : decode cX11_judge 79 = .ok (.invokevirtual 137, 3) := by decide +kernel
theorem dX11_judge_82 : decode cX11_judge 82 = .ok (.iload_n 2, 1) := by decide +kernel
theorem dX11_judge_83 : decode cX11_judge 83 = .ok (.iload 4, 2) := by decide +kernel
theorem dX11_judge_85 : decode cX11_judge 85 = .ok (.invokevirtual 306, 3) := by decide +kernel
theorem dX11_judge_88 : decode cX11_judge 88 = .ok (.ireturn, 1) := by decide +kernel
theorem dX11_count_0 : decode cX11_count 0 = .ok (.iload_n 1, 1) := by decide +kernel
theorem dX11_count_1 : decode cX11_count 1 = .ok (.tableswitch 68 0 2 #[27, 35, 43], 27) := by decide +kernel
theorem dX11_count_28 : decode cX11_count 28 = .ok (.aload_n 0, 1) := by decide +kernel
theorem dX11_count_29 : decode cX11_count 29 = .ok (.getfield 19, 3) := by decide +kernel
theorem dX11_count_32 : decode cX11_count 32 = .ok (.invokevirtual 310, 3) := by decide +kernel
theorem dX11_count_35 : decode cX11_count 35 = .ok (.ireturn, 1) := by decide +kernel
theorem dX11_count_36 : decode cX11_count 36 = .ok (.aload_n 0, 1) := by decide +kernel
theorem dX11_count_37 : decode cX11_count 37 = .ok (.getfield 10, 3) := by decide +kernel
theorem dX11_count_40 : decode cX11_count 40 = .ok (.invokevirtual 73, 3) := by decide +kernel
theorem dX11_count_43 : decode cX11_count 43 = .ok (.ireturn, 1) := by decide +kernel
theorem dX11_count_44 : decode cX11_count 44 = .ok (.aload_n 0, 1) := by decide +kernel
theorem dX11_count_45 : decode cX11_count 45 = .ok (.getfield 65, 3) := by decide +kernel
theorem dX11_count_48 : decode cX11_count 48 = .ok (.iconst 0, 1) := by decide +kernel
theorem dX11_count_49 : decode cX11_count 49 = .ok (.invokevirtual 294, 3) := by decide +kernel
theorem dX11_count_52 : decode cX11_count 52 = .ok (.ifCond .eq 8, 3) := by decide +kernel
theorem dX11_count_55 : decode cX11_count 55 = .ok (.bipush (-4), 2) := by decide +kernel
theorem dX11_count_57 : decode cX11_count 57 = .ok (.goto 11, 3) := by decide +kernel
theorem dX11_count_60 : decode cX11_count 60 = .ok (.aload_n 0, 1) := by decide +kernel
theorem dX11_count_61 : decode cX11_count 61 = .ok (.getfield 65, 3) := by decide +kernel
theorem dX11_count_64 : decode cX11_count 64 = .ok (.iconst 0, 1) := by decide +kernel
theorem dX11_count_65 : decode cX11_count 65 = .ok (.invokevirtual 313, 3) := by decide +kernel
theorem dX11_count_68 : decode cX11_count 68 = .ok (.ireturn, 1) := by decide +kernel
theorem dX11_count_69 : decode cX11_count 69 = .ok (.iconst (-1), 1) := by decide +kernel
theorem dX11_count_70 : decode cX11_count 70 = .ok (.ireturn, 1) := by decide +kernel
theorem dX11_within_0 : decode cX11_within 0 = .ok (.iload_n 0, 1) := by decide +kernel
theorem dX11_within_1 : decode cX11_within 1 = .ok (.iload_n 1, 1) := by decide +kernel
theorem dX11_within_2 : decode cX11_within 2 = .ok (.if_icmp .lt 12, 3) := by decide +kernel
theorem dX11_within_5 : decode cX11_within 5 = .ok (.iload_n 0, 1) := by decide +kernel
theorem dX11_within_6 : decode cX11_within 6 = .ok (.iload_n 2, 1) := by decide +kernel
theorem dX11_within_7 : decode cX11_within 7 = .ok (.if_icmp .gt 7, 3) := by decide +kernel
theorem dX11_within_10 : decode cX11_within 10 = .ok (.iconst 1, 1) := by decide +kernel
theorem dX11_within_11 : decode cX11_within 11 = .ok (.goto 4, 3) := by decide +kernel
theorem dX11_within_14 : decode cX11_within 14 = .ok (.iconst 0, 1) := by decide +kernel
theorem dX11_within_15 : decode cX11_within 15 = .ok (.ireturn, 1) := by decide +kernel
theorem dX11_isFractionPart_0 : decode cX11_isFractionPart 0 = .ok (.iload_n 0, 1) := by decide +kernel
theorem dX11_isFractionPart_1 : decode cX11_isFractionPart 1 = .ok (.ifCond .eq 8, 3) := by decide +kernel
theorem dX11_isFractionPart_4 : decode cX11_isFractionPart 4 = .ok (.iload_n 0, 1) := by decide +kernel
theorem dX11_isFractionPart_5 : decode cX11_isFractionPart 5 = .ok (.iconst 1, 1) := by decide +kernel
theorem dX11_isFractionPart_6 : decode cX11_isFractionPart 6 = .ok (.if_icmp .ne 7, 3) := by decide +kernel
theorem dX11_isFractionPart_9 : decode cX11_isFractionPart 9 = .ok (.iconst 1, 1) := by decide +kernel
theorem dX11_isFractionPart_10 : decode cX11_isFractionPart 10 = .ok (.goto 4, 3) := by decide +kernel
theorem dX11_isFractionPart_13 : decode cX11_isFractionPart 13 = .ok (.iconst 0, 1) := by decide +kernel
theorem dX11_isFractionPart_14 : decode cX11_isFractionPart 14 = .ok (.ireturn, 1) := by decide +kernel
theorem dX11_weigh_0 : decode cX11_weigh 0 = .ok (.aload_n 0, 1) := by decide +kernel
theorem dX11_weigh_1 : decode cX11_weigh 1 = .ok (.getfield 37, 3) := by decide +kernel
theorem dX11_weigh_4 : decode cX11_weigh 4 = .ok (.invokevirtual 130, 3) := by decide +kernel
theorem dX11_weigh_7 : decode cX11_weigh 7 = .ok (.iload_n 1, 1) := by decide +kernel
theorem dX11_weigh_8 : decode cX11_weigh 8 = .ok (.invokevirtual 140, 3) := by decide +kernel
theorem dX11_weigh_11 : decode cX11_weigh 11 = .ok (.ifCond .ne 6, 3) := by decide +kernel
theorem dX11_weigh_14 : decode cX11_weigh 14 = .ok (.bipush (-4), 2) := by decide +kernel
theorem dX11_weigh_16 : decode cX11_weigh 16 = .ok (.ireturn, 1) := by decide +kernel
theorem dX11_weigh_17 : decode cX11_weigh 17 = .ok (.aload_n 0, 1) := by decide +kernel
theorem dX11_weigh_18 : decode cX11_weigh 18 = .ok (.getfield 37, 3) := by decide +kernel
theorem dX11_weigh_21 : decode cX11_weigh 21 = .ok (.iload_n 1, 1) := by decide +kernel
theorem dX11_weigh_22 : decode cX11_weigh 22 = .ok (.invokevirtual 137, 3) := by decide +kernel
theorem dX11_weigh_25 : decode cX11_weigh 25 = .ok (.lstore_n 2, 1) := by decide +kernel
theorem dX11_weigh_26 : decode cX11_weigh 26 = .ok (.lload_n 2, 1) := by decide +kernel
theorem dX11_weigh_27 : decode cX11_weigh 27 = .ok (.invokestatic 124, 3) := by decide +kernel
theorem dX11_weigh_30 : decode cX11_weigh 30 = .ok (.bipush 8, 2) := by decide +kernel
theorem dX11_weigh_32 : decode cX11_weigh 32 = .ok (.if_icmp .le 6, 3) := by decide +kernel
theorem dX11_weigh_35 : decode cX11_weigh 35 = .ok (.bipush (-6), 2) := by decide +kernel
theorem dX11_weigh_37 : decode cX11_weigh 37 = .ok (.ireturn, 1) := by decide +kernel
theorem dX11_weigh_38 : decode cX11_weigh 38 = .ok (.aload_n 0, 1) := by decide +kernel
theorem dX11_weigh_39 : decode cX11_weigh 39 = .ok (.getfield 44, 3) := by decide +kernel
theorem dX11_weigh_42 : decode cX11_weigh 42 = .ok (.lload_n 2, 1) := by decide +kernel
theorem dX11_weigh_43 : decode cX11_weigh 43 = .ok (.invokevirtual 316, 3) := by decide +kernel
theorem dX11_weigh_46 : decode cX11_weigh 46 = .ok (.iconst 0, 1) := by decide +kernel
theorem dX11_weigh_47 : decode cX11_weigh 47 = .ok (.ireturn, 1) := by decide +kernel
theorem dX11_shareByWords_0 : decode cX11_shareByWords 0 = .ok (.aload_n 0, 1) := by decide +kernel
theorem dX11_shareByWords_1 : decode cX11_shareByWords 1 = .ok (.getfield 19, 3) := by decide +kernel
theorem dX11_shareByWords_4 : decode cX11_shareByWords 4 = .ok (.invokevirtual 186, 3) := by decide +kernel
theorem dX11_shareByWords_7 : decode cX11_shareByWords 7 = .ok (.ifCond .ne 7, 3) := by decide +kernel
theorem dX11_shareByWords_10 : decode cX11_shareByWords 10 = .ok (.ldc2_w 192, 3) := by decide +kernel
theorem dX11_shareByWords_13 : decode cX11_shareByWords 13 = .ok (.lreturn, 1) := by decide +kernel
theorem dX11_shareByWords_14 : decode cX11_shareByWords 14 = .ok (.aload_n 0, 1) := by decide +kernel
theorem dX11_shareByWords_15 : decode cX11_shareByWords 15 = .ok (.getfield 19, 3) := by decide +kernel
theorem dX11_shareByWords_18 : decode cX11_shareByWords 18 = .ok (.invokevirtual 194, 3) := by decide +kernel
theorem dX11_shareByWords_21 : decode cX11_shareByWords 21 = .ok (.istore_n 3, 1) := by decide +kernel
theorem dX11_shareByWords_22 : decode cX11_shareByWords 22 = .ok (.aload_n 0, 1) := by decide +kernel
theorem dX11_shareByWords_23 : decode cX11_shareByWords 23 = .ok (.getfield 51, 3) := by decide +kernel
theorem dX11_shareByWords_26 : decode cX11_shareByWords 26 = .ok (.iload_n 3, 1) := by decide +kernel
theorem dX11_shareByWords_27 : decode cX11_shareByWords 27 = .ok (.iload_n 1, 1) := by decide +kernel
theorem dX11_shareByWords_28 : decode cX11_shareByWords 28 = .ok (.invokevirtual 197, 3) := by decide +kernel
theorem dX11_shareByWords_31 : decode cX11_shareByWords 31 = .ok (.aload_n 0, 1) := by decide +kernel
theorem dX11_shareByWords_32 : decode cX11_shareByWords 32 = .ok (.getfield 51, 3) := by decide +kernel
theorem dX11_shareByWords_35 : decode cX11_shareByWords 35 = .ok (.iload_n 3, 1) := by decide +kernel
theorem dX11_shareByWords_36 : decode cX11_shareByWords 36 = .ok (.iconst 0, 1) := by decide +kernel
theorem dX11_shareByWords_37 : decode cX11_shareByWords 37 = .ok (.invokevirtual 197, 3) := by decide +kernel
theorem dX11_shareByWords_40 : decode cX11_shareByWords 40 = .ok (.iload_n 2, 1) := by decide +kernel
theorem dX11_shareByWords_41 : decode cX11_shareByWords 41 = .ok (.invokestatic 172, 3) := by decide +kernel
theorem dX11_shareByWords_44 : decode cX11_shareByWords 44 = .ok (.lreturn, 1) := by decide +kernel
theorem dX11_judgeCells_0 : decode cX11_judgeCells 0 = .ok (.aload_n 0, 1) := by decide +kernel
theorem dX11_judgeCells_1 : decode cX11_judgeCells 1 = .ok (.getfield 44, 3) := by decide +kernel
theorem dX11_judgeCells_4 : decode cX11_judgeCells 4 = .ok (.invokevirtual 320, 3) := by decide +kernel
theorem dX11_judgeCells_7 : decode cX11_judgeCells 7 = .ok (.iconst 0, 1) := by decide +kernel
theorem dX11_judgeCells_8 : decode cX11_judgeCells 8 = .ok (.istore 5, 2) := by decide +kernel
theorem dX11_judgeCells_10 : decode cX11_judgeCells 10 = .ok (.iconst 0, 1) := by decide +kernel
theorem dX11_judgeCells_11 : decode cX11_judgeCells 11 = .ok (.istore 6, 2) := by decide +kernel
theorem dX11_judgeCells_13 : decode cX11_judgeCells 13 = .ok (.iload 6, 2) := by decide +kernel
theorem dX11_judgeCells_15 : decode cX11_judgeCells 15 = .ok (.bipush 64, 2) := by decide +kernel
theorem dX11_judgeCells_17 : decode cX11_judgeCells 17 = .ok (.if_icmp .ge 82, 3) := by decide +kernel
theorem dX11_judgeCells_20 : decode cX11_judgeCells 20 = .ok (.lload_n 1, 1) := by decide +kernel
theorem dX11_judgeCells_21 : decode cX11_judgeCells 21 = .ok (.iload 6, 2) := by decide +kernel
theorem dX11_judgeCells_23 : decode cX11_judgeCells 23 = .ok (.lushr, 1) := by decide +kernel
theorem dX11_judgeCells_24 : decode cX11_judgeCells 24 = .ok (.lconst 1, 1) := by decide +kernel
theorem dX11_judgeCells_25 : decode cX11_judgeCells 25 = .ok (.land, 1) := by decide +kernel
theorem dX11_judgeCells_26 : decode cX11_judgeCells 26 = .ok (.lconst 0, 1) := by decide +kernel
theorem dX11_judgeCells_27 : decode cX11_judgeCells 27 = .ok (.lcmp, 1) := by decide +kernel
theorem dX11_judgeCells_28 : decode cX11_judgeCells 28 = .ok (.ifCond .ne 6, 3) := by decide +kernel
theorem dX11_judgeCells_31 : decode cX11_judgeCells 31 = .ok (.goto 62, 3) := by decide +kernel
theorem dX11_judgeCells_34 : decode cX11_judgeCells 34 = .ok (.aload_n 0, 1) := by decide +kernel
theorem dX11_judgeCells_35 : decode cX11_judgeCells 35 = .ok (.getfield 65, 3) := by decide +kernel
theorem dX11_judgeCells_38 : decode cX11_judgeCells 38 = .ok (.iload_n 3, 1) := by decide +kernel
theorem dX11_judgeCells_39 : decode cX11_judgeCells 39 = .ok (.iload 4, 2) := by decide +kernel
theorem dX11_judgeCells_41 : decode cX11_judgeCells 41 = .ok (.iload 5, 2) := by decide +kernel
theorem dX11_judgeCells_43 : decode cX11_judgeCells 43 = .ok (.iadd, 1) := by decide +kernel
theorem dX11_judgeCells_44 : decode cX11_judgeCells 44 = .ok (.invokevirtual 297, 3) := by decide +kernel
theorem dX11_judgeCells_47 : decode cX11_judgeCells 47 = .ok (.ifCond .ne 6, 3) := by decide +kernel
theorem dX11_judgeCells_50 : decode cX11_judgeCells 50 = .ok (.bipush (-12), 2) := by decide +kernel
theorem dX11_judgeCells_52 : decode cX11_judgeCells 52 = .ok (.ireturn, 1) := by decide +kernel
theorem dX11_judgeCells_53 : decode cX11_judgeCells 53 = .ok (.aload_n 0, 1) := by decide +kernel
theorem dX11_judgeCells_54 : decode cX11_judgeCells 54 = .ok (.getfield 65, 3) := by decide +kernel
theorem dX11_judgeCells_57 : decode cX11_judgeCells 57 = .ok (.iload_n 3, 1) := by decide +kernel
theorem dX11_judgeCells_58 : decode cX11_judgeCells 58 = .ok (.iload 4, 2) := by decide +kernel
theorem dX11_judgeCells_60 : decode cX11_judgeCells 60 = .ok (.iload 5, 2) := by decide +kernel
theorem dX11_judgeCells_62 : decode cX11_judgeCells 62 = .ok (.iadd, 1) := by decide +kernel
theorem dX11_judgeCells_63 : decode cX11_judgeCells 63 = .ok (.invokevirtual 323, 3) := by decide +kernel
theorem dX11_judgeCells_66 : decode cX11_judgeCells 66 = .ok (.istore 7, 2) := by decide +kernel
theorem dX11_judgeCells_68 : decode cX11_judgeCells 68 = .ok (.iload 7, 2) := by decide +kernel
theorem dX11_judgeCells_70 : decode cX11_judgeCells 70 = .ok (.ifCond .ge 9, 3) := by decide +kernel
theorem dX11_judgeCells_73 : decode cX11_judgeCells 73 = .ok (.bipush (-20), 2) := by decide +kernel
theorem dX11_judgeCells_75 : decode cX11_judgeCells 75 = .ok (.iload 5, 2) := by decide +kernel
theorem dX11_judgeCells_77 : decode cX11_judgeCells 77 = .ok (.isub, 1) := by decide +kernel
theorem dX11_judgeCells_78 : decode cX11_judgeCells 78 = .ok (.ireturn, 1) := by decide +kernel
theorem dX11_judgeCells_79 : decode cX11_judgeCells 79 = .ok (.aload_n 0, 1) := by decide +kernel
theorem dX11_judgeCells_80 : decode cX11_judgeCells 80 = .ok (.getfield 44, 3) := by decide +kernel
theorem dX11_judgeCells_83 : decode cX11_judgeCells 83 = .ok (.iload 6, 2) := by decide +kernel
theorem dX11_judgeCells_85 : decode cX11_judgeCells 85 = .ok (.iload 7, 2) := by decide +kernel
theorem dX11_judgeCells_87 : decode cX11_judgeCells 87 = .ok (.invokevirtual 326, 3) := by decide +kernel
theorem dX11_judgeCells_90 : decode cX11_judgeCells 90 = .ok (.iinc 5 1, 3) := by decide +kernel
theorem dX11_judgeCells_93 : decode cX11_judgeCells 93 = .ok (.iinc 6 1, 3) := by decide +kernel
theorem dX11_judgeCells_96 : decode cX11_judgeCells 96 = .ok (.goto (-83), 3) := by decide +kernel
theorem dX11_judgeCells_99 : decode cX11_judgeCells 99 = .ok (.aload_n 0, 1) := by decide +kernel
theorem dX11_judgeCells_100 : decode cX11_judgeCells 100 = .ok (.getfield 44, 3) := by decide +kernel
theorem dX11_judgeCells_103 : decode cX11_judgeCells 103 = .ok (.invokevirtual 330, 3) := by decide +kernel
theorem dX11_judgeCells_106 : decode cX11_judgeCells 106 = .ok (.ifCond .eq 7, 3) := by decide +kernel
theorem dX11_judgeCells_109 : decode cX11_judgeCells 109 = .ok (.iconst 1, 1) := by decide +kernel
theorem dX11_judgeCells_110 : decode cX11_judgeCells 110 = .ok (.goto 4, 3) := by decide +kernel
theorem dX11_judgeCells_113 : decode cX11_judgeCells 113 = .ok (.iconst 0, 1) := by decide +kernel
theorem dX11_judgeCells_114 : decode cX11_judgeCells 114 = .ok (.ireturn, 1) := by decide +kernel
theorem dX12_init_0 : decode cX12_init 0 = .ok (.aload_n 0, 1) := by decide +kernel
theorem dX12_init_1 : decode cX12_init 1 = .ok (.invokespecial 1, 3) := by decide +kernel
theorem dX12_init_4 : decode cX12_init 4 = .ok (.aload_n 0, 1) := by decide +kernel
theorem dX12_init_5 : decode cX12_init 5 = .ok (.bipush 8, 2) := by decide +kernel
theorem dX12_init_7 : decode cX12_init 7 = .ok (.newarray .int, 2) := by decide +kernel
theorem dX12_init_9 : decode cX12_init 9 = .ok (.dup, 1) := by decide +kernel
theorem dX12_init_10 : decode cX12_init 10 = .ok (.iconst 0, 1) := by decide +kernel
theorem dX12_init_11 : decode cX12_init 11 = .ok (.iconst 4, 1) := by decide +kernel
theorem dX12_init_12 : decode cX12_init 12 = .ok (.iastore, 1) := by decide +kernel
theorem dX12_init_13 : decode cX12_init 13 = .ok (.dup, 1) := by decide +kernel
theorem dX12_init_14 : decode cX12_init 14 = .ok (.iconst 1, 1) := by decide +kernel
theorem dX12_init_15 : decode cX12_init 15 = .ok (.iconst 0, 1) := by decide +kernel
theorem dX12_init_16 : decode cX12_init 16 = .ok (.iastore, 1) := by decide +kernel
theorem dX12_init_17 : decode cX12_init 17 = .ok (.dup, 1) := by decide +kernel
theorem dX12_init_18 : decode cX12_init 18 = .ok (.iconst 2, 1) := by decide +kernel
theorem dX12_init_19 : decode cX12_init 19 = .ok (.iconst 1, 1) := by decide +kernel
theorem dX12_init_20 : decode cX12_init 20 = .ok (.iastore, 1) := by decide +kernel
theorem dX12_init_21 : decode cX12_init 21 = .ok (.dup, 1) := by decide +kernel
theorem dX12_init_22 : decode cX12_init 22 = .ok (.iconst 3, 1) := by decide +kernel
theorem dX12_init_23 : decode cX12_init 23 = .ok (.iconst 0, 1) := by decide +kernel
theorem dX12_init_24 : decode cX12_init 24 = .ok (.iastore, 1) := by decide +kernel
theorem dX12_init_25 : decode cX12_init 25 = .ok (.dup, 1) := by decide +kernel
theorem dX12_init_26 : decode cX12_init 26 = .ok (.iconst 4, 1) := by decide +kernel
theorem dX12_init_27 : decode cX12_init 27 = .ok (.iconst 1, 1) := by decide +kernel
theorem dX12_init_28 : decode cX12_init 28 = .ok (.iastore, 1) := by decide +kernel
theorem dX12_init_29 : decode cX12_init 29 = .ok (.dup, 1) := by decide +kernel
theorem dX12_init_30 : decode cX12_init 30 = .ok (.iconst 5, 1) := by decide +kernel
theorem dX12_init_31 : decode cX12_init 31 = .ok (.iconst 0, 1) := by decide +kernel
theorem dX12_init_32 : decode cX12_init 32 = .ok (.iastore, 1) := by decide +kernel
theorem dX12_init_33 : decode cX12_init 33 = .ok (.dup, 1) := by decide +kernel
theorem dX12_init_34 : decode cX12_init 34 = .ok (.bipush 6, 2) := by decide +kernel
theorem dX12_init_36 : decode cX12_init 36 = .ok (.iconst 1, 1) := by decide +kernel
theorem dX12_init_37 : decode cX12_init 37 = .ok (.iastore, 1) := by decide +kernel
theorem dX12_init_38 : decode cX12_init 38 = .ok (.dup, 1) := by decide +kernel
theorem dX12_init_39 : decode cX12_init 39 = .ok (.bipush 7, 2) := by decide +kernel
theorem dX12_init_41 : decode cX12_init 41 = .ok (.iconst 0, 1) := by decide +kernel
theorem dX12_init_42 : decode cX12_init 42 = .ok (.iastore, 1) := by decide +kernel
theorem dX12_init_43 : decode cX12_init 43 = .ok (.putfield 7, 3) := by decide +kernel
theorem dX12_init_46 : decode cX12_init 46 = .ok (.aload_n 0, 1) := by decide +kernel
theorem dX12_init_47 : decode cX12_init 47 = .ok (.bipush 8, 2) := by decide +kernel
theorem dX12_init_49 : decode cX12_init 49 = .ok (.newarray .int, 2) := by decide +kernel
theorem dX12_init_51 : decode cX12_init 51 = .ok (.putfield 13, 3) := by decide +kernel
theorem dX12_init_54 : decode cX12_init 54 = .ok (.aload_n 0, 1) := by decide +kernel
theorem dX12_init_55 : decode cX12_init 55 = .ok (.bipush 120, 2) := by decide +kernel
theorem dX12_init_57 : decode cX12_init 57 = .ok (.newarray .int, 2) := by decide +kernel
theorem dX12_init_59 : decode cX12_init 59 = .ok (.putfield 16, 3) := by decide +kernel
theorem dX12_init_62 : decode cX12_init 62 = .ok (.aload_n 0, 1) := by decide +kernel
theorem dX12_init_63 : decode cX12_init 63 = .ok (.bipush 6, 2) := by decide +kernel
theorem dX12_init_65 : decode cX12_init 65 = .ok (.newarray .int, 2) := by decide +kernel
theorem dX12_init_67 : decode cX12_init 67 = .ok (.dup, 1) := by decide +kernel
theorem dX12_init_68 : decode cX12_init 68 = .ok (.iconst 0, 1) := by decide +kernel
theorem dX12_init_69 : decode cX12_init 69 = .ok (.iconst 0, 1) := by decide +kernel
theorem dX12_init_70 : decode cX12_init 70 = .ok (.iastore, 1) := by decide +kernel
theorem dX12_init_71 : decode cX12_init 71 = .ok (.dup, 1) := by decide +kernel
theorem dX12_init_72 : decode cX12_init 72 = .ok (.iconst 1, 1) := by decide +kernel
theorem dX12_init_73 : decode cX12_init 73 = .ok (.iconst 4, 1) := by decide +kernel
theorem dX12_init_74 : decode cX12_init 74 = .ok (.iastore, 1) := by decide +kernel
theorem dX12_init_75 : decode cX12_init 75 = .ok (.dup, 1) := by decide +kernel
theorem dX12_init_76 : decode cX12_init 76 = .ok (.iconst 2, 1) := by decide +kernel
theorem dX12_init_77 : decode cX12_init 77 = .ok (.bipush 8, 2) := by decide +kernel
theorem dX12_init_79 : decode cX12_init 79 = .ok (.iastore, 1) := by decide +kernel
theorem dX12_init_80 : decode cX12_init 80 = .ok (.dup, 1) := by decide +kernel
theorem dX12_init_81 : decode cX12_init 81 = .ok (.iconst 3, 1) := by decide +kernel
theorem dX12_init_82 : decode cX12_init 82 = .ok (.bipush 11, 2) := by decide +kernel
theorem dX12_init_84 : decode cX12_init 84 = .ok (.iastore, 1) := by decide +kernel
theorem dX12_init_85 : decode cX12_init 85 = .ok (.dup, 1) := by decide +kernel
theorem dX12_init_86 : decode cX12_init 86 = .ok (.iconst 4, 1) := by decide +kernel
theorem dX12_init_87 : decode cX12_init 87 = .ok (.bipush 13, 2) := by decide +kernel
theorem dX12_init_89 : decode cX12_init 89 = .ok (.iastore, 1) := by decide +kernel
theorem dX12_init_90 : decode cX12_init 90 = .ok (.dup, 1) := by decide +kernel
theorem dX12_init_91 : decode cX12_init 91 = .ok (.iconst 5, 1) := by decide +kernel
theorem dX12_init_92 : decode cX12_init 92 = .ok (.bipush 16, 2) := by decide +kernel
theorem dX12_init_94 : decode cX12_init 94 = .ok (.iastore, 1) := by decide +kernel
theorem dX12_init_95 : decode cX12_init 95 = .ok (.putfield 19, 3) := by decide +kernel
theorem dX12_init_98 : decode cX12_init 98 = .ok (.aload_n 0, 1) := by decide +kernel
theorem dX12_init_99 : decode cX12_init 99 = .ok (.bipush 16, 2) := by decide +kernel
theorem dX12_init_101 : decode cX12_init 101 = .ok (.newarray .int, 2) := by decide +kernel
theorem dX12_init_103 : decode cX12_init 103 = .ok (.dup, 1) := by decide +kernel
theorem dX12_init_104 : decode cX12_init 104 = .ok (.iconst 0, 1) := by decide +kernel
theorem dX12_init_105 : decode cX12_init 105 = .ok (.bipush 114, 2) := by decide +kernel
theorem dX12_init_107 : decode cX12_init 107 = .ok (.iastore, 1) := by decide +kernel
theorem dX12_init_108 : decode cX12_init 108 = .ok (.dup, 1) := by decide +kernel
theorem dX12_init_109 : decode cX12_init 109 = .ok (.iconst 1, 1) := by decide +kernel
theorem dX12_init_110 : decode cX12_init 110 = .ok (.bipush 105, 2) := by decide +kernel
theorem dX12_init_112 : decode cX12_init 112 = .ok (.iastore, 1) := by decide +kernel
theorem dX12_init_113 : decode cX12_init 113 = .ok (.dup, 1) := by decide +kernel
theorem dX12_init_114 : decode cX12_init 114 = .ok (.iconst 2, 1) := by decide +kernel
theorem dX12_init_115 : decode cX12_init 115 = .ok (.bipush 110, 2) := by decide +kernel
theorem dX12_init_117 : decode cX12_init 117 = .ok (.iastore, 1) := by decide +kernel
theorem dX12_init_118 : decode cX12_init 118 = .ok (.dup, 1) := by decide +kernel
theorem dX12_init_119 : decode cX12_init 119 = .ok (.iconst 3, 1) := by decide +kernel
theorem dX12_init_120 : decode cX12_init 120 = .ok (.bipush 103, 2) := by decide +kernel
theorem dX12_init_122 : decode cX12_init 122 = .ok (.iastore, 1) := by decide +kernel
theorem dX12_init_123 : decode cX12_init 123 = .ok (.dup, 1) := by decide +kernel
theorem dX12_init_124 : decode cX12_init 124 = .ok (.iconst 4, 1) := by decide +kernel
theorem dX12_init_125 : decode cX12_init 125 = .ok (.bipush 111, 2) := by decide +kernel
theorem dX12_init_127 : decode cX12_init 127 = .ok (.iastore, 1) := by decide +kernel
theorem dX12_init_128 : decode cX12_init 128 = .ok (.dup, 1) := by decide +kernel
theorem dX12_init_129 : decode cX12_init 129 = .ok (.iconst 5, 1) := by decide +kernel
theorem dX12_init_130 : decode cX12_init 130 = .ok (.bipush 112, 2) := by decide +kernel
theorem dX12_init_132 : decode cX12_init 132 = .ok (.iastore, 1) := by decide +kernel
theorem dX12_init_133 : decode cX12_init 133 = .ok (.dup, 1) := by decide +kernel
theorem dX12_init_134 : decode cX12_init 134 = .ok (.bipush 6, 2) := by decide +kernel
theorem dX12_init_136 : decode cX12_init 136 = .ok (.bipush 101, 2) := by decide +kernel
theorem dX12_init_138 : decode cX12_init 138 = .ok (.iastore, 1) := by decide +kernel
theorem dX12_init_139 : decode cX12_init 139 = .ok (.dup, 1) := by decide +kernel
theorem dX12_init_140 : decode cX12_init 140 = .ok (.bipush 7, 2) := by decide +kernel
theorem dX12_init_142 : decode cX12_init 142 = .ok (.bipush 110, 2) := by decide +kernel
theorem dX12_init_144 : decode cX12_init 144 = .ok (.iastore, 1) := by decide +kernel
theorem dX12_init_145 : decode cX12_init 145 = .ok (.dup, 1) := by decide +kernel
theorem dX12_init_146 : decode cX12_init 146 = .ok (.bipush 8, 2) := by decide +kernel
theorem dX12_init_148 : decode cX12_init 148 = .ok (.bipush 104, 2) := by decide +kernel
theorem dX12_init_150 : decode cX12_init 150 = .ok (.iastore, 1) := by decide +kernel
theorem dX12_init_151 : decode cX12_init 151 = .ok (.dup, 1) := by decide +kernel
theorem dX12_init_152 : decode cX12_init 152 = .ok (.bipush 9, 2) := by decide +kernel
theorem dX12_init_154 : decode cX12_init 154 = .ok (.bipush 111, 2) := by decide +kernel
theorem dX12_init_156 : decode cX12_init 156 = .ok (.iastore, 1) := by decide +kernel
theorem dX12_init_157 : decode cX12_init 157 = .ok (.dup, 1) := by decide +kernel
theorem dX12_init_158 : decode cX12_init 158 = .ok (.bipush 10, 2) := by decide +kernel
theorem dX12_init_160 : decode cX12_init 160 = .ok (.bipush 112, 2) := by decide +kernel
theorem dX12_init_162 : decode cX12_init 162 = .ok (.iastore, 1) := by decide +kernel
theorem dX12_init_163 : decode cX12_init 163 = .ok (.dup, 1) := by decide +kernel
theorem dX12_init_164 : decode cX12_init 164 = .ok (.bipush 11, 2) := by decide +kernel
theorem dX12_init_166 : decode cX12_init 166 = .ok (.bipush 105, 2) := by decide +kernel
theorem dX12_init_168 : decode cX12_init 168 = .ok (.iastore, 1) := by decide +kernel
theorem dX12_init_169 : decode cX12_init 169 = .ok (.dup, 1) := by decide +kernel
theorem dX12_init_170 : decode cX12_init 170 = .ok (.bipush 12, 2) := by decide +kernel
theorem dX12_init_172 : decode cX12_init 172 = .ok (.bipush 110, 2) := by decide +kernel
theorem dX12_init_174 : decode cX12_init 174 = .ok (.iastore, 1) := by decide +kernel
theorem dX12_init_175 : decode cX12_init 175 = .ok (.dup, 1) := by decide +kernel
theorem dX12_init_176 : decode cX12_init 176 = .ok (.bipush 13, 2) := by decide +kernel
theorem dX12_init_178 : decode cX12_init 178 = .ok (.bipush 111, 2) := by decide +kernel
theorem dX12_init_180 : decode cX12_init 180 = .ok (.iastore, 1) := by decide +kernel
theorem dX12_init_181 : decode cX12_init 181 = .ok (.dup, 1) := by decide +kernel
theorem dX12_init_182 : decode cX12_init 182 = .ok (.bipush 14, 2) := by decide +kernel
theorem dX12_init_184 : decode cX12_init 184 = .ok (.bipush 117, 2) := by decide +kernel
theorem dX12_init_186 : decode cX12_init 186 = .ok (.iastore, 1) := by decide +kernel
theorem dX12_init_187 : decode cX12_init 187 = .ok (.dup, 1) := by decide +kernel
theorem dX12_init_188 : decode cX12_init 188 = .ok (.bipush 15, 2) := by decide +kernel
theorem dX12_init_190 : decode cX12_init 190 = .ok (.bipush 116, 2) := by decide +kernel
theorem dX12_init_192 : decode cX12_init 192 = .ok (.iastore, 1) := by decide +kernel
theorem dX12_init_193 : decode cX12_init 193 = .ok (.putfield 22, 3) := by decide +kernel
theorem dX12_init_196 : decode cX12_init 196 = .ok (.aload_n 0, 1) := by decide +kernel
theorem dX12_init_197 : decode cX12_init 197 = .ok (.bipush 64, 2) := by decide +kernel
theorem dX12_init_199 : decode cX12_init 199 = .ok (.newarray .long, 2) := by decide +kernel
theorem dX12_init_201 : decode cX12_init 201 = .ok (.putfield 25, 3) := by decide +kernel
theorem dX12_init_204 : decode cX12_init 204 = .ok (.aload_n 0, 1) := by decide +kernel
theorem dX12_init_205 : decode cX12_init 205 = .ok (.bipush 64, 2) := by decide +kernel
theorem dX12_init_207 : decode cX12_init 207 = .ok (.newarray .int, 2) := by decide +kernel
theorem dX12_init_209 : decode cX12_init 209 = .ok (.putfield 29, 3) := by decide +kernel
theorem dX12_init_212 : decode cX12_init 212 = .ok (.aload_n 0, 1) := by decide +kernel
theorem dX12_init_213 : decode cX12_init 213 = .ok (.bipush 64, 2) := by decide +kernel
theorem dX12_init_215 : decode cX12_init 215 = .ok (.newarray .long, 2) := by decide +kernel
theorem dX12_init_217 : decode cX12_init 217 = .ok (.putfield 32, 3) := by decide +kernel
theorem dX12_init_220 : decode cX12_init 220 = .ok (.aload_n 0, 1) := by decide +kernel
theorem dX12_init_221 : decode cX12_init 221 = .ok (.bipush 64, 2) := by decide +kernel
theorem dX12_init_223 : decode cX12_init 223 = .ok (.newarray .long, 2) := by decide +kernel
theorem dX12_init_225 : decode cX12_init 225 = .ok (.putfield 35, 3) := by decide +kernel
theorem dX12_init_228 : decode cX12_init 228 = .ok (.aload_n 0, 1) := by decide +kernel
theorem dX12_init_229 : decode cX12_init 229 = .ok (.sipush 128, 3) := by decide +kernel
theorem dX12_init_232 : decode cX12_init 232 = .ok (.newarray .long, 2) := by decide +kernel
theorem dX12_init_234 : decode cX12_init 234 = .ok (.putfield 38, 3) := by decide +kernel
theorem dX12_init_237 : decode cX12_init 237 = .ok (.aload_n 0, 1) := by decide +kernel
theorem dX12_init_238 : decode cX12_init 238 = .ok (.bipush 64, 2) := by decide +kernel
theorem dX12_init_240 : decode cX12_init 240 = .ok (.newarray .int, 2) := by decide +kernel
theorem dX12_init_242 : decode cX12_init 242 = .ok (.putfield 41, 3) := by decide +kernel
theorem dX12_init_245 : decode cX12_init 245 = .ok (.aload_n 0, 1) := by decide +kernel
theorem dX12_init_246 : decode cX12_init 246 = .ok (.sipush 256, 3) := by decide +kernel
theorem dX12_init_249 : decode cX12_init 249 = .ok (.newarray .long, 2) := by decide +kernel
theorem dX12_init_251 : decode cX12_init 251 = .ok (.putfield 44, 3) := by decide +kernel
theorem dX12_init_254 : decode cX12_init 254 = .ok (.aload_n 0, 1) := by decide +kernel
theorem dX12_init_255 : decode cX12_init 255 = .ok (.sipush 4096, 3) := by decide +kernel
theorem dX12_init_258 : decode cX12_init 258 = .ok (.newarray .long, 2) := by decide +kernel
theorem dX12_init_260 : decode cX12_init 260 = .ok (.putfield 47, 3) := by decide +kernel
theorem dX12_init_263 : decode cX12_init 263 = .ok (.aload_n 0, 1) := by decide +kernel
theorem dX12_init_264 : decode cX12_init 264 = .ok (.sipush 4096, 3) := by decide +kernel
theorem dX12_init_267 : decode cX12_init 267 = .ok (.newarray .long, 2) := by decide +kernel
theorem dX12_init_269 : decode cX12_init 269 = .ok (.putfield 50, 3) := by decide +kernel
theorem dX12_init_272 : decode cX12_init 272 = .ok (.aload_n 0, 1) := by decide +kernel
theorem dX12_init_273 : decode cX12_init 273 = .ok (.iconst 4, 1) := by decide +kernel
theorem dX12_init_274 : decode cX12_init 274 = .ok (.newarray .int, 2) := by decide +kernel
theorem dX12_init_276 : decode cX12_init 276 = .ok (.putfield 53, 3) := by decide +kernel
theorem dX12_init_279 : decode cX12_init 279 = .ok (.aload_n 0, 1) := by decide +kernel
theorem dX12_init_280 : decode cX12_init 280 = .ok (.bipush 6, 2) := by decide +kernel
theorem dX12_init_282 : decode cX12_init 282 = .ok (.newarray .int, 2) := by decide +kernel
theorem dX12_init_284 : decode cX12_init 284 = .ok (.putfield 56, 3) := by decide +kernel
theorem dX12_init_287 : decode cX12_init 287 = .ok (.aload_n 0, 1) := by decide +kernel
theorem dX12_init_288 : decode cX12_init 288 = .ok (.iconst 4, 1) := by decide +kernel
theorem dX12_init_289 : decode cX12_init 289 = .ok (.newarray .int, 2) := by decide +kernel
theorem dX12_init_291 : decode cX12_init 291 = .ok (.dup, 1) := by decide +kernel
theorem dX12_init_292 : decode cX12_init 292 = .ok (.iconst 0, 1) := by decide +kernel
theorem dX12_init_293 : decode cX12_init 293 = .ok (.bipush (-4), 2) := by decide +kernel
theorem dX12_init_295 : decode cX12_init 295 = .ok (.iastore, 1) := by decide +kernel
theorem dX12_init_296 : decode cX12_init 296 = .ok (.dup, 1) := by decide +kernel
theorem dX12_init_297 : decode cX12_init 297 = .ok (.iconst 1, 1) := by decide +kernel
theorem dX12_init_298 : decode cX12_init 298 = .ok (.bipush (-4), 2) := by decide +kernel
theorem dX12_init_300 : decode cX12_init 300 = .ok (.iastore, 1) := by decide +kernel
theorem dX12_init_301 : decode cX12_init 301 = .ok (.dup, 1) := by decide +kernel
theorem dX12_init_302 : decode cX12_init 302 = .ok (.iconst 2, 1) := by decide +kernel
theorem dX12_init_303 : decode cX12_init 303 = .ok (.bipush (-4), 2) := by decide +kernel
theorem dX12_init_305 : decode cX12_init 305 = .ok (.iastore, 1) := by decide +kernel
theorem dX12_init_306 : decode cX12_init 306 = .ok (.dup, 1) := by decide +kernel
theorem dX12_init_307 : decode cX12_init 307 = .ok (.iconst 3, 1) := by decide +kernel
theorem dX12_init_308 : decode cX12_init 308 = .ok (.bipush (-4), 2) := by decide +kernel
theorem dX12_init_310 : decode cX12_init 310 = .ok (.iastore, 1) := by decide +kernel
theorem dX12_init_311 : decode cX12_init 311 = .ok (.putfield 59, 3) := by decide +kernel
theorem dX12_init_314 : decode cX12_init 314 = .ok (.aload_n 0, 1) := by decide +kernel
theorem dX12_init_315 : decode cX12_init 315 = .ok (.iconst 4, 1) := by decide +kernel
theorem dX12_init_316 : decode cX12_init 316 = .ok (.newarray .int, 2) := by decide +kernel
theorem dX12_init_318 : decode cX12_init 318 = .ok (.putfield 62, 3) := by decide +kernel
theorem dX12_init_321 : decode cX12_init 321 = .ok (.aload_n 0, 1) := by decide +kernel
theorem dX12_init_322 : decode cX12_init 322 = .ok (.sipush 256, 3) := by decide +kernel
theorem dX12_init_325 : decode cX12_init 325 = .ok (.newarray .int, 2) := by decide +kernel
theorem dX12_init_327 : decode cX12_init 327 = .ok (.putfield 65, 3) := by decide +kernel
theorem dX12_init_330 : decode cX12_init 330 = .ok (.return_, 1) := by decide +kernel
theorem dX12_in_0 : decode cX12_in 0 = .ok (.lload_n 0, 1) := by decide +kernel
theorem dX12_in_1 : decode cX12_in 1 = .ok (.lload_n 2, 1) := by decide +kernel
theorem dX12_in_2 : decode cX12_in 2 = .ok (.lcmp, 1) := by decide +kernel
theorem dX12_in_3 : decode cX12_in 3 = .ok (.ifCond .lt 14, 3) := by decide +kernel
theorem dX12_in_6 : decode cX12_in 6 = .ok (.lload_n 0, 1) := by decide +kernel
theorem dX12_in_7 : decode cX12_in 7 = .ok (.lload 4, 2) := by decide +kernel
theorem dX12_in_9 : decode cX12_in 9 = .ok (.lcmp, 1) := by decide +kernel
theorem dX12_in_10 : decode cX12_in 10 = .ok (.ifCond .gt 7, 3) := by decide +kernel
theorem dX12_in_13 : decode cX12_in 13 = .ok (.iconst 1, 1) := by decide +kernel
theorem dX12_in_14 : decode cX12_in 14 = .ok (.goto 4, 3) := by decide +kernel
theorem dX12_in_17 : decode cX12_in 17 = .ok (.iconst 0, 1) := by decide +kernel
theorem dX12_in_18 : decode cX12_in 18 = .ok (.ireturn, 1) := by decide +kernel
theorem dX12_places_0 : decode cX12_places 0 = .ok (.aload_n 0, 1) := by decide +kernel
theorem dX12_places_1 : decode cX12_places 1 = .ok (.getfield 7, 3) := by decide +kernel
theorem dX12_places_4 : decode cX12_places 4 = .ok (.iconst 0, 1) := by decide +kernel
theorem dX12_places_5 : decode cX12_places 5 = .ok (.iaload, 1) := by decide +kernel
theorem dX12_places_6 : decode cX12_places 6 = .ok (.ireturn, 1) := by decide +kernel
theorem dX12_isOpen_0 : decode cX12_isOpen 0 = .ok (.aload_n 0, 1) := by decide +kernel
theorem dX12_isOpen_1 : decode cX12_isOpen 1 = .ok (.getfield 7, 3) := by decide +kernel
theorem dX12_isOpen_4 : decode cX12_isOpen 4 = .ok (.iconst 1, 1) := by decide +kernel
theorem dX12_isOpen_5 : decode cX12_isOpen 5 = .ok (.iaload, 1) := by decide +kernel
theorem dX12_isOpen_6 : decode cX12_isOpen 6 = .ok (.iconst 1, 1) := by decide +kernel
theorem dX12_isOpen_7 : decode cX12_isOpen 7 = .ok (.if_icmp .ne 7, 3) := by decide +kernel
theorem dX12_isOpen_10 : decode cX12_isOpen 10 = .ok (.iconst 1, 1) := by decide +kernel
theorem dX12_isOpen_11 : decode cX12_isOpen 11 = .ok (.goto 4, 3) := by decide +kernel
theorem dX12_isOpen_14 : decode cX12_isOpen 14 = .ok (.iconst 0, 1) := by decide +kernel
theorem dX12_isOpen_15 : decode cX12_isOpen 15 = .ok (.ireturn, 1) := by decide +kernel
theorem dX12_states_0 : decode cX12_states 0 = .ok (.iconst 1, 1) := by decide +kernel
theorem dX12_states_1 : decode cX12_states 1 = .ok (.aload_n 0, 1) := by decide +kernel
theorem dX12_states_2 : decode cX12_states 2 = .ok (.getfield 7, 3) := by decide +kernel
theorem dX12_states_5 : decode cX12_states 5 = .ok (.iconst 0, 1) := by decide +kernel
theorem dX12_states_6 : decode cX12_states 6 = .ok (.iaload, 1) := by decide +kernel
theorem dX12_states_7 : decode cX12_states 7 = .ok (.ishl, 1) := by decide +kernel
theorem dX12_states_8 : decode cX12_states 8 = .ok (.ireturn, 1) := by decide +kernel
theorem dX12_isState_0 : decode cX12_isState 0 = .ok (.iload_n 1, 1) := by decide +kernel
theorem dX12_isState_1 : decode cX12_isState 1 = .ok (.i2l, 1) := by decide +kernel
theorem dX12_isState_2 : decode cX12_isState 2 = .ok (.lconst 0, 1) := by decide +kernel
theorem dX12_isState_3 : decode cX12_isState 3 = .ok (.aload_n 0, 1) := by decide +kernel
theorem dX12_isState_4 : decode cX12_isState 4 = .ok (.invokevirtual 68, 3) := by decide +kernel
theorem dX12_isState_7 : decode cX12_isState 7 = .ok (.iconst 1, 1) := by decide +kernel
theorem dX12_isState_8 : decode cX12_isState 8 = .ok (.isub, 1) := by decide +kernel
theorem dX12_isState_9 : decode cX12_isState 9 = .ok (.i2l, 1) := by decide +kernel
theorem dX12_isState_10 : decode cX12_isState 10 = .ok (.invokestatic 72, 3) := by decide +kernel
theorem dX12_isState_13 : decode cX12_isState 13 = .ok (.ireturn, 1) := by decide +kernel
theorem dX12_feed_0 : decode cX12_feed 0 = .ok (.aload_n 0, 1) := by decide +kernel
theorem dX12_feed_1 : decode cX12_feed 1 = .ok (.getfield 76, 3) := by decide +kernel
theorem dX12_feed_4 : decode cX12_feed 4 = .ok (.bipush 8, 2) := by decide +kernel
theorem dX12_feed_6 : decode cX12_feed 6 = .ok (.iadd, 1) := by decide +kernel
theorem dX12_feed_7 : decode cX12_feed 7 = .ok (.bipush 120, 2) := by decide +kernel
theorem dX12_feed_9 : decode cX12_feed 9 = .ok (.if_icmp .le 6, 3) := by decide +kernel
theorem dX12_feed_12 : decode cX12_feed 12 = .ok (.bipush (-3), 2) := by decide +kernel
theorem dX12_feed_14 : decode cX12_feed 14 = .ok (.ireturn, 1) := by decide +kernel
theorem dX12_feed_15 : decode cX12_feed 15 = .ok (.bipush 56, 2) := by decide +kernel
theorem dX12_feed_17 : decode cX12_feed 17 = .ok (.istore_n 3, 1) := by decide +kernel
theorem dX12_feed_18 : decode cX12_feed 18 = .ok (.iload_n 3, 1) := by decide +kernel
theorem dX12_feed_19 : decode cX12_feed 19 = .ok (.ifCond .lt 36, 3) := by decide +kernel
theorem dX12_feed_22 : decode cX12_feed 22 = .ok (.aload_n 0, 1) := by decide +kernel
theorem dX12_feed_23 : decode cX12_feed 23 = .ok (.getfield 16, 3) := by decide +kernel
theorem dX12_feed_26 : decode cX12_feed 26 = .ok (.aload_n 0, 1) := by decide +kernel
theorem dX12_feed_27 : decode cX12_feed 27 = .ok (.getfield 76, 3) := by decide +kernel
theorem dX12_feed_30 : decode cX12_feed 30 = .ok (.lload_n 1, 1) := by decide +kernel
theorem dX12_feed_31 : decode cX12_feed 31 = .ok (.iload_n 3, 1) := by decide +kernel
theorem dX12_feed_32 : decode cX12_feed 32 = .ok (.lshr, 1) := by decide +kernel
theorem dX12_feed_33 : decode cX12_feed 33 = .ok (.l2i, 1) := by decide +kernel
theorem dX12_feed_34 : decode cX12_feed 34 = .ok (.sipush 255, 3) := by decide +kernel
theorem dX12_feed_37 : decode cX12_feed 37 = .ok (.iand, 1) := by decide +kernel
end
section
theorem dX12_feed_38 : decode cX12_feed 38 = .ok (.iastore, 1) := by decide +kernel
theorem dX12_feed_39 : decode cX12_feed 39 = .ok (.aload_n 0, 1) := by decide +kernel
theorem dX12_feed_40 : decode cX12_feed 40 = .ok (.dup, 1) := by decide +kernel
theorem dX12_feed_41 : decode cX12_feed 41 = .ok (.getfield 76, 3) := by decide +kernel
theorem dX12_feed_44 : decode cX12_feed 44 = .ok (.iconst 1, 1) := by decide +kernel
theorem dX12_feed_45 : decode cX12_feed 45 = .ok (.iadd, 1) := by decide +kernel
theorem dX12_feed_46 : decode cX12_feed 46 = .ok (.putfield 76, 3) := by decide +kernel
theorem dX12_feed_49 : decode cX12_feed 49 = .ok (.iinc 3 (-8), 3) := by decide +kernel
theorem dX12_feed_52 : decode cX12_feed 52 = .ok (.goto (-34), 3) := by decide +kernel
theorem dX12_feed_55 : decode cX12_feed 55 = .ok (.aload_n 0, 1) := by decide +kernel
theorem dX12_feed_56 : decode cX12_feed 56 = .ok (.getfield 76, 3) := by decide +kernel
theorem dX12_feed_59 : decode cX12_feed 59 = .ok (.ireturn, 1) := by decide +kernel
theorem dX12_end_0 : decode cX12_end 0 = .ok (.iload_n 1, 1) := by decide +kernel
theorem dX12_end_1 : decode cX12_end 1 = .ok (.i2l, 1) := by decide +kernel
theorem dX12_end_2 : decode cX12_end 2 = .ok (.lconst 0, 1) := by decide +kernel
theorem dX12_end_3 : decode cX12_end 3 = .ok (.aload_n 0, 1) := by decide +kernel
theorem dX12_end_4 : decode cX12_end 4 = .ok (.getfield 76, 3) := by decide +kernel
theorem dX12_end_7 : decode cX12_end 7 = .ok (.i2l, 1) := by decide +kernel
theorem dX12_end_8 : decode cX12_end 8 = .ok (.invokestatic 72, 3) := by decide +kernel
theorem dX12_end_11 : decode cX12_end 11 = .ok (.ifCond .ne 5, 3) := by decide +kernel
theorem dX12_end_14 : decode cX12_end 14 = .ok (.iconst (-1), 1) := by decide +kernel
theorem dX12_end_15 : decode cX12_end 15 = .ok (.ireturn, 1) := by decide +kernel
theorem dX12_end_16 : decode cX12_end 16 = .ok (.aload_n 0, 1) := by decide +kernel
theorem dX12_end_17 : decode cX12_end 17 = .ok (.getfield 76, 3) := by decide +kernel
theorem dX12_end_20 : decode cX12_end 20 = .ok (.istore_n 2, 1) := by decide +kernel
theorem dX12_end_21 : decode cX12_end 21 = .ok (.aload_n 0, 1) := by decide +kernel
theorem dX12_end_22 : decode cX12_end 22 = .ok (.iload_n 1, 1) := by decide +kernel
theorem dX12_end_23 : decode cX12_end 23 = .ok (.putfield 76, 3) := by decide +kernel
theorem dX12_end_26 : decode cX12_end 26 = .ok (.iload_n 2, 1) := by decide +kernel
theorem dX12_end_27 : decode cX12_end 27 = .ok (.ireturn, 1) := by decide +kernel
theorem dX12_byteAt_0 : decode cX12_byteAt 0 = .ok (.iload_n 1, 1) := by decide +kernel
theorem dX12_byteAt_1 : decode cX12_byteAt 1 = .ok (.aload_n 0, 1) := by decide +kernel
theorem dX12_byteAt_2 : decode cX12_byteAt 2 = .ok (.getfield 76, 3) := by decide +kernel
theorem dX12_byteAt_5 : decode cX12_byteAt 5 = .ok (.if_icmp .ge 12, 3) := by decide +kernel
theorem dX12_byteAt_8 : decode cX12_byteAt 8 = .ok (.aload_n 0, 1) := by decide +kernel
theorem dX12_byteAt_9 : decode cX12_byteAt 9 = .ok (.getfield 16, 3) := by decide +kernel
theorem dX12_byteAt_12 : decode cX12_byteAt 12 = .ok (.iload_n 1, 1) := by decide +kernel
theorem dX12_byteAt_13 : decode cX12_byteAt 13 = .ok (.iaload, 1) := by decide +kernel
theorem dX12_byteAt_14 : decode cX12_byteAt 14 = .ok (.goto 5, 3) := by decide +kernel
theorem dX12_byteAt_17 : decode cX12_byteAt 17 = .ok (.bipush (-4), 2) := by decide +kernel
theorem dX12_byteAt_19 : decode cX12_byteAt 19 = .ok (.ireturn, 1) := by decide +kernel
theorem dX12_fails_0 : decode cX12_fails 0 = .ok (.aload_n 0, 1) := by decide +kernel
theorem dX12_fails_1 : decode cX12_fails 1 = .ok (.getfield 80, 3) := by decide +kernel
theorem dX12_fails_4 : decode cX12_fails 4 = .ok (.ifCond .ne 16, 3) := by decide +kernel
theorem dX12_fails_7 : decode cX12_fails 7 = .ok (.aload_n 0, 1) := by decide +kernel
theorem dX12_fails_8 : decode cX12_fails 8 = .ok (.iload_n 1, 1) := by decide +kernel
theorem dX12_fails_9 : decode cX12_fails 9 = .ok (.putfield 80, 3) := by decide +kernel
theorem dX12_fails_12 : decode cX12_fails 12 = .ok (.aload_n 0, 1) := by decide +kernel
theorem dX12_fails_13 : decode cX12_fails 13 = .ok (.aload_n 0, 1) := by decide +kernel
theorem dX12_fails_14 : decode cX12_fails 14 = .ok (.getfield 83, 3) := by decide +kernel
theorem dX12_fails_17 : decode cX12_fails 17 = .ok (.putfield 86, 3) := by decide +kernel
theorem dX12_fails_20 : decode cX12_fails 20 = .ok (.return_, 1) := by decide +kernel
theorem dX12_nameAt_0 : decode cX12_nameAt 0 = .ok (.iconst 0, 1) := by decide +kernel
theorem dX12_nameAt_1 : decode cX12_nameAt 1 = .ok (.istore_n 3, 1) := by decide +kernel
theorem dX12_nameAt_2 : decode cX12_nameAt 2 = .ok (.iload_n 3, 1) := by decide +kernel
theorem dX12_nameAt_3 : decode cX12_nameAt 3 = .ok (.iconst 5, 1) := by decide +kernel
theorem dX12_nameAt_4 : decode cX12_nameAt 4 = .ok (.if_icmp .ge 98, 3) := by decide +kernel
theorem dX12_nameAt_7 : decode cX12_nameAt 7 = .ok (.iload_n 2, 1) := by decide +kernel
theorem dX12_nameAt_8 : decode cX12_nameAt 8 = .ok (.iload_n 1, 1) := by decide +kernel
theorem dX12_nameAt_9 : decode cX12_nameAt 9 = .ok (.isub, 1) := by decide +kernel
theorem dX12_nameAt_10 : decode cX12_nameAt 10 = .ok (.aload_n 0, 1) := by decide +kernel
theorem dX12_nameAt_11 : decode cX12_nameAt 11 = .ok (.getfield 19, 3) := by decide +kernel
theorem dX12_nameAt_14 : decode cX12_nameAt 14 = .ok (.iload_n 3, 1) := by decide +kernel
theorem dX12_nameAt_15 : decode cX12_nameAt 15 = .ok (.iconst 1, 1) := by decide +kernel
theorem dX12_nameAt_16 : decode cX12_nameAt 16 = .ok (.iadd, 1) := by decide +kernel
theorem dX12_nameAt_17 : decode cX12_nameAt 17 = .ok (.iaload, 1) := by decide +kernel
theorem dX12_nameAt_18 : decode cX12_nameAt 18 = .ok (.aload_n 0, 1) := by decide +kernel
theorem dX12_nameAt_19 : decode cX12_nameAt 19 = .ok (.getfield 19, 3) := by decide +kernel
theorem dX12_nameAt_22 : decode cX12_nameAt 22 = .ok (.iload_n 3, 1) := by decide +kernel
theorem dX12_nameAt_23 : decode cX12_nameAt 23 = .ok (.iaload, 1) := by decide +kernel
theorem dX12_nameAt_24 : decode cX12_nameAt 24 = .ok (.isub, 1) := by decide +kernel
theorem dX12_nameAt_25 : decode cX12_nameAt 25 = .ok (.if_icmp .ne 7, 3) := by decide +kernel
theorem dX12_nameAt_28 : decode cX12_nameAt 28 = .ok (.iconst 1, 1) := by decide +kernel
theorem dX12_nameAt_29 : decode cX12_nameAt 29 = .ok (.goto 4, 3) := by decide +kernel
theorem dX12_nameAt_32 : decode cX12_nameAt 32 = .ok (.iconst 0, 1) := by decide +kernel
theorem dX12_nameAt_33 : decode cX12_nameAt 33 = .ok (.istore 4, 2) := by decide +kernel
theorem dX12_nameAt_35 : decode cX12_nameAt 35 = .ok (.iconst 0, 1) := by decide +kernel
theorem dX12_nameAt_36 : decode cX12_nameAt 36 = .ok (.istore 5, 2) := by decide +kernel
theorem dX12_nameAt_38 : decode cX12_nameAt 38 = .ok (.iload 5, 2) := by decide +kernel
theorem dX12_nameAt_40 : decode cX12_nameAt 40 = .ok (.iload_n 2, 1) := by decide +kernel
theorem dX12_nameAt_41 : decode cX12_nameAt 41 = .ok (.iload_n 1, 1) := by decide +kernel
theorem dX12_nameAt_42 : decode cX12_nameAt 42 = .ok (.isub, 1) := by decide +kernel
theorem dX12_nameAt_43 : decode cX12_nameAt 43 = .ok (.if_icmp .ge 46, 3) := by decide +kernel
theorem dX12_nameAt_46 : decode cX12_nameAt 46 = .ok (.iload 4, 2) := by decide +kernel
theorem dX12_nameAt_48 : decode cX12_nameAt 48 = .ok (.ifCond .eq 41, 3) := by decide +kernel
theorem dX12_nameAt_51 : decode cX12_nameAt 51 = .ok (.aload_n 0, 1) := by decide +kernel
theorem dX12_nameAt_52 : decode cX12_nameAt 52 = .ok (.iload_n 1, 1) := by decide +kernel
theorem dX12_nameAt_53 : decode cX12_nameAt 53 = .ok (.iload 5, 2) := by decide +kernel
theorem dX12_nameAt_55 : decode cX12_nameAt 55 = .ok (.iadd, 1) := by decide +kernel
theorem dX12_nameAt_56 : decode cX12_nameAt 56 = .ok (.invokevirtual 89, 3) := by decide +kernel
theorem dX12_nameAt_59 : decode cX12_nameAt 59 = .ok (.aload_n 0, 1) := by decide +kernel
theorem dX12_nameAt_60 : decode cX12_nameAt 60 = .ok (.getfield 22, 3) := by decide +kernel
theorem dX12_nameAt_63 : decode cX12_nameAt 63 = .ok (.aload_n 0, 1) := by decide +kernel
theorem dX12_nameAt_64 : decode cX12_nameAt 64 = .ok (.getfield 19, 3) := by decide +kernel
theorem dX12_nameAt_67 : decode cX12_nameAt 67 = .ok (.iload_n 3, 1) := by decide +kernel
theorem dX12_nameAt_68 : decode cX12_nameAt 68 = .ok (.iaload, 1) := by decide +kernel
theorem dX12_nameAt_69 : decode cX12_nameAt 69 = .ok (.iload 5, 2) := by decide +kernel
theorem dX12_nameAt_71 : decode cX12_nameAt 71 = .ok (.iadd, 1) := by decide +kernel
theorem dX12_nameAt_72 : decode cX12_nameAt 72 = .ok (.iaload, 1) := by decide +kernel
theorem dX12_nameAt_73 : decode cX12_nameAt 73 = .ok (.if_icmp .ne 7, 3) := by decide +kernel
theorem dX12_nameAt_76 : decode cX12_nameAt 76 = .ok (.iconst 1, 1) := by decide +kernel
theorem dX12_nameAt_77 : decode cX12_nameAt 77 = .ok (.goto 4, 3) := by decide +kernel
theorem dX12_nameAt_80 : decode cX12_nameAt 80 = .ok (.iconst 0, 1) := by decide +kernel
theorem dX12_nameAt_81 : decode cX12_nameAt 81 = .ok (.istore 4, 2) := by decide +kernel
theorem dX12_nameAt_83 : decode cX12_nameAt 83 = .ok (.iinc 5 1, 3) := by decide +kernel
theorem dX12_nameAt_86 : decode cX12_nameAt 86 = .ok (.goto (-48), 3) := by decide +kernel
theorem dX12_nameAt_89 : decode cX12_nameAt 89 = .ok (.iload 4, 2) := by decide +kernel
theorem dX12_nameAt_91 : decode cX12_nameAt 91 = .ok (.ifCond .eq 5, 3) := by decide +kernel
theorem dX12_nameAt_94 : decode cX12_nameAt 94 = .ok (.iload_n 3, 1) := by decide +kernel
theorem dX12_nameAt_95 : decode cX12_nameAt 95 = .ok (.ireturn, 1) := by decide +kernel
theorem dX12_nameAt_96 : decode cX12_nameAt 96 = .ok (.iinc 3 1, 3) := by decide +kernel
theorem dX12_nameAt_99 : decode cX12_nameAt 99 = .ok (.goto (-97), 3) := by decide +kernel
theorem dX12_nameAt_102 : decode cX12_nameAt 102 = .ok (.bipush (-4), 2) := by decide +kernel
theorem dX12_nameAt_104 : decode cX12_nameAt 104 = .ok (.ireturn, 1) := by decide +kernel
theorem dX12_next_0 : decode cX12_next 0 = .ok (.aload_n 0, 1) := by decide +kernel
theorem dX12_next_1 : decode cX12_next 1 = .ok (.getfield 80, 3) := by decide +kernel
theorem dX12_next_4 : decode cX12_next 4 = .ok (.ifCond .le 4, 3) := by decide +kernel
theorem dX12_next_7 : decode cX12_next 7 = .ok (.return_, 1) := by decide +kernel
theorem dX12_next_8 : decode cX12_next 8 = .ok (.aload_n 0, 1) := by decide +kernel
theorem dX12_next_9 : decode cX12_next 9 = .ok (.aload_n 0, 1) := by decide +kernel
theorem dX12_next_10 : decode cX12_next 10 = .ok (.getfield 93, 3) := by decide +kernel
theorem dX12_next_13 : decode cX12_next 13 = .ok (.invokevirtual 89, 3) := by decide +kernel
theorem dX12_next_16 : decode cX12_next 16 = .ok (.bipush 32, 2) := by decide +kernel
theorem dX12_next_18 : decode cX12_next 18 = .ok (.if_icmp .ne 16, 3) := by decide +kernel
theorem dX12_next_21 : decode cX12_next 21 = .ok (.aload_n 0, 1) := by decide +kernel
theorem dX12_next_22 : decode cX12_next 22 = .ok (.dup, 1) := by decide +kernel
theorem dX12_next_23 : decode cX12_next 23 = .ok (.getfield 93, 3) := by decide +kernel
theorem dX12_next_26 : decode cX12_next 26 = .ok (.iconst 1, 1) := by decide +kernel
theorem dX12_next_27 : decode cX12_next 27 = .ok (.iadd, 1) := by decide +kernel
theorem dX12_next_28 : decode cX12_next 28 = .ok (.putfield 93, 3) := by decide +kernel
theorem dX12_next_31 : decode cX12_next 31 = .ok (.goto (-23), 3) := by decide +kernel
theorem dX12_next_34 : decode cX12_next 34 = .ok (.aload_n 0, 1) := by decide +kernel
theorem dX12_next_35 : decode cX12_next 35 = .ok (.aload_n 0, 1) := by decide +kernel
theorem dX12_next_36 : decode cX12_next 36 = .ok (.getfield 93, 3) := by decide +kernel
theorem dX12_next_39 : decode cX12_next 39 = .ok (.putfield 83, 3) := by decide +kernel
theorem dX12_next_42 : decode cX12_next 42 = .ok (.aload_n 0, 1) := by decide +kernel
theorem dX12_next_43 : decode cX12_next 43 = .ok (.aload_n 0, 1) := by decide +kernel
theorem dX12_next_44 : decode cX12_next 44 = .ok (.getfield 93, 3) := by decide +kernel
theorem dX12_next_47 : decode cX12_next 47 = .ok (.invokevirtual 89, 3) := by decide +kernel
theorem dX12_next_50 : decode cX12_next 50 = .ok (.istore_n 1, 1) := by decide +kernel
theorem dX12_next_51 : decode cX12_next 51 = .ok (.aload_n 0, 1) := by decide +kernel
theorem dX12_next_52 : decode cX12_next 52 = .ok (.iconst 0, 1) := by decide +kernel
theorem dX12_next_53 : decode cX12_next 53 = .ok (.putfield 96, 3) := by decide +kernel
theorem dX12_next_56 : decode cX12_next 56 = .ok (.iload_n 1, 1) := by decide +kernel
theorem dX12_next_57 : decode cX12_next 57 = .ok (.bipush (-4), 2) := by decide +kernel
theorem dX12_next_59 : decode cX12_next 59 = .ok (.if_icmp .ne 11, 3) := by decide +kernel
theorem dX12_next_62 : decode cX12_next 62 = .ok (.aload_n 0, 1) := by decide +kernel
theorem dX12_next_63 : decode cX12_next 63 = .ok (.iconst 0, 1) := by decide +kernel
theorem dX12_next_64 : decode cX12_next 64 = .ok (.putfield 99, 3) := by decide +kernel
theorem dX12_next_67 : decode cX12_next 67 = .ok (.goto 232, 3) := by decide +kernel
theorem dX12_next_70 : decode cX12_next 70 = .ok (.iload_n 1, 1) := by decide +kernel
theorem dX12_next_71 : decode cX12_next 71 = .ok (.i2l, 1) := by decide +kernel
theorem dX12_next_72 : decode cX12_next 72 = .ok (.ldc2_w 102, 3) := by decide +kernel
theorem dX12_next_75 : decode cX12_next 75 = .ok (.ldc2_w 104, 3) := by decide +kernel
theorem dX12_next_78 : decode cX12_next 78 = .ok (.invokestatic 72, 3) := by decide +kernel
theorem dX12_next_81 : decode cX12_next 81 = .ok (.ifCond .eq 75, 3) := by decide +kernel
theorem dX12_next_84 : decode cX12_next 84 = .ok (.aload_n 0, 1) := by decide +kernel
theorem dX12_next_85 : decode cX12_next 85 = .ok (.aload_n 0, 1) := by decide +kernel
theorem dX12_next_86 : decode cX12_next 86 = .ok (.getfield 93, 3) := by decide +kernel
theorem dX12_next_89 : decode cX12_next 89 = .ok (.invokevirtual 89, 3) := by decide +kernel
theorem dX12_next_92 : decode cX12_next 92 = .ok (.i2l, 1) := by decide +kernel
theorem dX12_next_93 : decode cX12_next 93 = .ok (.ldc2_w 102, 3) := by decide +kernel
theorem dX12_next_96 : decode cX12_next 96 = .ok (.ldc2_w 104, 3) := by decide +kernel
theorem dX12_next_99 : decode cX12_next 99 = .ok (.invokestatic 72, 3) := by decide +kernel
theorem dX12_next_102 : decode cX12_next 102 = .ok (.ifCond .eq 16, 3) := by decide +kernel
theorem dX12_next_105 : decode cX12_next 105 = .ok (.aload_n 0, 1) := by decide +kernel
theorem dX12_next_106 : decode cX12_next 106 = .ok (.dup, 1) := by decide +kernel
theorem dX12_next_107 : decode cX12_next 107 = .ok (.getfield 93, 3) := by decide +kernel
theorem dX12_next_110 : decode cX12_next 110 = .ok (.iconst 1, 1) := by decide +kernel
theorem dX12_next_111 : decode cX12_next 111 = .ok (.iadd, 1) := by decide +kernel
theorem dX12_next_112 : decode cX12_next 112 = .ok (.putfield 93, 3) := by decide +kernel
theorem dX12_next_115 : decode cX12_next 115 = .ok (.goto (-31), 3) := by decide +kernel
theorem dX12_next_118 : decode cX12_next 118 = .ok (.aload_n 0, 1) := by decide +kernel
theorem dX12_next_119 : decode cX12_next 119 = .ok (.iconst 1, 1) := by decide +kernel
theorem dX12_next_120 : decode cX12_next 120 = .ok (.putfield 99, 3) := by decide +kernel
theorem dX12_next_123 : decode cX12_next 123 = .ok (.aload_n 0, 1) := by decide +kernel
theorem dX12_next_124 : decode cX12_next 124 = .ok (.aload_n 0, 1) := by decide +kernel
theorem dX12_next_125 : decode cX12_next 125 = .ok (.aload_n 0, 1) := by decide +kernel
theorem dX12_next_126 : decode cX12_next 126 = .ok (.getfield 83, 3) := by decide +kernel
theorem dX12_next_129 : decode cX12_next 129 = .ok (.aload_n 0, 1) := by decide +kernel
theorem dX12_next_130 : decode cX12_next 130 = .ok (.getfield 93, 3) := by decide +kernel
theorem dX12_next_133 : decode cX12_next 133 = .ok (.invokevirtual 106, 3) := by decide +kernel
theorem dX12_next_136 : decode cX12_next 136 = .ok (.putfield 96, 3) := by decide +kernel
theorem dX12_next_139 : decode cX12_next 139 = .ok (.aload_n 0, 1) := by decide +kernel
theorem dX12_next_140 : decode cX12_next 140 = .ok (.getfield 96, 3) := by decide +kernel
theorem dX12_next_143 : decode cX12_next 143 = .ok (.bipush (-4), 2) := by decide +kernel
theorem dX12_next_145 : decode cX12_next 145 = .ok (.if_icmp .ne 154, 3) := by decide +kernel
theorem dX12_next_148 : decode cX12_next 148 = .ok (.aload_n 0, 1) := by decide +kernel
theorem dX12_next_149 : decode cX12_next 149 = .ok (.iconst 1, 1) := by decide +kernel
theorem dX12_next_150 : decode cX12_next 150 = .ok (.invokevirtual 110, 3) := by decide +kernel
theorem dX12_next_153 : decode cX12_next 153 = .ok (.goto 146, 3) := by decide +kernel
theorem dX12_next_156 : decode cX12_next 156 = .ok (.iload_n 1, 1) := by decide +kernel
theorem dX12_next_157 : decode cX12_next 157 = .ok (.i2l, 1) := by decide +kernel
theorem dX12_next_158 : decode cX12_next 158 = .ok (.ldc2_w 114, 3) := by decide +kernel
theorem dX12_next_161 : decode cX12_next 161 = .ok (.ldc2_w 116, 3) := by decide +kernel
theorem dX12_next_164 : decode cX12_next 164 = .ok (.invokestatic 72, 3) := by decide +kernel
theorem dX12_next_167 : decode cX12_next 167 = .ok (.ifCond .eq 106, 3) := by decide +kernel
theorem dX12_next_170 : decode cX12_next 170 = .ok (.aload_n 0, 1) := by decide +kernel
theorem dX12_next_171 : decode cX12_next 171 = .ok (.aload_n 0, 1) := by decide +kernel
theorem dX12_next_172 : decode cX12_next 172 = .ok (.getfield 93, 3) := by decide +kernel
theorem dX12_next_175 : decode cX12_next 175 = .ok (.invokevirtual 89, 3) := by decide +kernel
theorem dX12_next_178 : decode cX12_next 178 = .ok (.i2l, 1) := by decide +kernel
theorem dX12_next_179 : decode cX12_next 179 = .ok (.ldc2_w 114, 3) := by decide +kernel
theorem dX12_next_182 : decode cX12_next 182 = .ok (.ldc2_w 116, 3) := by decide +kernel
theorem dX12_next_185 : decode cX12_next 185 = .ok (.invokestatic 72, 3) := by decide +kernel
theorem dX12_next_188 : decode cX12_next 188 = .ok (.ifCond .eq 59, 3) := by decide +kernel
theorem dX12_next_191 : decode cX12_next 191 = .ok (.aload_n 0, 1) := by decide +kernel
theorem dX12_next_192 : decode cX12_next 192 = .ok (.aload_n 0, 1) := by decide +kernel
theorem dX12_next_193 : decode cX12_next 193 = .ok (.getfield 93, 3) := by decide +kernel
theorem dX12_next_196 : decode cX12_next 196 = .ok (.aload_n 0, 1) := by decide +kernel
theorem dX12_next_197 : decode cX12_next 197 = .ok (.getfield 83, 3) := by decide +kernel
theorem dX12_next_200 : decode cX12_next 200 = .ok (.isub, 1) := by decide +kernel
theorem dX12_next_201 : decode cX12_next 201 = .ok (.iconst 2, 1) := by decide +kernel
theorem dX12_next_202 : decode cX12_next 202 = .ok (.if_icmp .ge 25, 3) := by decide +kernel
theorem dX12_next_205 : decode cX12_next 205 = .ok (.bipush 10, 2) := by decide +kernel
theorem dX12_next_207 : decode cX12_next 207 = .ok (.aload_n 0, 1) := by decide +kernel
theorem dX12_next_208 : decode cX12_next 208 = .ok (.getfield 96, 3) := by decide +kernel
theorem dX12_next_211 : decode cX12_next 211 = .ok (.imul, 1) := by decide +kernel
theorem dX12_next_212 : decode cX12_next 212 = .ok (.aload_n 0, 1) := by decide +kernel
theorem dX12_next_213 : decode cX12_next 213 = .ok (.aload_n 0, 1) := by decide +kernel
theorem dX12_next_214 : decode cX12_next 214 = .ok (.getfield 93, 3) := by decide +kernel
theorem dX12_next_217 : decode cX12_next 217 = .ok (.invokevirtual 89, 3) := by decide +kernel
theorem dX12_next_220 : decode cX12_next 220 = .ok (.iadd, 1) := by decide +kernel
theorem dX12_next_221 : decode cX12_next 221 = .ok (.bipush 48, 2) := by decide +kernel
theorem dX12_next_223 : decode cX12_next 223 = .ok (.isub, 1) := by decide +kernel
theorem dX12_next_224 : decode cX12_next 224 = .ok (.goto 7, 3) := by decide +kernel
theorem dX12_next_227 : decode cX12_next 227 = .ok (.aload_n 0, 1) := by decide +kernel
theorem dX12_next_228 : decode cX12_next 228 = .ok (.getfield 96, 3) := by decide +kernel
theorem dX12_next_231 : decode cX12_next 231 = .ok (.putfield 96, 3) := by decide +kernel
theorem dX12_next_234 : decode cX12_next 234 = .ok (.aload_n 0, 1) := by decide +kernel
theorem dX12_next_235 : decode cX12_next 235 = .ok (.dup, 1) := by decide +kernel
theorem dX12_next_236 : decode cX12_next 236 = .ok (.getfield 93, 3) := by decide +kernel
theorem dX12_next_239 : decode cX12_next 239 = .ok (.iconst 1, 1) := by decide +kernel
theorem dX12_next_240 : decode cX12_next 240 = .ok (.iadd, 1) := by decide +kernel
theorem dX12_next_241 : decode cX12_next 241 = .ok (.putfield 93, 3) := by decide +kernel
theorem dX12_next_244 : decode cX12_next 244 = .ok (.goto (-74), 3) := by decide +kernel
theorem dX12_next_247 : decode cX12_next 247 = .ok (.aload_n 0, 1) := by decide +kernel
theorem dX12_next_248 : decode cX12_next 248 = .ok (.iconst 2, 1) := by decide +kernel
theorem dX12_next_249 : decode cX12_next 249 = .ok (.putfield 99, 3) := by decide +kernel
theorem dX12_next_252 : decode cX12_next 252 = .ok (.aload_n 0, 1) := by decide +kernel
theorem dX12_next_253 : decode cX12_next 253 = .ok (.getfield 93, 3) := by decide +kernel
theorem dX12_next_256 : decode cX12_next 256 = .ok (.aload_n 0, 1) := by decide +kernel
theorem dX12_next_257 : decode cX12_next 257 = .ok (.getfield 83, 3) := by decide +kernel
theorem dX12_next_260 : decode cX12_next 260 = .ok (.isub, 1) := by decide +kernel
theorem dX12_next_261 : decode cX12_next 261 = .ok (.iconst 2, 1) := by decide +kernel
theorem dX12_next_262 : decode cX12_next 262 = .ok (.if_icmp .le 37, 3) := by decide +kernel
theorem dX12_next_265 : decode cX12_next 265 = .ok (.aload_n 0, 1) := by decide +kernel
theorem dX12_next_266 : decode cX12_next 266 = .ok (.iconst 1, 1) := by decide +kernel
theorem dX12_next_267 : decode cX12_next 267 = .ok (.invokevirtual 110, 3) := by decide +kernel
theorem dX12_next_270 : decode cX12_next 270 = .ok (.goto 29, 3) := by decide +kernel
theorem dX12_next_273 : decode cX12_next 273 = .ok (.aload_n 0, 1) := by decide +kernel
theorem dX12_next_274 : decode cX12_next 274 = .ok (.iconst 3, 1) := by decide +kernel
theorem dX12_next_275 : decode cX12_next 275 = .ok (.putfield 99, 3) := by decide +kernel
theorem dX12_next_278 : decode cX12_next 278 = .ok (.aload_n 0, 1) := by decide +kernel
theorem dX12_next_279 : decode cX12_next 279 = .ok (.dup, 1) := by decide +kernel
theorem dX12_next_280 : decode cX12_next 280 = .ok (.getfield 93, 3) := by decide +kernel
theorem dX12_next_283 : decode cX12_next 283 = .ok (.iconst 1, 1) := by decide +kernel
theorem dX12_next_284 : decode cX12_next 284 = .ok (.iadd, 1) := by decide +kernel
theorem dX12_next_285 : decode cX12_next 285 = .ok (.putfield 93, 3) := by decide +kernel
theorem dX12_next_288 : decode cX12_next 288 = .ok (.iload_n 1, 1) := by decide +kernel
theorem dX12_next_289 : decode cX12_next 289 = .ok (.bipush 59, 2) := by decide +kernel
theorem dX12_next_291 : decode cX12_next 291 = .ok (.if_icmp .eq 8, 3) := by decide +kernel
theorem dX12_next_294 : decode cX12_next 294 = .ok (.aload_n 0, 1) := by decide +kernel
theorem dX12_next_295 : decode cX12_next 295 = .ok (.iconst 1, 1) := by decide +kernel
theorem dX12_next_296 : decode cX12_next 296 = .ok (.invokevirtual 110, 3) := by decide +kernel
theorem dX12_next_299 : decode cX12_next 299 = .ok (.return_, 1) := by decide +kernel
theorem dX12_number_0 : decode cX12_number 0 = .ok (.aload_n 0, 1) := by decide +kernel
theorem dX12_number_1 : decode cX12_number 1 = .ok (.getfield 80, 3) := by decide +kernel
theorem dX12_number_4 : decode cX12_number 4 = .ok (.ifCond .ne 16, 3) := by decide +kernel
theorem dX12_number_7 : decode cX12_number 7 = .ok (.aload_n 0, 1) := by decide +kernel
theorem dX12_number_8 : decode cX12_number 8 = .ok (.getfield 99, 3) := by decide +kernel
theorem dX12_number_11 : decode cX12_number 11 = .ok (.iconst 2, 1) := by decide +kernel
theorem dX12_number_12 : decode cX12_number 12 = .ok (.if_icmp .eq 8, 3) := by decide +kernel
theorem dX12_number_15 : decode cX12_number 15 = .ok (.aload_n 0, 1) := by decide +kernel
theorem dX12_number_16 : decode cX12_number 16 = .ok (.iconst 2, 1) := by decide +kernel
theorem dX12_number_17 : decode cX12_number 17 = .ok (.invokevirtual 110, 3) := by decide +kernel
theorem dX12_number_20 : decode cX12_number 20 = .ok (.aload_n 0, 1) := by decide +kernel
theorem dX12_number_21 : decode cX12_number 21 = .ok (.getfield 80, 3) := by decide +kernel
theorem dX12_number_24 : decode cX12_number 24 = .ok (.ifCond .ne 23, 3) := by decide +kernel
theorem dX12_number_27 : decode cX12_number 27 = .ok (.aload_n 0, 1) := by decide +kernel
theorem dX12_number_28 : decode cX12_number 28 = .ok (.getfield 96, 3) := by decide +kernel
theorem dX12_number_31 : decode cX12_number 31 = .ok (.i2l, 1) := by decide +kernel
theorem dX12_number_32 : decode cX12_number 32 = .ok (.iload_n 1, 1) := by decide +kernel
theorem dX12_number_33 : decode cX12_number 33 = .ok (.i2l, 1) := by decide +kernel
theorem dX12_number_34 : decode cX12_number 34 = .ok (.iload_n 2, 1) := by decide +kernel
theorem dX12_number_35 : decode cX12_number 35 = .ok (.i2l, 1) := by decide +kernel
theorem dX12_number_36 : decode cX12_number 36 = .ok (.invokestatic 72, 3) := by decide +kernel
theorem dX12_number_39 : decode cX12_number 39 = .ok (.ifCond .ne 8, 3) := by decide +kernel
theorem dX12_number_42 : decode cX12_number 42 = .ok (.aload_n 0, 1) := by decide +kernel
theorem dX12_number_43 : decode cX12_number 43 = .ok (.iconst 3, 1) := by decide +kernel
theorem dX12_number_44 : decode cX12_number 44 = .ok (.invokevirtual 110, 3) := by decide +kernel
theorem dX12_number_47 : decode cX12_number 47 = .ok (.aload_n 0, 1) := by decide +kernel
theorem dX12_number_48 : decode cX12_number 48 = .ok (.getfield 96, 3) := by decide +kernel
theorem dX12_number_51 : decode cX12_number 51 = .ok (.istore_n 3, 1) := by decide +kernel
theorem dX12_number_52 : decode cX12_number 52 = .ok (.aload_n 0, 1) := by decide +kernel
theorem dX12_number_53 : decode cX12_number 53 = .ok (.invokevirtual 118, 3) := by decide +kernel
theorem dX12_number_56 : decode cX12_number 56 = .ok (.iload_n 3, 1) := by decide +kernel
theorem dX12_number_57 : decode cX12_number 57 = .ok (.ireturn, 1) := by decide +kernel
theorem dX12_oneLine_0 : decode cX12_oneLine 0 = .ok (.aload_n 0, 1) := by decide +kernel
theorem dX12_oneLine_1 : decode cX12_oneLine 1 = .ok (.getfield 96, 3) := by decide +kernel
theorem dX12_oneLine_4 : decode cX12_oneLine 4 = .ok (.istore_n 1, 1) := by decide +kernel
theorem dX12_oneLine_5 : decode cX12_oneLine 5 = .ok (.aload_n 0, 1) := by decide +kernel
theorem dX12_oneLine_6 : decode cX12_oneLine 6 = .ok (.getfield 99, 3) := by decide +kernel
theorem dX12_oneLine_9 : decode cX12_oneLine 9 = .ok (.iconst 1, 1) := by decide +kernel
theorem dX12_oneLine_10 : decode cX12_oneLine 10 = .ok (.if_icmp .eq 11, 3) := by decide +kernel
theorem dX12_oneLine_13 : decode cX12_oneLine 13 = .ok (.aload_n 0, 1) := by decide +kernel
theorem dX12_oneLine_14 : decode cX12_oneLine 14 = .ok (.iconst 2, 1) := by decide +kernel
theorem dX12_oneLine_15 : decode cX12_oneLine 15 = .ok (.invokevirtual 110, 3) := by decide +kernel
theorem dX12_oneLine_18 : decode cX12_oneLine 18 = .ok (.goto 40, 3) := by decide +kernel
theorem dX12_oneLine_21 : decode cX12_oneLine 21 = .ok (.iload_n 1, 1) := by decide +kernel
theorem dX12_oneLine_22 : decode cX12_oneLine 22 = .ok (.iconst 1, 1) := by decide +kernel
theorem dX12_oneLine_23 : decode cX12_oneLine 23 = .ok (.if_icmp .ne 7, 3) := by decide +kernel
theorem dX12_oneLine_26 : decode cX12_oneLine 26 = .ok (.iconst 1, 1) := by decide +kernel
theorem dX12_oneLine_27 : decode cX12_oneLine 27 = .ok (.goto 6, 3) := by decide +kernel
theorem dX12_oneLine_30 : decode cX12_oneLine 30 = .ok (.iconst 1, 1) := by decide +kernel
theorem dX12_oneLine_31 : decode cX12_oneLine 31 = .ok (.iload_n 1, 1) := by decide +kernel
theorem dX12_oneLine_32 : decode cX12_oneLine 32 = .ok (.ishl, 1) := by decide +kernel
theorem dX12_oneLine_33 : decode cX12_oneLine 33 = .ok (.istore_n 2, 1) := by decide +kernel
theorem dX12_oneLine_34 : decode cX12_oneLine 34 = .ok (.aload_n 0, 1) := by decide +kernel
theorem dX12_oneLine_35 : decode cX12_oneLine 35 = .ok (.getfield 121, 3) := by decide +kernel
theorem dX12_oneLine_38 : decode cX12_oneLine 38 = .ok (.iload_n 2, 1) := by decide +kernel
theorem dX12_oneLine_39 : decode cX12_oneLine 39 = .ok (.iand, 1) := by decide +kernel
theorem dX12_oneLine_40 : decode cX12_oneLine 40 = .ok (.ifCond .eq 8, 3) := by decide +kernel
theorem dX12_oneLine_43 : decode cX12_oneLine 43 = .ok (.aload_n 0, 1) := by decide +kernel
theorem dX12_oneLine_44 : decode cX12_oneLine 44 = .ok (.iconst 4, 1) := by decide +kernel
theorem dX12_oneLine_45 : decode cX12_oneLine 45 = .ok (.invokevirtual 110, 3) := by decide +kernel
theorem dX12_oneLine_48 : decode cX12_oneLine 48 = .ok (.aload_n 0, 1) := by decide +kernel
theorem dX12_oneLine_49 : decode cX12_oneLine 49 = .ok (.dup, 1) := by decide +kernel
theorem dX12_oneLine_50 : decode cX12_oneLine 50 = .ok (.getfield 121, 3) := by decide +kernel
theorem dX12_oneLine_53 : decode cX12_oneLine 53 = .ok (.iload_n 2, 1) := by decide +kernel
theorem dX12_oneLine_54 : decode cX12_oneLine 54 = .ok (.ior, 1) := by decide +kernel
theorem dX12_oneLine_55 : decode cX12_oneLine 55 = .ok (.putfield 121, 3) := by decide +kernel
theorem dX12_oneLine_58 : decode cX12_oneLine 58 = .ok (.aload_n 0, 1) := by decide +kernel
theorem dX12_oneLine_59 : decode cX12_oneLine 59 = .ok (.getfield 80, 3) := by decide +kernel
theorem dX12_oneLine_62 : decode cX12_oneLine 62 = .ok (.ifCond .le 4, 3) := by decide +kernel
theorem dX12_oneLine_65 : decode cX12_oneLine 65 = .ok (.return_, 1) := by decide +kernel
theorem dX12_oneLine_66 : decode cX12_oneLine 66 = .ok (.aload_n 0, 1) := by decide +kernel
theorem dX12_oneLine_67 : decode cX12_oneLine 67 = .ok (.invokevirtual 118, 3) := by decide +kernel
theorem dX12_oneLine_70 : decode cX12_oneLine 70 = .ok (.iload_n 1, 1) := by decide +kernel
theorem dX12_oneLine_71 : decode cX12_oneLine 71 = .ok (.iconst 1, 1) := by decide +kernel
theorem dX12_oneLine_72 : decode cX12_oneLine 72 = .ok (.if_icmp .gt 34, 3) := by decide +kernel
theorem dX12_oneLine_75 : decode cX12_oneLine 75 = .ok (.aload_n 0, 1) := by decide +kernel
theorem dX12_oneLine_76 : decode cX12_oneLine 76 = .ok (.getfield 13, 3) := by decide +kernel
theorem dX12_oneLine_79 : decode cX12_oneLine 79 = .ok (.iconst 0, 1) := by decide +kernel
theorem dX12_oneLine_80 : decode cX12_oneLine 80 = .ok (.aload_n 0, 1) := by decide +kernel
theorem dX12_oneLine_81 : decode cX12_oneLine 81 = .ok (.iload_n 1, 1) := by decide +kernel
theorem dX12_oneLine_82 : decode cX12_oneLine 82 = .ok (.ifCond .ne 7, 3) := by decide +kernel
theorem dX12_oneLine_85 : decode cX12_oneLine 85 = .ok (.iconst 2, 1) := by decide +kernel
theorem dX12_oneLine_86 : decode cX12_oneLine 86 = .ok (.goto 4, 3) := by decide +kernel
theorem dX12_oneLine_89 : decode cX12_oneLine 89 = .ok (.iconst 1, 1) := by decide +kernel
theorem dX12_oneLine_90 : decode cX12_oneLine 90 = .ok (.bipush 6, 2) := by decide +kernel
theorem dX12_oneLine_92 : decode cX12_oneLine 92 = .ok (.invokevirtual 124, 3) := by decide +kernel
theorem dX12_oneLine_95 : decode cX12_oneLine 95 = .ok (.iastore, 1) := by decide +kernel
theorem dX12_oneLine_96 : decode cX12_oneLine 96 = .ok (.aload_n 0, 1) := by decide +kernel
theorem dX12_oneLine_97 : decode cX12_oneLine 97 = .ok (.getfield 13, 3) := by decide +kernel
theorem dX12_oneLine_100 : decode cX12_oneLine 100 = .ok (.iconst 1, 1) := by decide +kernel
theorem dX12_oneLine_101 : decode cX12_oneLine 101 = .ok (.iload_n 1, 1) := by decide +kernel
theorem dX12_oneLine_102 : decode cX12_oneLine 102 = .ok (.iastore, 1) := by decide +kernel
theorem dX12_oneLine_103 : decode cX12_oneLine 103 = .ok (.goto 52, 3) := by decide +kernel
theorem dX12_oneLine_106 : decode cX12_oneLine 106 = .ok (.iload_n 1, 1) := by decide +kernel
theorem dX12_oneLine_107 : decode cX12_oneLine 107 = .ok (.iconst 2, 1) := by decide +kernel
theorem dX12_oneLine_108 : decode cX12_oneLine 108 = .ok (.if_icmp .ne 7, 3) := by decide +kernel
theorem dX12_oneLine_111 : decode cX12_oneLine 111 = .ok (.iconst 2, 1) := by decide +kernel
theorem dX12_oneLine_112 : decode cX12_oneLine 112 = .ok (.goto 14, 3) := by decide +kernel
theorem dX12_oneLine_115 : decode cX12_oneLine 115 = .ok (.iload_n 1, 1) := by decide +kernel
theorem dX12_oneLine_116 : decode cX12_oneLine 116 = .ok (.iconst 3, 1) := by decide +kernel
theorem dX12_oneLine_117 : decode cX12_oneLine 117 = .ok (.if_icmp .ne 7, 3) := by decide +kernel
theorem dX12_oneLine_120 : decode cX12_oneLine 120 = .ok (.iconst 4, 1) := by decide +kernel
theorem dX12_oneLine_121 : decode cX12_oneLine 121 = .ok (.goto 5, 3) := by decide +kernel
theorem dX12_oneLine_124 : decode cX12_oneLine 124 = .ok (.bipush 6, 2) := by decide +kernel
theorem dX12_oneLine_126 : decode cX12_oneLine 126 = .ok (.istore_n 2, 1) := by decide +kernel
theorem dX12_oneLine_127 : decode cX12_oneLine 127 = .ok (.aload_n 0, 1) := by decide +kernel
theorem dX12_oneLine_128 : decode cX12_oneLine 128 = .ok (.getfield 13, 3) := by decide +kernel
theorem dX12_oneLine_131 : decode cX12_oneLine 131 = .ok (.iload_n 2, 1) := by decide +kernel
theorem dX12_oneLine_132 : decode cX12_oneLine 132 = .ok (.aload_n 0, 1) := by decide +kernel
theorem dX12_oneLine_133 : decode cX12_oneLine 133 = .ok (.iconst 0, 1) := by decide +kernel
theorem dX12_oneLine_134 : decode cX12_oneLine 134 = .ok (.bipush 9, 2) := by decide +kernel
theorem dX12_oneLine_136 : decode cX12_oneLine 136 = .ok (.invokevirtual 124, 3) := by decide +kernel
theorem dX12_oneLine_139 : decode cX12_oneLine 139 = .ok (.iastore, 1) := by decide +kernel
theorem dX12_oneLine_140 : decode cX12_oneLine 140 = .ok (.aload_n 0, 1) := by decide +kernel
theorem dX12_oneLine_141 : decode cX12_oneLine 141 = .ok (.getfield 13, 3) := by decide +kernel
theorem dX12_oneLine_144 : decode cX12_oneLine 144 = .ok (.iload_n 2, 1) := by decide +kernel
theorem dX12_oneLine_145 : decode cX12_oneLine 145 = .ok (.iconst 1, 1) := by decide +kernel
theorem dX12_oneLine_146 : decode cX12_oneLine 146 = .ok (.iadd, 1) := by decide +kernel
theorem dX12_oneLine_147 : decode cX12_oneLine 147 = .ok (.aload_n 0, 1) := by decide +kernel
theorem dX12_oneLine_148 : decode cX12_oneLine 148 = .ok (.iconst 0, 1) := by decide +kernel
theorem dX12_oneLine_149 : decode cX12_oneLine 149 = .ok (.bipush 9, 2) := by decide +kernel
theorem dX12_oneLine_151 : decode cX12_oneLine 151 = .ok (.invokevirtual 124, 3) := by decide +kernel
theorem dX12_oneLine_154 : decode cX12_oneLine 154 = .ok (.iastore, 1) := by decide +kernel
theorem dX12_oneLine_155 : decode cX12_oneLine 155 = .ok (.aload_n 0, 1) := by decide +kernel
theorem dX12_oneLine_156 : decode cX12_oneLine 156 = .ok (.getfield 80, 3) := by decide +kernel
theorem dX12_oneLine_159 : decode cX12_oneLine 159 = .ok (.ifCond .ne 16, 3) := by decide +kernel
theorem dX12_oneLine_162 : decode cX12_oneLine 162 = .ok (.aload_n 0, 1) := by decide +kernel
theorem dX12_oneLine_163 : decode cX12_oneLine 163 = .ok (.getfield 99, 3) := by decide +kernel
theorem dX12_oneLine_166 : decode cX12_oneLine 166 = .ok (.iconst 3, 1) := by decide +kernel
theorem dX12_oneLine_167 : decode cX12_oneLine 167 = .ok (.if_icmp .eq 8, 3) := by decide +kernel
theorem dX12_oneLine_170 : decode cX12_oneLine 170 = .ok (.aload_n 0, 1) := by decide +kernel
theorem dX12_oneLine_171 : decode cX12_oneLine 171 = .ok (.iconst 2, 1) := by decide +kernel
theorem dX12_oneLine_172 : decode cX12_oneLine 172 = .ok (.invokevirtual 110, 3) := by decide +kernel
theorem dX12_oneLine_175 : decode cX12_oneLine 175 = .ok (.aload_n 0, 1) := by decide +kernel
theorem dX12_oneLine_176 : decode cX12_oneLine 176 = .ok (.invokevirtual 118, 3) := by decide +kernel
theorem dX12_oneLine_179 : decode cX12_oneLine 179 = .ok (.return_, 1) := by decide +kernel
theorem dX12_text_0 : decode cX12_text 0 = .ok (.aload_n 0, 1) := by decide +kernel
theorem dX12_text_1 : decode cX12_text 1 = .ok (.iconst 0, 1) := by decide +kernel
theorem dX12_text_2 : decode cX12_text 2 = .ok (.putfield 80, 3) := by decide +kernel
theorem dX12_text_5 : decode cX12_text 5 = .ok (.aload_n 0, 1) := by decide +kernel
theorem dX12_text_6 : decode cX12_text 6 = .ok (.iconst 0, 1) := by decide +kernel
theorem dX12_text_7 : decode cX12_text 7 = .ok (.putfield 93, 3) := by decide +kernel
theorem dX12_text_10 : decode cX12_text 10 = .ok (.aload_n 0, 1) := by decide +kernel
theorem dX12_text_11 : decode cX12_text 11 = .ok (.iconst 0, 1) := by decide +kernel
theorem dX12_text_12 : decode cX12_text 12 = .ok (.putfield 121, 3) := by decide +kernel
theorem dX12_text_15 : decode cX12_text 15 = .ok (.iconst 0, 1) := by decide +kernel
theorem dX12_text_16 : decode cX12_text 16 = .ok (.istore_n 1, 1) := by decide +kernel
theorem dX12_text_17 : decode cX12_text 17 = .ok (.iconst 0, 1) := by decide +kernel
theorem dX12_text_18 : decode cX12_text 18 = .ok (.istore_n 2, 1) := by decide +kernel
theorem dX12_text_19 : decode cX12_text 19 = .ok (.iload_n 2, 1) := by decide +kernel
theorem dX12_text_20 : decode cX12_text 20 = .ok (.bipush 8, 2) := by decide +kernel
theorem dX12_text_22 : decode cX12_text 22 = .ok (.if_icmp .ge 34, 3) := by decide +kernel
theorem dX12_text_25 : decode cX12_text 25 = .ok (.aload_n 0, 1) := by decide +kernel
theorem dX12_text_26 : decode cX12_text 26 = .ok (.getfield 13, 3) := by decide +kernel
theorem dX12_text_29 : decode cX12_text 29 = .ok (.iload_n 2, 1) := by decide +kernel
theorem dX12_text_30 : decode cX12_text 30 = .ok (.iload_n 2, 1) := by decide +kernel
theorem dX12_text_31 : decode cX12_text 31 = .ok (.ifCond .ne 7, 3) := by decide +kernel
theorem dX12_text_34 : decode cX12_text 34 = .ok (.iconst 4, 1) := by decide +kernel
theorem dX12_text_35 : decode cX12_text 35 = .ok (.goto 14, 3) := by decide +kernel
theorem dX12_text_38 : decode cX12_text 38 = .ok (.iload_n 2, 1) := by decide +kernel
theorem dX12_text_39 : decode cX12_text 39 = .ok (.iconst 2, 1) := by decide +kernel
theorem dX12_text_40 : decode cX12_text 40 = .ok (.irem, 1) := by decide +kernel
theorem dX12_text_41 : decode cX12_text 41 = .ok (.ifCond .ne 7, 3) := by decide +kernel
theorem dX12_text_44 : decode cX12_text 44 = .ok (.iconst 1, 1) := by decide +kernel
theorem dX12_text_45 : decode cX12_text 45 = .ok (.goto 4, 3) := by decide +kernel
theorem dX12_text_48 : decode cX12_text 48 = .ok (.iconst 0, 1) := by decide +kernel
theorem dX12_text_49 : decode cX12_text 49 = .ok (.iastore, 1) := by decide +kernel
theorem dX12_text_50 : decode cX12_text 50 = .ok (.iinc 2 1, 3) := by decide +kernel
theorem dX12_text_53 : decode cX12_text 53 = .ok (.goto (-34), 3) := by decide +kernel
theorem dX12_text_56 : decode cX12_text 56 = .ok (.aload_n 0, 1) := by decide +kernel
theorem dX12_text_57 : decode cX12_text 57 = .ok (.invokevirtual 118, 3) := by decide +kernel
theorem dX12_text_60 : decode cX12_text 60 = .ok (.aload_n 0, 1) := by decide +kernel
theorem dX12_text_61 : decode cX12_text 61 = .ok (.getfield 80, 3) := by decide +kernel
theorem dX12_text_64 : decode cX12_text 64 = .ok (.ifCond .ne 20, 3) := by decide +kernel
theorem dX12_text_67 : decode cX12_text 67 = .ok (.aload_n 0, 1) := by decide +kernel
theorem dX12_text_68 : decode cX12_text 68 = .ok (.getfield 99, 3) := by decide +kernel
theorem dX12_text_71 : decode cX12_text 71 = .ok (.ifCond .eq 13, 3) := by decide +kernel
theorem dX12_text_74 : decode cX12_text 74 = .ok (.aload_n 0, 1) := by decide +kernel
theorem dX12_text_75 : decode cX12_text 75 = .ok (.invokevirtual 127, 3) := by decide +kernel
theorem dX12_text_78 : decode cX12_text 78 = .ok (.iinc 1 1, 3) := by decide +kernel
theorem dX12_text_81 : decode cX12_text 81 = .ok (.goto (-21), 3) := by decide +kernel
theorem dX12_text_84 : decode cX12_text 84 = .ok (.aload_n 0, 1) := by decide +kernel
theorem dX12_text_85 : decode cX12_text 85 = .ok (.iconst 0, 1) := by decide +kernel
theorem dX12_text_86 : decode cX12_text 86 = .ok (.putfield 76, 3) := by decide +kernel
theorem dX12_text_89 : decode cX12_text 89 = .ok (.aload_n 0, 1) := by decide +kernel
theorem dX12_text_90 : decode cX12_text 90 = .ok (.aload_n 0, 1) := by decide +kernel
theorem dX12_text_91 : decode cX12_text 91 = .ok (.getfield 80, 3) := by decide +kernel
theorem dX12_text_94 : decode cX12_text 94 = .ok (.putfield 130, 3) := by decide +kernel
theorem dX12_text_97 : decode cX12_text 97 = .ok (.aload_n 0, 1) := by decide +kernel
theorem dX12_text_98 : decode cX12_text 98 = .ok (.getfield 80, 3) := by decide +kernel
theorem dX12_text_101 : decode cX12_text 101 = .ok (.ifCond .le 11, 3) := by decide +kernel
theorem dX12_text_104 : decode cX12_text 104 = .ok (.bipush (-10), 2) := by decide +kernel
theorem dX12_text_106 : decode cX12_text 106 = .ok (.aload_n 0, 1) := by decide +kernel
theorem dX12_text_107 : decode cX12_text 107 = .ok (.getfield 86, 3) := by decide +kernel
theorem dX12_text_110 : decode cX12_text 110 = .ok (.isub, 1) := by decide +kernel
theorem dX12_text_111 : decode cX12_text 111 = .ok (.ireturn, 1) := by decide +kernel
theorem dX12_text_112 : decode cX12_text 112 = .ok (.iconst 0, 1) := by decide +kernel
theorem dX12_text_113 : decode cX12_text 113 = .ok (.istore_n 2, 1) := by decide +kernel
theorem dX12_text_114 : decode cX12_text 114 = .ok (.iload_n 2, 1) := by decide +kernel
theorem dX12_text_115 : decode cX12_text 115 = .ok (.bipush 8, 2) := by decide +kernel
theorem dX12_text_117 : decode cX12_text 117 = .ok (.if_icmp .ge 21, 3) := by decide +kernel
theorem dX12_text_120 : decode cX12_text 120 = .ok (.aload_n 0, 1) := by decide +kernel
theorem dX12_text_121 : decode cX12_text 121 = .ok (.getfield 7, 3) := by decide +kernel
theorem dX12_text_124 : decode cX12_text 124 = .ok (.iload_n 2, 1) := by decide +kernel
theorem dX12_text_125 : decode cX12_text 125 = .ok (.aload_n 0, 1) := by decide +kernel
theorem dX12_text_126 : decode cX12_text 126 = .ok (.getfield 13, 3) := by decide +kernel
theorem dX12_text_129 : decode cX12_text 129 = .ok (.iload_n 2, 1) := by decide +kernel
theorem dX12_text_130 : decode cX12_text 130 = .ok (.iaload, 1) := by decide +kernel
theorem dX12_text_131 : decode cX12_text 131 = .ok (.iastore, 1) := by decide +kernel
theorem dX12_text_132 : decode cX12_text 132 = .ok (.iinc 2 1, 3) := by decide +kernel
theorem dX12_text_135 : decode cX12_text 135 = .ok (.goto (-21), 3) := by decide +kernel
theorem dX12_text_138 : decode cX12_text 138 = .ok (.iload_n 1, 1) := by decide +kernel
theorem dX12_text_139 : decode cX12_text 139 = .ok (.ireturn, 1) := by decide +kernel
theorem dX12_fault_0 : decode cX12_fault 0 = .ok (.aload_n 0, 1) := by decide +kernel
theorem dX12_fault_1 : decode cX12_fault 1 = .ok (.getfield 130, 3) := by decide +kernel
theorem dX12_fault_4 : decode cX12_fault 4 = .ok (.ireturn, 1) := by decide +kernel
theorem dX12_told_0 : decode cX12_told 0 = .ok (.iload_n 1, 1) := by decide +kernel
theorem dX12_told_1 : decode cX12_told 1 = .ok (.i2l, 1) := by decide +kernel
theorem dX12_told_2 : decode cX12_told 2 = .ok (.lconst 0, 1) := by decide +kernel
theorem dX12_told_3 : decode cX12_told 3 = .ok (.ldc2_w 133, 3) := by decide +kernel
theorem dX12_told_6 : decode cX12_told 6 = .ok (.invokestatic 72, 3) := by decide +kernel
theorem dX12_told_9 : decode cX12_told 9 = .ok (.ifCond .eq 12, 3) := by decide +kernel
theorem dX12_told_12 : decode cX12_told 12 = .ok (.aload_n 0, 1) := by decide +kernel
theorem dX12_told_13 : decode cX12_told 13 = .ok (.getfield 7, 3) := by decide +kernel
theorem dX12_told_16 : decode cX12_told 16 = .ok (.iload_n 1, 1) := by decide +kernel
theorem dX12_told_17 : decode cX12_told 17 = .ok (.iaload, 1) := by decide +kernel
theorem dX12_told_18 : decode cX12_told 18 = .ok (.goto 4, 3) := by decide +kernel
theorem dX12_told_21 : decode cX12_told 21 = .ok (.iconst (-1), 1) := by decide +kernel
theorem dX12_told_22 : decode cX12_told 22 = .ok (.ireturn, 1) := by decide +kernel
theorem dX12_has_0 : decode cX12_has 0 = .ok (.iload_n 1, 1) := by decide +kernel
theorem dX12_has_1 : decode cX12_has 1 = .ok (.iload_n 2, 1) := by decide +kernel
theorem dX12_has_2 : decode cX12_has 2 = .ok (.ishr, 1) := by decide +kernel
theorem dX12_has_3 : decode cX12_has 3 = .ok (.iconst 1, 1) := by decide +kernel
theorem dX12_has_4 : decode cX12_has 4 = .ok (.iand, 1) := by decide +kernel
theorem dX12_has_5 : decode cX12_has 5 = .ok (.iconst 1, 1) := by decide +kernel
theorem dX12_has_6 : decode cX12_has 6 = .ok (.if_icmp .ne 7, 3) := by decide +kernel
theorem dX12_has_9 : decode cX12_has 9 = .ok (.iconst 1, 1) := by decide +kernel
theorem dX12_has_10 : decode cX12_has 10 = .ok (.goto 4, 3) := by decide +kernel
theorem dX12_has_13 : decode cX12_has 13 = .ok (.iconst 0, 1) := by decide +kernel
theorem dX12_has_14 : decode cX12_has 14 = .ok (.ireturn, 1) := by decide +kernel
theorem dX12_gone_0 : decode cX12_gone 0 = .ok (.aload_n 0, 1) := by decide +kernel
theorem dX12_gone_1 : decode cX12_gone 1 = .ok (.iload_n 1, 1) := by decide +kernel
theorem dX12_gone_2 : decode cX12_gone 2 = .ok (.iload_n 2, 1) := by decide +kernel
theorem dX12_gone_3 : decode cX12_gone 3 = .ok (.invokevirtual 135, 3) := by decide +kernel
theorem dX12_gone_6 : decode cX12_gone 6 = .ok (.ifCond .eq 24, 3) := by decide +kernel
theorem dX12_gone_9 : decode cX12_gone 9 = .ok (.aload_n 0, 1) := by decide +kernel
theorem dX12_gone_10 : decode cX12_gone 10 = .ok (.iload_n 1, 1) := by decide +kernel
theorem dX12_gone_11 : decode cX12_gone 11 = .ok (.iload_n 3, 1) := by decide +kernel
theorem dX12_gone_12 : decode cX12_gone 12 = .ok (.invokevirtual 135, 3) := by decide +kernel
theorem dX12_gone_15 : decode cX12_gone 15 = .ok (.ifCond .ne 15, 3) := by decide +kernel
theorem dX12_gone_18 : decode cX12_gone 18 = .ok (.iload_n 1, 1) := by decide +kernel
theorem dX12_gone_19 : decode cX12_gone 19 = .ok (.iconst 1, 1) := by decide +kernel
theorem dX12_gone_20 : decode cX12_gone 20 = .ok (.iload_n 2, 1) := by decide +kernel
theorem dX12_gone_21 : decode cX12_gone 21 = .ok (.ishl, 1) := by decide +kernel
theorem dX12_gone_22 : decode cX12_gone 22 = .ok (.ixor, 1) := by decide +kernel
theorem dX12_gone_23 : decode cX12_gone 23 = .ok (.iconst 1, 1) := by decide +kernel
theorem dX12_gone_24 : decode cX12_gone 24 = .ok (.iload_n 3, 1) := by decide +kernel
theorem dX12_gone_25 : decode cX12_gone 25 = .ok (.ishl, 1) := by decide +kernel
theorem dX12_gone_26 : decode cX12_gone 26 = .ok (.ixor, 1) := by decide +kernel
theorem dX12_gone_27 : decode cX12_gone 27 = .ok (.goto 4, 3) := by decide +kernel
theorem dX12_gone_30 : decode cX12_gone 30 = .ok (.iload_n 1, 1) := by decide +kernel
theorem dX12_gone_31 : decode cX12_gone 31 = .ok (.ireturn, 1) := by decide +kernel
theorem dX12_rateOf_0 : decode cX12_rateOf 0 = .ok (.aload_n 0, 1) := by decide +kernel
theorem dX12_rateOf_1 : decode cX12_rateOf 1 = .ok (.invokevirtual 139, 3) := by decide +kernel
theorem dX12_rateOf_4 : decode cX12_rateOf 4 = .ok (.istore_n 3, 1) := by decide +kernel
theorem dX12_rateOf_5 : decode cX12_rateOf 5 = .ok (.iconst 0, 1) := by decide +kernel
theorem dX12_rateOf_6 : decode cX12_rateOf 6 = .ok (.istore 4, 2) := by decide +kernel
theorem dX12_rateOf_8 : decode cX12_rateOf 8 = .ok (.iconst 0, 1) := by decide +kernel
theorem dX12_rateOf_9 : decode cX12_rateOf 9 = .ok (.istore 5, 2) := by decide +kernel
theorem dX12_rateOf_11 : decode cX12_rateOf 11 = .ok (.iload 5, 2) := by decide +kernel
theorem dX12_rateOf_13 : decode cX12_rateOf 13 = .ok (.iload_n 3, 1) := by decide +kernel
theorem dX12_rateOf_14 : decode cX12_rateOf 14 = .ok (.if_icmp .ge 143, 3) := by decide +kernel
theorem dX12_rateOf_17 : decode cX12_rateOf 17 = .ok (.iload_n 1, 1) := by decide +kernel
theorem dX12_rateOf_18 : decode cX12_rateOf 18 = .ok (.iload_n 2, 1) := by decide +kernel
theorem dX12_rateOf_19 : decode cX12_rateOf 19 = .ok (.if_icmp .eq 138, 3) := by decide +kernel
theorem dX12_rateOf_22 : decode cX12_rateOf 22 = .ok (.iload 5, 2) := by decide +kernel
theorem dX12_rateOf_24 : decode cX12_rateOf 24 = .ok (.iconst 1, 1) := by decide +kernel
theorem dX12_rateOf_25 : decode cX12_rateOf 25 = .ok (.iadd, 1) := by decide +kernel
theorem dX12_rateOf_26 : decode cX12_rateOf 26 = .ok (.iload_n 3, 1) := by decide +kernel
theorem dX12_rateOf_27 : decode cX12_rateOf 27 = .ok (.if_icmp .ge 10, 3) := by decide +kernel
theorem dX12_rateOf_30 : decode cX12_rateOf 30 = .ok (.iload 5, 2) := by decide +kernel
theorem dX12_rateOf_32 : decode cX12_rateOf 32 = .ok (.iconst 1, 1) := by decide +kernel
theorem dX12_rateOf_33 : decode cX12_rateOf 33 = .ok (.iadd, 1) := by decide +kernel
theorem dX12_rateOf_34 : decode cX12_rateOf 34 = .ok (.goto 16, 3) := by decide +kernel
theorem dX12_rateOf_37 : decode cX12_rateOf 37 = .ok (.aload_n 0, 1) := by decide +kernel
theorem dX12_rateOf_38 : decode cX12_rateOf 38 = .ok (.invokevirtual 142, 3) := by decide +kernel
theorem dX12_rateOf_41 : decode cX12_rateOf 41 = .ok (.ifCond .eq 8, 3) := by decide +kernel
theorem dX12_rateOf_44 : decode cX12_rateOf 44 = .ok (.bipush (-4), 2) := by decide +kernel
theorem dX12_rateOf_46 : decode cX12_rateOf 46 = .ok (.goto 4, 3) := by decide +kernel
theorem dX12_rateOf_49 : decode cX12_rateOf 49 = .ok (.iconst 0, 1) := by decide +kernel
theorem dX12_rateOf_50 : decode cX12_rateOf 50 = .ok (.istore 6, 2) := by decide +kernel
theorem dX12_rateOf_52 : decode cX12_rateOf 52 = .ok (.iload 5, 2) := by decide +kernel
theorem dX12_rateOf_54 : decode cX12_rateOf 54 = .ok (.ifCond .le 10, 3) := by decide +kernel
theorem dX12_rateOf_57 : decode cX12_rateOf 57 = .ok (.iload 5, 2) := by decide +kernel
theorem dX12_rateOf_59 : decode cX12_rateOf 59 = .ok (.iconst 1, 1) := by decide +kernel
theorem dX12_rateOf_60 : decode cX12_rateOf 60 = .ok (.isub, 1) := by decide +kernel
theorem dX12_rateOf_61 : decode cX12_rateOf 61 = .ok (.goto 18, 3) := by decide +kernel
theorem dX12_rateOf_64 : decode cX12_rateOf 64 = .ok (.aload_n 0, 1) := by decide +kernel
theorem dX12_rateOf_65 : decode cX12_rateOf 65 = .ok (.invokevirtual 142, 3) := by decide +kernel
theorem dX12_rateOf_68 : decode cX12_rateOf 68 = .ok (.ifCond .eq 8, 3) := by decide +kernel
theorem dX12_rateOf_71 : decode cX12_rateOf 71 = .ok (.bipush (-4), 2) := by decide +kernel
theorem dX12_rateOf_73 : decode cX12_rateOf 73 = .ok (.goto 6, 3) := by decide +kernel
theorem dX12_rateOf_76 : decode cX12_rateOf 76 = .ok (.iload_n 3, 1) := by decide +kernel
theorem dX12_rateOf_77 : decode cX12_rateOf 77 = .ok (.iconst 1, 1) := by decide +kernel
theorem dX12_rateOf_78 : decode cX12_rateOf 78 = .ok (.isub, 1) := by decide +kernel
theorem dX12_rateOf_79 : decode cX12_rateOf 79 = .ok (.istore 7, 2) := by decide +kernel
theorem dX12_rateOf_81 : decode cX12_rateOf 81 = .ok (.iload 4, 2) := by decide +kernel
theorem dX12_rateOf_83 : decode cX12_rateOf 83 = .ok (.iload 6, 2) := by decide +kernel
theorem dX12_rateOf_85 : decode cX12_rateOf 85 = .ok (.bipush (-4), 2) := by decide +kernel
theorem dX12_rateOf_87 : decode cX12_rateOf 87 = .ok (.if_icmp .eq 25, 3) := by decide +kernel
theorem dX12_rateOf_90 : decode cX12_rateOf 90 = .ok (.aload_n 0, 1) := by decide +kernel
theorem dX12_rateOf_91 : decode cX12_rateOf 91 = .ok (.iload_n 1, 1) := by decide +kernel
theorem dX12_rateOf_92 : decode cX12_rateOf 92 = .ok (.iload 5, 2) := by decide +kernel
theorem dX12_rateOf_94 : decode cX12_rateOf 94 = .ok (.iload 6, 2) := by decide +kernel
theorem dX12_rateOf_96 : decode cX12_rateOf 96 = .ok (.invokevirtual 146, 3) := by decide +kernel
theorem dX12_rateOf_99 : decode cX12_rateOf 99 = .ok (.iload_n 2, 1) := by decide +kernel
theorem dX12_rateOf_100 : decode cX12_rateOf 100 = .ok (.if_icmp .ne 12, 3) := by decide +kernel
theorem dX12_rateOf_103 : decode cX12_rateOf 103 = .ok (.aload_n 0, 1) := by decide +kernel
theorem dX12_rateOf_104 : decode cX12_rateOf 104 = .ok (.getfield 7, 3) := by decide +kernel
theorem dX12_rateOf_107 : decode cX12_rateOf 107 = .ok (.iconst 2, 1) := by decide +kernel
theorem dX12_rateOf_108 : decode cX12_rateOf 108 = .ok (.iaload, 1) := by decide +kernel
theorem dX12_rateOf_109 : decode cX12_rateOf 109 = .ok (.goto 4, 3) := by decide +kernel
theorem dX12_rateOf_112 : decode cX12_rateOf 112 = .ok (.iconst 0, 1) := by decide +kernel
theorem dX12_rateOf_113 : decode cX12_rateOf 113 = .ok (.iadd, 1) := by decide +kernel
theorem dX12_rateOf_114 : decode cX12_rateOf 114 = .ok (.istore 4, 2) := by decide +kernel
theorem dX12_rateOf_116 : decode cX12_rateOf 116 = .ok (.iload 4, 2) := by decide +kernel
theorem dX12_rateOf_118 : decode cX12_rateOf 118 = .ok (.iload 7, 2) := by decide +kernel
theorem dX12_rateOf_120 : decode cX12_rateOf 120 = .ok (.bipush (-4), 2) := by decide +kernel
theorem dX12_rateOf_122 : decode cX12_rateOf 122 = .ok (.if_icmp .eq 25, 3) := by decide +kernel
theorem dX12_rateOf_125 : decode cX12_rateOf 125 = .ok (.aload_n 0, 1) := by decide +kernel
theorem dX12_rateOf_126 : decode cX12_rateOf 126 = .ok (.iload_n 1, 1) := by decide +kernel
theorem dX12_rateOf_127 : decode cX12_rateOf 127 = .ok (.iload 5, 2) := by decide +kernel
theorem dX12_rateOf_129 : decode cX12_rateOf 129 = .ok (.iload 7, 2) := by decide +kernel
theorem dX12_rateOf_131 : decode cX12_rateOf 131 = .ok (.invokevirtual 146, 3) := by decide +kernel
theorem dX12_rateOf_134 : decode cX12_rateOf 134 = .ok (.iload_n 2, 1) := by decide +kernel
theorem dX12_rateOf_135 : decode cX12_rateOf 135 = .ok (.if_icmp .ne 12, 3) := by decide +kernel
theorem dX12_rateOf_138 : decode cX12_rateOf 138 = .ok (.aload_n 0, 1) := by decide +kernel
theorem dX12_rateOf_139 : decode cX12_rateOf 139 = .ok (.getfield 7, 3) := by decide +kernel
theorem dX12_rateOf_142 : decode cX12_rateOf 142 = .ok (.iconst 3, 1) := by decide +kernel
theorem dX12_rateOf_143 : decode cX12_rateOf 143 = .ok (.iaload, 1) := by decide +kernel
theorem dX12_rateOf_144 : decode cX12_rateOf 144 = .ok (.goto 4, 3) := by decide +kernel
theorem dX12_rateOf_147 : decode cX12_rateOf 147 = .ok (.iconst 0, 1) := by decide +kernel
theorem dX12_rateOf_148 : decode cX12_rateOf 148 = .ok (.iadd, 1) := by decide +kernel
theorem dX12_rateOf_149 : decode cX12_rateOf 149 = .ok (.istore 4, 2) := by decide +kernel
theorem dX12_rateOf_151 : decode cX12_rateOf 151 = .ok (.iinc 5 1, 3) := by decide +kernel
theorem dX12_rateOf_154 : decode cX12_rateOf 154 = .ok (.goto (-143), 3) := by decide +kernel
theorem dX12_rateOf_157 : decode cX12_rateOf 157 = .ok (.aload_n 0, 1) := by decide +kernel
theorem dX12_rateOf_158 : decode cX12_rateOf 158 = .ok (.invokevirtual 142, 3) := by decide +kernel
theorem dX12_rateOf_161 : decode cX12_rateOf 161 = .ok (.ifCond .eq 104, 3) := by decide +kernel
theorem dX12_rateOf_164 : decode cX12_rateOf 164 = .ok (.iload_n 1, 1) := by decide +kernel
theorem dX12_rateOf_165 : decode cX12_rateOf 165 = .ok (.iload_n 2, 1) := by decide +kernel
theorem dX12_rateOf_166 : decode cX12_rateOf 166 = .ok (.if_icmp .eq 99, 3) := by decide +kernel
theorem dX12_rateOf_169 : decode cX12_rateOf 169 = .ok (.iload_n 1, 1) := by decide +kernel
theorem dX12_rateOf_170 : decode cX12_rateOf 170 = .ok (.iconst 1, 1) := by decide +kernel
theorem dX12_rateOf_171 : decode cX12_rateOf 171 = .ok (.ixor, 1) := by decide +kernel
theorem dX12_rateOf_172 : decode cX12_rateOf 172 = .ok (.istore 5, 2) := by decide +kernel
theorem dX12_rateOf_174 : decode cX12_rateOf 174 = .ok (.iload_n 1, 1) := by decide +kernel
theorem dX12_rateOf_175 : decode cX12_rateOf 175 = .ok (.iconst 1, 1) := by decide +kernel
theorem dX12_rateOf_176 : decode cX12_rateOf 176 = .ok (.iload_n 3, 1) := by decide +kernel
theorem dX12_rateOf_177 : decode cX12_rateOf 177 = .ok (.iconst 1, 1) := by decide +kernel
theorem dX12_rateOf_178 : decode cX12_rateOf 178 = .ok (.isub, 1) := by decide +kernel
theorem dX12_rateOf_179 : decode cX12_rateOf 179 = .ok (.ishl, 1) := by decide +kernel
theorem dX12_rateOf_180 : decode cX12_rateOf 180 = .ok (.ixor, 1) := by decide +kernel
theorem dX12_rateOf_181 : decode cX12_rateOf 181 = .ok (.istore 6, 2) := by decide +kernel
theorem dX12_rateOf_183 : decode cX12_rateOf 183 = .ok (.iload 4, 2) := by decide +kernel
theorem dX12_rateOf_185 : decode cX12_rateOf 185 = .ok (.iload 5, 2) := by decide +kernel
theorem dX12_rateOf_187 : decode cX12_rateOf 187 = .ok (.iload_n 2, 1) := by decide +kernel
theorem dX12_rateOf_188 : decode cX12_rateOf 188 = .ok (.if_icmp .ne 31, 3) := by decide +kernel
theorem dX12_rateOf_191 : decode cX12_rateOf 191 = .ok (.aload_n 0, 1) := by decide +kernel
theorem dX12_rateOf_192 : decode cX12_rateOf 192 = .ok (.iload_n 1, 1) := by decide +kernel
theorem dX12_rateOf_193 : decode cX12_rateOf 193 = .ok (.iconst 0, 1) := by decide +kernel
theorem dX12_rateOf_194 : decode cX12_rateOf 194 = .ok (.invokevirtual 135, 3) := by decide +kernel
theorem dX12_rateOf_197 : decode cX12_rateOf 197 = .ok (.ifCond .eq 13, 3) := by decide +kernel
theorem dX12_rateOf_200 : decode cX12_rateOf 200 = .ok (.aload_n 0, 1) := by decide +kernel
theorem dX12_rateOf_201 : decode cX12_rateOf 201 = .ok (.getfield 7, 3) := by decide +kernel
theorem dX12_rateOf_204 : decode cX12_rateOf 204 = .ok (.bipush 7, 2) := by decide +kernel
theorem dX12_rateOf_206 : decode cX12_rateOf 206 = .ok (.iaload, 1) := by decide +kernel
theorem dX12_rateOf_207 : decode cX12_rateOf 207 = .ok (.goto 13, 3) := by decide +kernel
theorem dX12_rateOf_210 : decode cX12_rateOf 210 = .ok (.aload_n 0, 1) := by decide +kernel
theorem dX12_rateOf_211 : decode cX12_rateOf 211 = .ok (.getfield 7, 3) := by decide +kernel
theorem dX12_rateOf_214 : decode cX12_rateOf 214 = .ok (.iconst 4, 1) := by decide +kernel
theorem dX12_rateOf_215 : decode cX12_rateOf 215 = .ok (.iaload, 1) := by decide +kernel
theorem dX12_rateOf_216 : decode cX12_rateOf 216 = .ok (.goto 4, 3) := by decide +kernel
theorem dX12_rateOf_219 : decode cX12_rateOf 219 = .ok (.iconst 0, 1) := by decide +kernel
theorem dX12_rateOf_220 : decode cX12_rateOf 220 = .ok (.iadd, 1) := by decide +kernel
theorem dX12_rateOf_221 : decode cX12_rateOf 221 = .ok (.istore 4, 2) := by decide +kernel
theorem dX12_rateOf_223 : decode cX12_rateOf 223 = .ok (.iload 4, 2) := by decide +kernel
theorem dX12_rateOf_225 : decode cX12_rateOf 225 = .ok (.iload 6, 2) := by decide +kernel
theorem dX12_rateOf_227 : decode cX12_rateOf 227 = .ok (.iload_n 2, 1) := by decide +kernel
theorem dX12_rateOf_228 : decode cX12_rateOf 228 = .ok (.if_icmp .ne 33, 3) := by decide +kernel
theorem dX12_rateOf_231 : decode cX12_rateOf 231 = .ok (.aload_n 0, 1) := by decide +kernel
theorem dX12_rateOf_232 : decode cX12_rateOf 232 = .ok (.iload_n 1, 1) := by decide +kernel
theorem dX12_rateOf_233 : decode cX12_rateOf 233 = .ok (.iload_n 3, 1) := by decide +kernel
theorem dX12_rateOf_234 : decode cX12_rateOf 234 = .ok (.iconst 1, 1) := by decide +kernel
theorem dX12_rateOf_235 : decode cX12_rateOf 235 = .ok (.isub, 1) := by decide +kernel
theorem dX12_rateOf_236 : decode cX12_rateOf 236 = .ok (.invokevirtual 135, 3) := by decide +kernel
theorem dX12_rateOf_239 : decode cX12_rateOf 239 = .ok (.ifCond .eq 13, 3) := by decide +kernel
theorem dX12_rateOf_242 : decode cX12_rateOf 242 = .ok (.aload_n 0, 1) := by decide +kernel
theorem dX12_rateOf_243 : decode cX12_rateOf 243 = .ok (.getfield 7, 3) := by decide +kernel
theorem dX12_rateOf_246 : decode cX12_rateOf 246 = .ok (.bipush 6, 2) := by decide +kernel
theorem dX12_rateOf_248 : decode cX12_rateOf 248 = .ok (.iaload, 1) := by decide +kernel
theorem dX12_rateOf_249 : decode cX12_rateOf 249 = .ok (.goto 13, 3) := by decide +kernel
theorem dX12_rateOf_252 : decode cX12_rateOf 252 = .ok (.aload_n 0, 1) := by decide +kernel
theorem dX12_rateOf_253 : decode cX12_rateOf 253 = .ok (.getfield 7, 3) := by decide +kernel
theorem dX12_rateOf_256 : decode cX12_rateOf 256 = .ok (.iconst 5, 1) := by decide +kernel
theorem dX12_rateOf_257 : decode cX12_rateOf 257 = .ok (.iaload, 1) := by decide +kernel
theorem dX12_rateOf_258 : decode cX12_rateOf 258 = .ok (.goto 4, 3) := by decide +kernel
theorem dX12_rateOf_261 : decode cX12_rateOf 261 = .ok (.iconst 0, 1) := by decide +kernel
theorem dX12_rateOf_262 : decode cX12_rateOf 262 = .ok (.iadd, 1) := by decide +kernel
theorem dX12_rateOf_263 : decode cX12_rateOf 263 = .ok (.istore 4, 2) := by decide +kernel
theorem dX12_rateOf_265 : decode cX12_rateOf 265 = .ok (.iload 4, 2) := by decide +kernel
theorem dX12_rateOf_267 : decode cX12_rateOf 267 = .ok (.ireturn, 1) := by decide +kernel
theorem dX12_rate_0 : decode cX12_rate 0 = .ok (.aload_n 0, 1) := by decide +kernel
theorem dX12_rate_1 : decode cX12_rate 1 = .ok (.iload_n 1, 1) := by decide +kernel
theorem dX12_rate_2 : decode cX12_rate 2 = .ok (.invokevirtual 150, 3) := by decide +kernel
theorem dX12_rate_5 : decode cX12_rate 5 = .ok (.ifCond .eq 20, 3) := by decide +kernel
theorem dX12_rate_8 : decode cX12_rate 8 = .ok (.aload_n 0, 1) := by decide +kernel
theorem dX12_rate_9 : decode cX12_rate 9 = .ok (.iload_n 2, 1) := by decide +kernel
theorem dX12_rate_10 : decode cX12_rate 10 = .ok (.invokevirtual 150, 3) := by decide +kernel
theorem dX12_rate_13 : decode cX12_rate 13 = .ok (.ifCond .eq 12, 3) := by decide +kernel
theorem dX12_rate_16 : decode cX12_rate 16 = .ok (.aload_n 0, 1) := by decide +kernel
theorem dX12_rate_17 : decode cX12_rate 17 = .ok (.iload_n 1, 1) := by decide +kernel
theorem dX12_rate_18 : decode cX12_rate 18 = .ok (.iload_n 2, 1) := by decide +kernel
theorem dX12_rate_19 : decode cX12_rate 19 = .ok (.invokevirtual 154, 3) := by decide +kernel
theorem dX12_rate_22 : decode cX12_rate 22 = .ok (.goto 4, 3) := by decide +kernel
theorem dX12_rate_25 : decode cX12_rate 25 = .ok (.iconst (-1), 1) := by decide +kernel
theorem dX12_rate_26 : decode cX12_rate 26 = .ok (.ireturn, 1) := by decide +kernel
theorem dX12_layReaches_0 : decode cX12_layReaches 0 = .ok (.aload_n 0, 1) := by decide +kernel
theorem dX12_layReaches_1 : decode cX12_layReaches 1 = .ok (.invokevirtual 68, 3) := by decide +kernel
theorem dX12_layReaches_4 : decode cX12_layReaches 4 = .ok (.istore_n 1, 1) := by decide +kernel
theorem dX12_layReaches_5 : decode cX12_layReaches 5 = .ok (.iconst 0, 1) := by decide +kernel
theorem dX12_layReaches_6 : decode cX12_layReaches 6 = .ok (.istore_n 2, 1) := by decide +kernel
theorem dX12_layReaches_7 : decode cX12_layReaches 7 = .ok (.iload_n 2, 1) := by decide +kernel
theorem dX12_layReaches_8 : decode cX12_layReaches 8 = .ok (.iload_n 1, 1) := by decide +kernel
theorem dX12_layReaches_9 : decode cX12_layReaches 9 = .ok (.if_icmp .ge 56, 3) := by decide +kernel
theorem dX12_layReaches_12 : decode cX12_layReaches 12 = .ok (.aload_n 0, 1) := by decide +kernel
theorem dX12_layReaches_13 : decode cX12_layReaches 13 = .ok (.getfield 25, 3) := by decide +kernel
theorem dX12_layReaches_16 : decode cX12_layReaches 16 = .ok (.iload_n 2, 1) := by decide +kernel
theorem dX12_layReaches_17 : decode cX12_layReaches 17 = .ok (.lconst 1, 1) := by decide +kernel
theorem dX12_layReaches_18 : decode cX12_layReaches 18 = .ok (.iload_n 2, 1) := by decide +kernel
theorem dX12_layReaches_19 : decode cX12_layReaches 19 = .ok (.lshl, 1) := by decide +kernel
theorem dX12_layReaches_20 : decode cX12_layReaches 20 = .ok (.lastore, 1) := by decide +kernel
theorem dX12_layReaches_21 : decode cX12_layReaches 21 = .ok (.iconst 0, 1) := by decide +kernel
theorem dX12_layReaches_22 : decode cX12_layReaches 22 = .ok (.istore_n 3, 1) := by decide +kernel
theorem dX12_layReaches_23 : decode cX12_layReaches 23 = .ok (.iload_n 3, 1) := by decide +kernel
theorem dX12_layReaches_24 : decode cX12_layReaches 24 = .ok (.iload_n 1, 1) := by decide +kernel
theorem dX12_layReaches_25 : decode cX12_layReaches 25 = .ok (.if_icmp .ge 34, 3) := by decide +kernel
theorem dX12_layReaches_28 : decode cX12_layReaches 28 = .ok (.aload_n 0, 1) := by decide +kernel
theorem dX12_layReaches_29 : decode cX12_layReaches 29 = .ok (.getfield 25, 3) := by decide +kernel
theorem dX12_layReaches_32 : decode cX12_layReaches 32 = .ok (.iload_n 2, 1) := by decide +kernel
theorem dX12_layReaches_33 : decode cX12_layReaches 33 = .ok (.dup2, 1) := by decide +kernel
theorem dX12_layReaches_34 : decode cX12_layReaches 34 = .ok (.laload, 1) := by decide +kernel
theorem dX12_layReaches_35 : decode cX12_layReaches 35 = .ok (.aload_n 0, 1) := by decide +kernel
theorem dX12_layReaches_36 : decode cX12_layReaches 36 = .ok (.iload_n 2, 1) := by decide +kernel
theorem dX12_layReaches_37 : decode cX12_layReaches 37 = .ok (.iload_n 3, 1) := by decide +kernel
theorem dX12_layReaches_38 : decode cX12_layReaches 38 = .ok (.invokevirtual 154, 3) := by decide +kernel
theorem dX12_layReaches_41 : decode cX12_layReaches 41 = .ok (.ifCond .le 9, 3) := by decide +kernel
theorem dX12_layReaches_44 : decode cX12_layReaches 44 = .ok (.lconst 1, 1) := by decide +kernel
theorem dX12_layReaches_45 : decode cX12_layReaches 45 = .ok (.iload_n 3, 1) := by decide +kernel
theorem dX12_layReaches_46 : decode cX12_layReaches 46 = .ok (.lshl, 1) := by decide +kernel
theorem dX12_layReaches_47 : decode cX12_layReaches 47 = .ok (.goto 4, 3) := by decide +kernel
theorem dX12_layReaches_50 : decode cX12_layReaches 50 = .ok (.lconst 0, 1) := by decide +kernel
theorem dX12_layReaches_51 : decode cX12_layReaches 51 = .ok (.lor, 1) := by decide +kernel
theorem dX12_layReaches_52 : decode cX12_layReaches 52 = .ok (.lastore, 1) := by decide +kernel
theorem dX12_layReaches_53 : decode cX12_layReaches 53 = .ok (.iinc 3 1, 3) := by decide +kernel
theorem dX12_layReaches_56 : decode cX12_layReaches 56 = .ok (.goto (-33), 3) := by decide +kernel
theorem dX12_layReaches_59 : decode cX12_layReaches 59 = .ok (.iinc 2 1, 3) := by decide +kernel
theorem dX12_layReaches_62 : decode cX12_layReaches 62 = .ok (.goto (-55), 3) := by decide +kernel
theorem dX12_layReaches_65 : decode cX12_layReaches 65 = .ok (.iconst 0, 1) := by decide +kernel
theorem dX12_layReaches_66 : decode cX12_layReaches 66 = .ok (.istore_n 2, 1) := by decide +kernel
theorem dX12_layReaches_67 : decode cX12_layReaches 67 = .ok (.iload_n 2, 1) := by decide +kernel
theorem dX12_layReaches_68 : decode cX12_layReaches 68 = .ok (.iload_n 1, 1) := by decide +kernel
theorem dX12_layReaches_69 : decode cX12_layReaches 69 = .ok (.if_icmp .ge 56, 3) := by decide +kernel
theorem dX12_layReaches_72 : decode cX12_layReaches 72 = .ok (.iconst 0, 1) := by decide +kernel
theorem dX12_layReaches_73 : decode cX12_layReaches 73 = .ok (.istore_n 3, 1) := by decide +kernel
theorem dX12_layReaches_74 : decode cX12_layReaches 74 = .ok (.iload_n 3, 1) := by decide +kernel
theorem dX12_layReaches_75 : decode cX12_layReaches 75 = .ok (.iload_n 1, 1) := by decide +kernel
theorem dX12_layReaches_76 : decode cX12_layReaches 76 = .ok (.if_icmp .ge 43, 3) := by decide +kernel
theorem dX12_layReaches_79 : decode cX12_layReaches 79 = .ok (.aload_n 0, 1) := by decide +kernel
theorem dX12_layReaches_80 : decode cX12_layReaches 80 = .ok (.getfield 25, 3) := by decide +kernel
theorem dX12_layReaches_83 : decode cX12_layReaches 83 = .ok (.iload_n 3, 1) := by decide +kernel
theorem dX12_layReaches_84 : decode cX12_layReaches 84 = .ok (.dup2, 1) := by decide +kernel
theorem dX12_layReaches_85 : decode cX12_layReaches 85 = .ok (.laload, 1) := by decide +kernel
theorem dX12_layReaches_86 : decode cX12_layReaches 86 = .ok (.aload_n 0, 1) := by decide +kernel
theorem dX12_layReaches_87 : decode cX12_layReaches 87 = .ok (.getfield 25, 3) := by decide +kernel
theorem dX12_layReaches_90 : decode cX12_layReaches 90 = .ok (.iload_n 3, 1) := by decide +kernel
theorem dX12_layReaches_91 : decode cX12_layReaches 91 = .ok (.laload, 1) := by decide +kernel
theorem dX12_layReaches_92 : decode cX12_layReaches 92 = .ok (.iload_n 2, 1) := by decide +kernel
theorem dX12_layReaches_93 : decode cX12_layReaches 93 = .ok (.lshr, 1) := by decide +kernel
theorem dX12_layReaches_94 : decode cX12_layReaches 94 = .ok (.lconst 1, 1) := by decide +kernel
theorem dX12_layReaches_95 : decode cX12_layReaches 95 = .ok (.land, 1) := by decide +kernel
theorem dX12_layReaches_96 : decode cX12_layReaches 96 = .ok (.lconst 1, 1) := by decide +kernel
theorem dX12_layReaches_97 : decode cX12_layReaches 97 = .ok (.lcmp, 1) := by decide +kernel
theorem dX12_layReaches_98 : decode cX12_layReaches 98 = .ok (.ifCond .ne 12, 3) := by decide +kernel
theorem dX12_layReaches_101 : decode cX12_layReaches 101 = .ok (.aload_n 0, 1) := by decide +kernel
theorem dX12_layReaches_102 : decode cX12_layReaches 102 = .ok (.getfield 25, 3) := by decide +kernel
theorem dX12_layReaches_105 : decode cX12_layReaches 105 = .ok (.iload_n 2, 1) := by decide +kernel
theorem dX12_layReaches_106 : decode cX12_layReaches 106 = .ok (.laload, 1) := by decide +kernel
theorem dX12_layReaches_107 : decode cX12_layReaches 107 = .ok (.goto 4, 3) := by decide +kernel
theorem dX12_layReaches_110 : decode cX12_layReaches 110 = .ok (.lconst 0, 1) := by decide +kernel
theorem dX12_layReaches_111 : decode cX12_layReaches 111 = .ok (.lor, 1) := by decide +kernel
theorem dX12_layReaches_112 : decode cX12_layReaches 112 = .ok (.lastore, 1) := by decide +kernel
theorem dX12_layReaches_113 : decode cX12_layReaches 113 = .ok (.iinc 3 1, 3) := by decide +kernel
theorem dX12_layReaches_116 : decode cX12_layReaches 116 = .ok (.goto (-42), 3) := by decide +kernel
theorem dX12_layReaches_119 : decode cX12_layReaches 119 = .ok (.iinc 2 1, 3) := by decide +kernel
theorem dX12_layReaches_122 : decode cX12_layReaches 122 = .ok (.goto (-55), 3) := by decide +kernel
theorem dX12_layReaches_125 : decode cX12_layReaches 125 = .ok (.return_, 1) := by decide +kernel
theorem dX12_partOf_0 : decode cX12_partOf 0 = .ok (.lconst 0, 1) := by decide +kernel
theorem dX12_partOf_1 : decode cX12_partOf 1 = .ok (.lstore_n 2, 1) := by decide +kernel
theorem dX12_partOf_2 : decode cX12_partOf 2 = .ok (.iconst 0, 1) := by decide +kernel
theorem dX12_partOf_3 : decode cX12_partOf 3 = .ok (.istore 4, 2) := by decide +kernel
theorem dX12_partOf_5 : decode cX12_partOf 5 = .ok (.iload 4, 2) := by decide +kernel
theorem dX12_partOf_7 : decode cX12_partOf 7 = .ok (.aload_n 0, 1) := by decide +kernel
theorem dX12_partOf_8 : decode cX12_partOf 8 = .ok (.invokevirtual 68, 3) := by decide +kernel
theorem dX12_partOf_11 : decode cX12_partOf 11 = .ok (.if_icmp .ge 52, 3) := by decide +kernel
theorem dX12_partOf_14 : decode cX12_partOf 14 = .ok (.lload_n 2, 1) := by decide +kernel
theorem dX12_partOf_15 : decode cX12_partOf 15 = .ok (.aload_n 0, 1) := by decide +kernel
theorem dX12_partOf_16 : decode cX12_partOf 16 = .ok (.getfield 25, 3) := by decide +kernel
theorem dX12_partOf_19 : decode cX12_partOf 19 = .ok (.iload_n 1, 1) := by decide +kernel
theorem dX12_partOf_20 : decode cX12_partOf 20 = .ok (.laload, 1) := by decide +kernel
theorem dX12_partOf_21 : decode cX12_partOf 21 = .ok (.iload 4, 2) := by decide +kernel
theorem dX12_partOf_23 : decode cX12_partOf 23 = .ok (.lshr, 1) := by decide +kernel
theorem dX12_partOf_24 : decode cX12_partOf 24 = .ok (.lconst 1, 1) := by decide +kernel
theorem dX12_partOf_25 : decode cX12_partOf 25 = .ok (.land, 1) := by decide +kernel
theorem dX12_partOf_26 : decode cX12_partOf 26 = .ok (.lconst 1, 1) := by decide +kernel
theorem dX12_partOf_27 : decode cX12_partOf 27 = .ok (.lcmp, 1) := by decide +kernel
theorem dX12_partOf_28 : decode cX12_partOf 28 = .ok (.ifCond .ne 26, 3) := by decide +kernel
theorem dX12_partOf_31 : decode cX12_partOf 31 = .ok (.aload_n 0, 1) := by decide +kernel
theorem dX12_partOf_32 : decode cX12_partOf 32 = .ok (.getfield 25, 3) := by decide +kernel
theorem dX12_partOf_35 : decode cX12_partOf 35 = .ok (.iload 4, 2) := by decide +kernel
theorem dX12_partOf_37 : decode cX12_partOf 37 = .ok (.laload, 1) := by decide +kernel
theorem dX12_partOf_38 : decode cX12_partOf 38 = .ok (.iload_n 1, 1) := by decide +kernel
theorem dX12_partOf_39 : decode cX12_partOf 39 = .ok (.lshr, 1) := by decide +kernel
theorem dX12_partOf_40 : decode cX12_partOf 40 = .ok (.lconst 1, 1) := by decide +kernel
theorem dX12_partOf_41 : decode cX12_partOf 41 = .ok (.land, 1) := by decide +kernel
theorem dX12_partOf_42 : decode cX12_partOf 42 = .ok (.lconst 1, 1) := by decide +kernel
theorem dX12_partOf_43 : decode cX12_partOf 43 = .ok (.lcmp, 1) := by decide +kernel
theorem dX12_partOf_44 : decode cX12_partOf 44 = .ok (.ifCond .ne 10, 3) := by decide +kernel
theorem dX12_partOf_47 : decode cX12_partOf 47 = .ok (.lconst 1, 1) := by decide +kernel
theorem dX12_partOf_48 : decode cX12_partOf 48 = .ok (.iload 4, 2) := by decide +kernel
theorem dX12_partOf_50 : decode cX12_partOf 50 = .ok (.lshl, 1) := by decide +kernel
theorem dX12_partOf_51 : decode cX12_partOf 51 = .ok (.goto 4, 3) := by decide +kernel
theorem dX12_partOf_54 : decode cX12_partOf 54 = .ok (.lconst 0, 1) := by decide +kernel
theorem dX12_partOf_55 : decode cX12_partOf 55 = .ok (.lor, 1) := by decide +kernel
theorem dX12_partOf_56 : decode cX12_partOf 56 = .ok (.lstore_n 2, 1) := by decide +kernel
theorem dX12_partOf_57 : decode cX12_partOf 57 = .ok (.iinc 4 1, 3) := by decide +kernel
theorem dX12_partOf_60 : decode cX12_partOf 60 = .ok (.goto (-55), 3) := by decide +kernel
theorem dX12_partOf_63 : decode cX12_partOf 63 = .ok (.lload_n 2, 1) := by decide +kernel
theorem dX12_partOf_64 : decode cX12_partOf 64 = .ok (.lreturn, 1) := by decide +kernel
theorem dX12_isShut_0 : decode cX12_isShut 0 = .ok (.aload_n 0, 1) := by decide +kernel
theorem dX12_isShut_1 : decode cX12_isShut 1 = .ok (.getfield 25, 3) := by decide +kernel
theorem dX12_isShut_4 : decode cX12_isShut 4 = .ok (.iload_n 1, 1) := by decide +kernel
theorem dX12_isShut_5 : decode cX12_isShut 5 = .ok (.laload, 1) := by decide +kernel
theorem dX12_isShut_6 : decode cX12_isShut 6 = .ok (.aload_n 0, 1) := by decide +kernel
theorem dX12_isShut_7 : decode cX12_isShut 7 = .ok (.iload_n 1, 1) := by decide +kernel
theorem dX12_isShut_8 : decode cX12_isShut 8 = .ok (.invokevirtual 157, 3) := by decide +kernel
theorem dX12_isShut_11 : decode cX12_isShut 11 = .ok (.lcmp, 1) := by decide +kernel
theorem dX12_isShut_12 : decode cX12_isShut 12 = .ok (.ifCond .ne 7, 3) := by decide +kernel
theorem dX12_isShut_15 : decode cX12_isShut 15 = .ok (.iconst 1, 1) := by decide +kernel
theorem dX12_isShut_16 : decode cX12_isShut 16 = .ok (.goto 4, 3) := by decide +kernel
theorem dX12_isShut_19 : decode cX12_isShut 19 = .ok (.iconst 0, 1) := by decide +kernel
theorem dX12_isShut_20 : decode cX12_isShut 20 = .ok (.ireturn, 1) := by decide +kernel
theorem dX12_sizeOf_0 : decode cX12_sizeOf 0 = .ok (.iconst 0, 1) := by decide +kernel
theorem dX12_sizeOf_1 : decode cX12_sizeOf 1 = .ok (.istore_n 2, 1) := by decide +kernel
theorem dX12_sizeOf_2 : decode cX12_sizeOf 2 = .ok (.iconst 0, 1) := by decide +kernel
theorem dX12_sizeOf_3 : decode cX12_sizeOf 3 = .ok (.istore_n 3, 1) := by decide +kernel
theorem dX12_sizeOf_4 : decode cX12_sizeOf 4 = .ok (.iload_n 3, 1) := by decide +kernel
theorem dX12_sizeOf_5 : decode cX12_sizeOf 5 = .ok (.bipush 64, 2) := by decide +kernel
theorem dX12_sizeOf_7 : decode cX12_sizeOf 7 = .ok (.if_icmp .ge 18, 3) := by decide +kernel
theorem dX12_sizeOf_10 : decode cX12_sizeOf 10 = .ok (.iload_n 2, 1) := by decide +kernel
theorem dX12_sizeOf_11 : decode cX12_sizeOf 11 = .ok (.lload_n 0, 1) := by decide +kernel
theorem dX12_sizeOf_12 : decode cX12_sizeOf 12 = .ok (.iload_n 3, 1) := by decide +kernel
theorem dX12_sizeOf_13 : decode cX12_sizeOf 13 = .ok (.lshr, 1) := by decide +kernel
theorem dX12_sizeOf_14 : decode cX12_sizeOf 14 = .ok (.lconst 1, 1) := by decide +kernel
theorem dX12_sizeOf_15 : decode cX12_sizeOf 15 = .ok (.land, 1) := by decide +kernel
theorem dX12_sizeOf_16 : decode cX12_sizeOf 16 = .ok (.l2i, 1) := by decide +kernel
theorem dX12_sizeOf_17 : decode cX12_sizeOf 17 = .ok (.iadd, 1) := by decide +kernel
theorem dX12_sizeOf_18 : decode cX12_sizeOf 18 = .ok (.istore_n 2, 1) := by decide +kernel
theorem dX12_sizeOf_19 : decode cX12_sizeOf 19 = .ok (.iinc 3 1, 3) := by decide +kernel
theorem dX12_sizeOf_22 : decode cX12_sizeOf 22 = .ok (.goto (-18), 3) := by decide +kernel
theorem dX12_sizeOf_25 : decode cX12_sizeOf 25 = .ok (.iload_n 2, 1) := by decide +kernel
theorem dX12_sizeOf_26 : decode cX12_sizeOf 26 = .ok (.ireturn, 1) := by decide +kernel
theorem dX12_leastOf_0 : decode cX12_leastOf 0 = .ok (.iconst 0, 1) := by decide +kernel
theorem dX12_leastOf_1 : decode cX12_leastOf 1 = .ok (.istore_n 2, 1) := by decide +kernel
theorem dX12_leastOf_2 : decode cX12_leastOf 2 = .ok (.lload_n 0, 1) := by decide +kernel
theorem dX12_leastOf_3 : decode cX12_leastOf 3 = .ok (.iload_n 2, 1) := by decide +kernel
theorem dX12_leastOf_4 : decode cX12_leastOf 4 = .ok (.lshr, 1) := by decide +kernel
theorem dX12_leastOf_5 : decode cX12_leastOf 5 = .ok (.lconst 1, 1) := by decide +kernel
theorem dX12_leastOf_6 : decode cX12_leastOf 6 = .ok (.land, 1) := by decide +kernel
theorem dX12_leastOf_7 : decode cX12_leastOf 7 = .ok (.lconst 0, 1) := by decide +kernel
theorem dX12_leastOf_8 : decode cX12_leastOf 8 = .ok (.lcmp, 1) := by decide +kernel
theorem dX12_leastOf_9 : decode cX12_leastOf 9 = .ok (.ifCond .ne 9, 3) := by decide +kernel
theorem dX12_leastOf_12 : decode cX12_leastOf 12 = .ok (.iinc 2 1, 3) := by decide +kernel
theorem dX12_leastOf_15 : decode cX12_leastOf 15 = .ok (.goto (-13), 3) := by decide +kernel
theorem dX12_leastOf_18 : decode cX12_leastOf 18 = .ok (.iload_n 2, 1) := by decide +kernel
theorem dX12_leastOf_19 : decode cX12_leastOf 19 = .ok (.ireturn, 1) := by decide +kernel
theorem dX12_of_0 : decode cX12_of 0 = .ok (.aload_n 0, 1) := by decide +kernel
theorem dX12_of_1 : decode cX12_of 1 = .ok (.iload_n 1, 1) := by decide +kernel
theorem dX12_of_2 : decode cX12_of 2 = .ok (.invokevirtual 150, 3) := by decide +kernel
theorem dX12_of_5 : decode cX12_of 5 = .ok (.ifCond .eq 15, 3) := by decide +kernel
theorem dX12_of_8 : decode cX12_of 8 = .ok (.iload_n 2, 1) := by decide +kernel
theorem dX12_of_9 : decode cX12_of 9 = .ok (.i2l, 1) := by decide +kernel
theorem dX12_of_10 : decode cX12_of 10 = .ok (.lconst 0, 1) := by decide +kernel
theorem dX12_of_11 : decode cX12_of 11 = .ok (.ldc2_w 161, 3) := by decide +kernel
theorem dX12_of_14 : decode cX12_of 14 = .ok (.invokestatic 72, 3) := by decide +kernel
theorem dX12_of_17 : decode cX12_of 17 = .ok (.ifCond .ne 5, 3) := by decide +kernel
theorem dX12_of_20 : decode cX12_of 20 = .ok (.iconst (-1), 1) := by decide +kernel
theorem dX12_of_21 : decode cX12_of 21 = .ok (.ireturn, 1) := by decide +kernel
theorem dX12_of_22 : decode cX12_of 22 = .ok (.aload_n 0, 1) := by decide +kernel
theorem dX12_of_23 : decode cX12_of 23 = .ok (.invokevirtual 163, 3) := by decide +kernel
theorem dX12_of_26 : decode cX12_of 26 = .ok (.iconst 0, 1) := by decide +kernel
theorem dX12_of_27 : decode cX12_of 27 = .ok (.istore_n 3, 1) := by decide +kernel
theorem dX12_of_28 : decode cX12_of 28 = .ok (.iconst 0, 1) := by decide +kernel
theorem dX12_of_29 : decode cX12_of 29 = .ok (.istore 4, 2) := by decide +kernel
theorem dX12_of_31 : decode cX12_of 31 = .ok (.iconst 0, 1) := by decide +kernel
theorem dX12_of_32 : decode cX12_of 32 = .ok (.istore 5, 2) := by decide +kernel
theorem dX12_of_34 : decode cX12_of 34 = .ok (.iload 5, 2) := by decide +kernel
theorem dX12_of_36 : decode cX12_of 36 = .ok (.aload_n 0, 1) := by decide +kernel
theorem dX12_of_37 : decode cX12_of 37 = .ok (.invokevirtual 68, 3) := by decide +kernel
theorem dX12_of_40 : decode cX12_of 40 = .ok (.if_icmp .ge 38, 3) := by decide +kernel
theorem dX12_of_43 : decode cX12_of 43 = .ok (.aload_n 0, 1) := by decide +kernel
theorem dX12_of_44 : decode cX12_of 44 = .ok (.iload_n 1, 1) := by decide +kernel
theorem dX12_of_45 : decode cX12_of 45 = .ok (.iload 5, 2) := by decide +kernel
theorem dX12_of_47 : decode cX12_of 47 = .ok (.invokevirtual 154, 3) := by decide +kernel
theorem dX12_of_50 : decode cX12_of 50 = .ok (.istore 6, 2) := by decide +kernel
theorem dX12_of_52 : decode cX12_of 52 = .ok (.iload_n 3, 1) := by decide +kernel
theorem dX12_of_53 : decode cX12_of 53 = .ok (.iload 6, 2) := by decide +kernel
theorem dX12_of_55 : decode cX12_of 55 = .ok (.iadd, 1) := by decide +kernel
theorem dX12_of_56 : decode cX12_of 56 = .ok (.istore_n 3, 1) := by decide +kernel
theorem dX12_of_57 : decode cX12_of 57 = .ok (.iload 4, 2) := by decide +kernel
theorem dX12_of_59 : decode cX12_of 59 = .ok (.iload 6, 2) := by decide +kernel
theorem dX12_of_61 : decode cX12_of 61 = .ok (.ifCond .le 7, 3) := by decide +kernel
theorem dX12_of_64 : decode cX12_of 64 = .ok (.iconst 1, 1) := by decide +kernel
theorem dX12_of_65 : decode cX12_of 65 = .ok (.goto 4, 3) := by decide +kernel
theorem dX12_of_68 : decode cX12_of 68 = .ok (.iconst 0, 1) := by decide +kernel
theorem dX12_of_69 : decode cX12_of 69 = .ok (.iadd, 1) := by decide +kernel
theorem dX12_of_70 : decode cX12_of 70 = .ok (.istore 4, 2) := by decide +kernel
theorem dX12_of_72 : decode cX12_of 72 = .ok (.iinc 5 1, 3) := by decide +kernel
theorem dX12_of_75 : decode cX12_of 75 = .ok (.goto (-41), 3) := by decide +kernel
theorem dX12_of_78 : decode cX12_of 78 = .ok (.iload_n 2, 1) := by decide +kernel
theorem dX12_of_79 : decode cX12_of 79 = .ok (.tableswitch 84 0 5 #[37, 39, 42, 52, 61, 75], 37) := by decide +kernel
theorem dX12_of_116 : decode cX12_of 116 = .ok (.iload_n 3, 1) := by decide +kernel
theorem dX12_of_117 : decode cX12_of 117 = .ok (.ireturn, 1) := by decide +kernel
theorem dX12_of_118 : decode cX12_of 118 = .ok (.iload 4, 2) := by decide +kernel
theorem dX12_of_120 : decode cX12_of 120 = .ok (.ireturn, 1) := by decide +kernel
theorem dX12_of_121 : decode cX12_of 121 = .ok (.aload_n 0, 1) := by decide +kernel
theorem dX12_of_122 : decode cX12_of 122 = .ok (.getfield 25, 3) := by decide +kernel
theorem dX12_of_125 : decode cX12_of 125 = .ok (.iload_n 1, 1) := by decide +kernel
theorem dX12_of_126 : decode cX12_of 126 = .ok (.laload, 1) := by decide +kernel
theorem dX12_of_127 : decode cX12_of 127 = .ok (.invokestatic 166, 3) := by decide +kernel
theorem dX12_of_130 : decode cX12_of 130 = .ok (.ireturn, 1) := by decide +kernel
theorem dX12_of_131 : decode cX12_of 131 = .ok (.aload_n 0, 1) := by decide +kernel
theorem dX12_of_132 : decode cX12_of 132 = .ok (.iload_n 1, 1) := by decide +kernel
theorem dX12_of_133 : decode cX12_of 133 = .ok (.invokevirtual 157, 3) := by decide +kernel
theorem dX12_of_136 : decode cX12_of 136 = .ok (.invokestatic 166, 3) := by decide +kernel
theorem dX12_of_139 : decode cX12_of 139 = .ok (.ireturn, 1) := by decide +kernel
theorem dX12_of_140 : decode cX12_of 140 = .ok (.aload_n 0, 1) := by decide +kernel
theorem dX12_of_141 : decode cX12_of 141 = .ok (.iload_n 1, 1) := by decide +kernel
theorem dX12_of_142 : decode cX12_of 142 = .ok (.invokevirtual 170, 3) := by decide +kernel
theorem dX12_of_145 : decode cX12_of 145 = .ok (.ifCond .eq 7, 3) := by decide +kernel
theorem dX12_of_148 : decode cX12_of 148 = .ok (.iconst 1, 1) := by decide +kernel
theorem dX12_of_149 : decode cX12_of 149 = .ok (.goto 4, 3) := by decide +kernel
theorem dX12_of_152 : decode cX12_of 152 = .ok (.iconst 0, 1) := by decide +kernel
theorem dX12_of_153 : decode cX12_of 153 = .ok (.ireturn, 1) := by decide +kernel
theorem dX12_of_154 : decode cX12_of 154 = .ok (.aload_n 0, 1) := by decide +kernel
theorem dX12_of_155 : decode cX12_of 155 = .ok (.iload_n 1, 1) := by decide +kernel
theorem dX12_of_156 : decode cX12_of 156 = .ok (.invokevirtual 157, 3) := by decide +kernel
theorem dX12_of_159 : decode cX12_of 159 = .ok (.invokestatic 173, 3) := by decide +kernel
theorem dX12_of_162 : decode cX12_of 162 = .ok (.ireturn, 1) := by decide +kernel
theorem dX12_of_163 : decode cX12_of 163 = .ok (.iload_n 1, 1) := by decide +kernel
theorem dX12_of_164 : decode cX12_of 164 = .ok (.i2l, 1) := by decide +kernel
theorem dX12_of_165 : decode cX12_of 165 = .ok (.invokestatic 166, 3) := by decide +kernel
theorem dX12_of_168 : decode cX12_of 168 = .ok (.ireturn, 1) := by decide +kernel
theorem dX12_parts_0 : decode cX12_parts 0 = .ok (.iload_n 1, 1) := by decide +kernel
theorem dX12_parts_1 : decode cX12_parts 1 = .ok (.i2l, 1) := by decide +kernel
theorem dX12_parts_2 : decode cX12_parts 2 = .ok (.lconst 0, 1) := by decide +kernel
theorem dX12_parts_3 : decode cX12_parts 3 = .ok (.ldc2_w 176, 3) := by decide +kernel
theorem dX12_parts_6 : decode cX12_parts 6 = .ok (.invokestatic 72, 3) := by decide +kernel
theorem dX12_parts_9 : decode cX12_parts 9 = .ok (.ifCond .ne 5, 3) := by decide +kernel
theorem dX12_parts_12 : decode cX12_parts 12 = .ok (.iconst (-1), 1) := by decide +kernel
theorem dX12_parts_13 : decode cX12_parts 13 = .ok (.ireturn, 1) := by decide +kernel
theorem dX12_parts_14 : decode cX12_parts 14 = .ok (.aload_n 0, 1) := by decide +kernel
theorem dX12_parts_15 : decode cX12_parts 15 = .ok (.invokevirtual 163, 3) := by decide +kernel
theorem dX12_parts_18 : decode cX12_parts 18 = .ok (.iconst 0, 1) := by decide +kernel
theorem dX12_parts_19 : decode cX12_parts 19 = .ok (.istore_n 2, 1) := by decide +kernel
theorem dX12_parts_20 : decode cX12_parts 20 = .ok (.iconst 0, 1) := by decide +kernel
theorem dX12_parts_21 : decode cX12_parts 21 = .ok (.istore_n 3, 1) := by decide +kernel
theorem dX12_parts_22 : decode cX12_parts 22 = .ok (.iconst 0, 1) := by decide +kernel
theorem dX12_parts_23 : decode cX12_parts 23 = .ok (.istore 4, 2) := by decide +kernel
theorem dX12_parts_25 : decode cX12_parts 25 = .ok (.iconst 0, 1) := by decide +kernel
theorem dX12_parts_26 : decode cX12_parts 26 = .ok (.istore 5, 2) := by decide +kernel
theorem dX12_parts_28 : decode cX12_parts 28 = .ok (.iload 5, 2) := by decide +kernel
theorem dX12_parts_30 : decode cX12_parts 30 = .ok (.aload_n 0, 1) := by decide +kernel
theorem dX12_parts_31 : decode cX12_parts 31 = .ok (.invokevirtual 68, 3) := by decide +kernel
theorem dX12_parts_34 : decode cX12_parts 34 = .ok (.if_icmp .ge 65, 3) := by decide +kernel
theorem dX12_parts_37 : decode cX12_parts 37 = .ok (.aload_n 0, 1) := by decide +kernel
theorem dX12_parts_38 : decode cX12_parts 38 = .ok (.iload 5, 2) := by decide +kernel
theorem dX12_parts_40 : decode cX12_parts 40 = .ok (.invokevirtual 157, 3) := by decide +kernel
theorem dX12_parts_43 : decode cX12_parts 43 = .ok (.invokestatic 173, 3) := by decide +kernel
theorem dX12_parts_46 : decode cX12_parts 46 = .ok (.iload 5, 2) := by decide +kernel
theorem dX12_parts_48 : decode cX12_parts 48 = .ok (.if_icmp .ne 45, 3) := by decide +kernel
theorem dX12_parts_51 : decode cX12_parts 51 = .ok (.iinc 2 1, 3) := by decide +kernel
theorem dX12_parts_54 : decode cX12_parts 54 = .ok (.aload_n 0, 1) := by decide +kernel
theorem dX12_parts_55 : decode cX12_parts 55 = .ok (.iload 5, 2) := by decide +kernel
theorem dX12_parts_57 : decode cX12_parts 57 = .ok (.invokevirtual 170, 3) := by decide +kernel
theorem dX12_parts_60 : decode cX12_parts 60 = .ok (.ifCond .eq 33, 3) := by decide +kernel
theorem dX12_parts_63 : decode cX12_parts 63 = .ok (.iinc 3 1, 3) := by decide +kernel
theorem dX12_parts_66 : decode cX12_parts 66 = .ok (.aload_n 0, 1) := by decide +kernel
theorem dX12_parts_67 : decode cX12_parts 67 = .ok (.iload 5, 2) := by decide +kernel
theorem dX12_parts_69 : decode cX12_parts 69 = .ok (.invokevirtual 157, 3) := by decide +kernel
theorem dX12_parts_72 : decode cX12_parts 72 = .ok (.invokestatic 166, 3) := by decide +kernel
theorem dX12_parts_75 : decode cX12_parts 75 = .ok (.istore 6, 2) := by decide +kernel
theorem dX12_parts_77 : decode cX12_parts 77 = .ok (.iload 6, 2) := by decide +kernel
theorem dX12_parts_79 : decode cX12_parts 79 = .ok (.iload 4, 2) := by decide +kernel
theorem dX12_parts_81 : decode cX12_parts 81 = .ok (.if_icmp .le 8, 3) := by decide +kernel
theorem dX12_parts_84 : decode cX12_parts 84 = .ok (.iload 6, 2) := by decide +kernel
theorem dX12_parts_86 : decode cX12_parts 86 = .ok (.goto 5, 3) := by decide +kernel
theorem dX12_parts_89 : decode cX12_parts 89 = .ok (.iload 4, 2) := by decide +kernel
theorem dX12_parts_91 : decode cX12_parts 91 = .ok (.istore 4, 2) := by decide +kernel
theorem dX12_parts_93 : decode cX12_parts 93 = .ok (.iinc 5 1, 3) := by decide +kernel
theorem dX12_parts_96 : decode cX12_parts 96 = .ok (.goto (-68), 3) := by decide +kernel
theorem dX12_parts_99 : decode cX12_parts 99 = .ok (.iload_n 1, 1) := by decide +kernel
theorem dX12_parts_100 : decode cX12_parts 100 = .ok (.ifCond .ne 7, 3) := by decide +kernel
theorem dX12_parts_103 : decode cX12_parts 103 = .ok (.iload_n 2, 1) := by decide +kernel
theorem dX12_parts_104 : decode cX12_parts 104 = .ok (.goto 14, 3) := by decide +kernel
theorem dX12_parts_107 : decode cX12_parts 107 = .ok (.iload_n 1, 1) := by decide +kernel
theorem dX12_parts_108 : decode cX12_parts 108 = .ok (.iconst 1, 1) := by decide +kernel
theorem dX12_parts_109 : decode cX12_parts 109 = .ok (.if_icmp .ne 7, 3) := by decide +kernel
theorem dX12_parts_112 : decode cX12_parts 112 = .ok (.iload_n 3, 1) := by decide +kernel
theorem dX12_parts_113 : decode cX12_parts 113 = .ok (.goto 5, 3) := by decide +kernel
theorem dX12_parts_116 : decode cX12_parts 116 = .ok (.iload 4, 2) := by decide +kernel
theorem dX12_parts_118 : decode cX12_parts 118 = .ok (.ireturn, 1) := by decide +kernel
theorem dX12_layMembers_0 : decode cX12_layMembers 0 = .ok (.aload_n 0, 1) := by decide +kernel
theorem dX12_layMembers_1 : decode cX12_layMembers 1 = .ok (.iload_n 1, 1) := by decide +kernel
theorem dX12_layMembers_2 : decode cX12_layMembers 2 = .ok (.invokevirtual 157, 3) := by decide +kernel
theorem dX12_layMembers_5 : decode cX12_layMembers 5 = .ok (.lstore_n 2, 1) := by decide +kernel
theorem dX12_layMembers_6 : decode cX12_layMembers 6 = .ok (.aload_n 0, 1) := by decide +kernel
theorem dX12_layMembers_7 : decode cX12_layMembers 7 = .ok (.iconst 0, 1) := by decide +kernel
theorem dX12_layMembers_8 : decode cX12_layMembers 8 = .ok (.putfield 178, 3) := by decide +kernel
theorem dX12_layMembers_11 : decode cX12_layMembers 11 = .ok (.iconst 0, 1) := by decide +kernel
theorem dX12_layMembers_12 : decode cX12_layMembers 12 = .ok (.istore 4, 2) := by decide +kernel
theorem dX12_layMembers_14 : decode cX12_layMembers 14 = .ok (.iload 4, 2) := by decide +kernel
theorem dX12_layMembers_16 : decode cX12_layMembers 16 = .ok (.aload_n 0, 1) := by decide +kernel
theorem dX12_layMembers_17 : decode cX12_layMembers 17 = .ok (.invokevirtual 68, 3) := by decide +kernel
theorem dX12_layMembers_20 : decode cX12_layMembers 20 = .ok (.if_icmp .ge 41, 3) := by decide +kernel
theorem dX12_layMembers_23 : decode cX12_layMembers 23 = .ok (.lload_n 2, 1) := by decide +kernel
theorem dX12_layMembers_24 : decode cX12_layMembers 24 = .ok (.iload 4, 2) := by decide +kernel
theorem dX12_layMembers_26 : decode cX12_layMembers 26 = .ok (.lshr, 1) := by decide +kernel
theorem dX12_layMembers_27 : decode cX12_layMembers 27 = .ok (.lconst 1, 1) := by decide +kernel
theorem dX12_layMembers_28 : decode cX12_layMembers 28 = .ok (.land, 1) := by decide +kernel
theorem dX12_layMembers_29 : decode cX12_layMembers 29 = .ok (.lconst 1, 1) := by decide +kernel
theorem dX12_layMembers_30 : decode cX12_layMembers 30 = .ok (.lcmp, 1) := by decide +kernel
theorem dX12_layMembers_31 : decode cX12_layMembers 31 = .ok (.ifCond .ne 24, 3) := by decide +kernel
theorem dX12_layMembers_34 : decode cX12_layMembers 34 = .ok (.aload_n 0, 1) := by decide +kernel
theorem dX12_layMembers_35 : decode cX12_layMembers 35 = .ok (.getfield 29, 3) := by decide +kernel
theorem dX12_layMembers_38 : decode cX12_layMembers 38 = .ok (.aload_n 0, 1) := by decide +kernel
theorem dX12_layMembers_39 : decode cX12_layMembers 39 = .ok (.getfield 178, 3) := by decide +kernel
theorem dX12_layMembers_42 : decode cX12_layMembers 42 = .ok (.iload 4, 2) := by decide +kernel
theorem dX12_layMembers_44 : decode cX12_layMembers 44 = .ok (.iastore, 1) := by decide +kernel
theorem dX12_layMembers_45 : decode cX12_layMembers 45 = .ok (.aload_n 0, 1) := by decide +kernel
theorem dX12_layMembers_46 : decode cX12_layMembers 46 = .ok (.dup, 1) := by decide +kernel
theorem dX12_layMembers_47 : decode cX12_layMembers 47 = .ok (.getfield 178, 3) := by decide +kernel
theorem dX12_layMembers_50 : decode cX12_layMembers 50 = .ok (.iconst 1, 1) := by decide +kernel
theorem dX12_layMembers_51 : decode cX12_layMembers 51 = .ok (.iadd, 1) := by decide +kernel
theorem dX12_layMembers_52 : decode cX12_layMembers 52 = .ok (.putfield 178, 3) := by decide +kernel
theorem dX12_layMembers_55 : decode cX12_layMembers 55 = .ok (.iinc 4 1, 3) := by decide +kernel
theorem dX12_layMembers_58 : decode cX12_layMembers 58 = .ok (.goto (-44), 3) := by decide +kernel
theorem dX12_layMembers_61 : decode cX12_layMembers 61 = .ok (.return_, 1) := by decide +kernel
theorem dX12_weightOf_0 : decode cX12_weightOf 0 = .ok (.aload_n 0, 1) := by decide +kernel
theorem dX12_weightOf_1 : decode cX12_weightOf 1 = .ok (.getfield 178, 3) := by decide +kernel
theorem dX12_weightOf_4 : decode cX12_weightOf 4 = .ok (.iconst 1, 1) := by decide +kernel
theorem dX12_weightOf_5 : decode cX12_weightOf 5 = .ok (.isub, 1) := by decide +kernel
theorem dX12_weightOf_6 : decode cX12_weightOf 6 = .ok (.istore_n 2, 1) := by decide +kernel
theorem dX12_weightOf_7 : decode cX12_weightOf 7 = .ok (.iconst 0, 1) := by decide +kernel
theorem dX12_weightOf_8 : decode cX12_weightOf 8 = .ok (.istore_n 3, 1) := by decide +kernel
theorem dX12_weightOf_9 : decode cX12_weightOf 9 = .ok (.iload_n 3, 1) := by decide +kernel
theorem dX12_weightOf_10 : decode cX12_weightOf 10 = .ok (.iload_n 2, 1) := by decide +kernel
theorem dX12_weightOf_11 : decode cX12_weightOf 11 = .ok (.if_icmp .ge 134, 3) := by decide +kernel
theorem dX12_weightOf_14 : decode cX12_weightOf 14 = .ok (.aload_n 0, 1) := by decide +kernel
theorem dX12_weightOf_15 : decode cX12_weightOf 15 = .ok (.getfield 29, 3) := by decide +kernel
theorem dX12_weightOf_18 : decode cX12_weightOf 18 = .ok (.iload_n 3, 1) := by decide +kernel
theorem dX12_weightOf_19 : decode cX12_weightOf 19 = .ok (.iload_n 1, 1) := by decide +kernel
theorem dX12_weightOf_20 : decode cX12_weightOf 20 = .ok (.if_icmp .ge 7, 3) := by decide +kernel
theorem dX12_weightOf_23 : decode cX12_weightOf 23 = .ok (.iload_n 3, 1) := by decide +kernel
theorem dX12_weightOf_24 : decode cX12_weightOf 24 = .ok (.goto 6, 3) := by decide +kernel
theorem dX12_weightOf_27 : decode cX12_weightOf 27 = .ok (.iload_n 3, 1) := by decide +kernel
theorem dX12_weightOf_28 : decode cX12_weightOf 28 = .ok (.iconst 1, 1) := by decide +kernel
theorem dX12_weightOf_29 : decode cX12_weightOf 29 = .ok (.iadd, 1) := by decide +kernel
theorem dX12_weightOf_30 : decode cX12_weightOf 30 = .ok (.iaload, 1) := by decide +kernel
theorem dX12_weightOf_31 : decode cX12_weightOf 31 = .ok (.istore 4, 2) := by decide +kernel
theorem dX12_weightOf_33 : decode cX12_weightOf 33 = .ok (.lconst 0, 1) := by decide +kernel
theorem dX12_weightOf_34 : decode cX12_weightOf 34 = .ok (.lstore 5, 2) := by decide +kernel
theorem dX12_weightOf_36 : decode cX12_weightOf 36 = .ok (.iconst 0, 1) := by decide +kernel
theorem dX12_weightOf_37 : decode cX12_weightOf 37 = .ok (.istore 7, 2) := by decide +kernel
theorem dX12_weightOf_39 : decode cX12_weightOf 39 = .ok (.iload 7, 2) := by decide +kernel
theorem dX12_weightOf_41 : decode cX12_weightOf 41 = .ok (.aload_n 0, 1) := by decide +kernel
theorem dX12_weightOf_42 : decode cX12_weightOf 42 = .ok (.getfield 178, 3) := by decide +kernel
theorem dX12_weightOf_45 : decode cX12_weightOf 45 = .ok (.if_icmp .ge 28, 3) := by decide +kernel
theorem dX12_weightOf_48 : decode cX12_weightOf 48 = .ok (.lload 5, 2) := by decide +kernel
theorem dX12_weightOf_50 : decode cX12_weightOf 50 = .ok (.aload_n 0, 1) := by decide +kernel
theorem dX12_weightOf_51 : decode cX12_weightOf 51 = .ok (.iload 4, 2) := by decide +kernel
theorem dX12_weightOf_53 : decode cX12_weightOf 53 = .ok (.aload_n 0, 1) := by decide +kernel
theorem dX12_weightOf_54 : decode cX12_weightOf 54 = .ok (.getfield 29, 3) := by decide +kernel
theorem dX12_weightOf_57 : decode cX12_weightOf 57 = .ok (.iload 7, 2) := by decide +kernel
theorem dX12_weightOf_59 : decode cX12_weightOf 59 = .ok (.iaload, 1) := by decide +kernel
theorem dX12_weightOf_60 : decode cX12_weightOf 60 = .ok (.invokevirtual 154, 3) := by decide +kernel
theorem dX12_weightOf_63 : decode cX12_weightOf 63 = .ok (.i2l, 1) := by decide +kernel
theorem dX12_weightOf_64 : decode cX12_weightOf 64 = .ok (.ladd, 1) := by decide +kernel
theorem dX12_weightOf_65 : decode cX12_weightOf 65 = .ok (.lstore 5, 2) := by decide +kernel
theorem dX12_weightOf_67 : decode cX12_weightOf 67 = .ok (.iinc 7 1, 3) := by decide +kernel
theorem dX12_weightOf_70 : decode cX12_weightOf 70 = .ok (.goto (-31), 3) := by decide +kernel
theorem dX12_weightOf_73 : decode cX12_weightOf 73 = .ok (.iconst 0, 1) := by decide +kernel
theorem dX12_weightOf_74 : decode cX12_weightOf 74 = .ok (.istore 7, 2) := by decide +kernel
theorem dX12_weightOf_76 : decode cX12_weightOf 76 = .ok (.iload 7, 2) := by decide +kernel
theorem dX12_weightOf_78 : decode cX12_weightOf 78 = .ok (.iload_n 2, 1) := by decide +kernel
theorem dX12_weightOf_79 : decode cX12_weightOf 79 = .ok (.if_icmp .ge 60, 3) := by decide +kernel
theorem dX12_weightOf_82 : decode cX12_weightOf 82 = .ok (.aload_n 0, 1) := by decide +kernel
theorem dX12_weightOf_83 : decode cX12_weightOf 83 = .ok (.getfield 35, 3) := by decide +kernel
theorem dX12_weightOf_86 : decode cX12_weightOf 86 = .ok (.bipush 8, 2) := by decide +kernel
theorem dX12_weightOf_88 : decode cX12_weightOf 88 = .ok (.iload_n 3, 1) := by decide +kernel
theorem dX12_weightOf_89 : decode cX12_weightOf 89 = .ok (.imul, 1) := by decide +kernel
theorem dX12_weightOf_90 : decode cX12_weightOf 90 = .ok (.iload 7, 2) := by decide +kernel
theorem dX12_weightOf_92 : decode cX12_weightOf 92 = .ok (.iadd, 1) := by decide +kernel
theorem dX12_weightOf_93 : decode cX12_weightOf 93 = .ok (.iload_n 3, 1) := by decide +kernel
theorem dX12_weightOf_94 : decode cX12_weightOf 94 = .ok (.iload 7, 2) := by decide +kernel
theorem dX12_weightOf_96 : decode cX12_weightOf 96 = .ok (.if_icmp .ne 8, 3) := by decide +kernel
theorem dX12_weightOf_99 : decode cX12_weightOf 99 = .ok (.lload 5, 2) := by decide +kernel
theorem dX12_weightOf_101 : decode cX12_weightOf 101 = .ok (.goto 31, 3) := by decide +kernel
theorem dX12_weightOf_104 : decode cX12_weightOf 104 = .ok (.aload_n 0, 1) := by decide +kernel
theorem dX12_weightOf_105 : decode cX12_weightOf 105 = .ok (.iload 4, 2) := by decide +kernel
theorem dX12_weightOf_107 : decode cX12_weightOf 107 = .ok (.aload_n 0, 1) := by decide +kernel
theorem dX12_weightOf_108 : decode cX12_weightOf 108 = .ok (.getfield 29, 3) := by decide +kernel
theorem dX12_weightOf_111 : decode cX12_weightOf 111 = .ok (.iload 7, 2) := by decide +kernel
theorem dX12_weightOf_113 : decode cX12_weightOf 113 = .ok (.iload_n 1, 1) := by decide +kernel
theorem dX12_weightOf_114 : decode cX12_weightOf 114 = .ok (.if_icmp .ge 8, 3) := by decide +kernel
theorem dX12_weightOf_117 : decode cX12_weightOf 117 = .ok (.iload 7, 2) := by decide +kernel
theorem dX12_weightOf_119 : decode cX12_weightOf 119 = .ok (.goto 7, 3) := by decide +kernel
theorem dX12_weightOf_122 : decode cX12_weightOf 122 = .ok (.iload 7, 2) := by decide +kernel
theorem dX12_weightOf_124 : decode cX12_weightOf 124 = .ok (.iconst 1, 1) := by decide +kernel
theorem dX12_weightOf_125 : decode cX12_weightOf 125 = .ok (.iadd, 1) := by decide +kernel
theorem dX12_weightOf_126 : decode cX12_weightOf 126 = .ok (.iaload, 1) := by decide +kernel
theorem dX12_weightOf_127 : decode cX12_weightOf 127 = .ok (.invokevirtual 154, 3) := by decide +kernel
theorem dX12_weightOf_130 : decode cX12_weightOf 130 = .ok (.ineg, 1) := by decide +kernel
theorem dX12_weightOf_131 : decode cX12_weightOf 131 = .ok (.i2l, 1) := by decide +kernel
theorem dX12_weightOf_132 : decode cX12_weightOf 132 = .ok (.lastore, 1) := by decide +kernel
theorem dX12_weightOf_133 : decode cX12_weightOf 133 = .ok (.iinc 7 1, 3) := by decide +kernel
theorem dX12_weightOf_136 : decode cX12_weightOf 136 = .ok (.goto (-60), 3) := by decide +kernel
theorem dX12_weightOf_139 : decode cX12_weightOf 139 = .ok (.iinc 3 1, 3) := by decide +kernel
theorem dX12_weightOf_142 : decode cX12_weightOf 142 = .ok (.goto (-133), 3) := by decide +kernel
theorem dX12_weightOf_145 : decode cX12_weightOf 145 = .ok (.lconst 1, 1) := by decide +kernel
theorem dX12_weightOf_146 : decode cX12_weightOf 146 = .ok (.lstore_n 3, 1) := by decide +kernel
theorem dX12_weightOf_147 : decode cX12_weightOf 147 = .ok (.iconst 0, 1) := by decide +kernel
theorem dX12_weightOf_148 : decode cX12_weightOf 148 = .ok (.istore 5, 2) := by decide +kernel
theorem dX12_weightOf_150 : decode cX12_weightOf 150 = .ok (.iload 5, 2) := by decide +kernel
theorem dX12_weightOf_152 : decode cX12_weightOf 152 = .ok (.iconst 1, 1) := by decide +kernel
theorem dX12_weightOf_153 : decode cX12_weightOf 153 = .ok (.iadd, 1) := by decide +kernel
theorem dX12_weightOf_154 : decode cX12_weightOf 154 = .ok (.iload_n 2, 1) := by decide +kernel
theorem dX12_weightOf_155 : decode cX12_weightOf 155 = .ok (.if_icmp .ge 129, 3) := by decide +kernel
theorem dX12_weightOf_158 : decode cX12_weightOf 158 = .ok (.iload 5, 2) := by decide +kernel
theorem dX12_weightOf_160 : decode cX12_weightOf 160 = .ok (.iconst 1, 1) := by decide +kernel
theorem dX12_weightOf_161 : decode cX12_weightOf 161 = .ok (.iadd, 1) := by decide +kernel
theorem dX12_weightOf_162 : decode cX12_weightOf 162 = .ok (.istore 6, 2) := by decide +kernel
theorem dX12_weightOf_164 : decode cX12_weightOf 164 = .ok (.iload 6, 2) := by decide +kernel
theorem dX12_weightOf_166 : decode cX12_weightOf 166 = .ok (.iload_n 2, 1) := by decide +kernel
theorem dX12_weightOf_167 : decode cX12_weightOf 167 = .ok (.if_icmp .ge 97, 3) := by decide +kernel
theorem dX12_weightOf_170 : decode cX12_weightOf 170 = .ok (.iload 5, 2) := by decide +kernel
theorem dX12_weightOf_172 : decode cX12_weightOf 172 = .ok (.iconst 1, 1) := by decide +kernel
theorem dX12_weightOf_173 : decode cX12_weightOf 173 = .ok (.iadd, 1) := by decide +kernel
theorem dX12_weightOf_174 : decode cX12_weightOf 174 = .ok (.istore 7, 2) := by decide +kernel
theorem dX12_weightOf_176 : decode cX12_weightOf 176 = .ok (.iload 7, 2) := by decide +kernel
theorem dX12_weightOf_178 : decode cX12_weightOf 178 = .ok (.iload_n 2, 1) := by decide +kernel
theorem dX12_weightOf_179 : decode cX12_weightOf 179 = .ok (.if_icmp .ge 79, 3) := by decide +kernel
theorem dX12_weightOf_182 : decode cX12_weightOf 182 = .ok (.aload_n 0, 1) := by decide +kernel
theorem dX12_weightOf_183 : decode cX12_weightOf 183 = .ok (.getfield 35, 3) := by decide +kernel
theorem dX12_weightOf_186 : decode cX12_weightOf 186 = .ok (.bipush 8, 2) := by decide +kernel
theorem dX12_weightOf_188 : decode cX12_weightOf 188 = .ok (.iload 6, 2) := by decide +kernel
theorem dX12_weightOf_190 : decode cX12_weightOf 190 = .ok (.imul, 1) := by decide +kernel
theorem dX12_weightOf_191 : decode cX12_weightOf 191 = .ok (.iload 7, 2) := by decide +kernel
theorem dX12_weightOf_193 : decode cX12_weightOf 193 = .ok (.iadd, 1) := by decide +kernel
theorem dX12_weightOf_194 : decode cX12_weightOf 194 = .ok (.aload_n 0, 1) := by decide +kernel
theorem dX12_weightOf_195 : decode cX12_weightOf 195 = .ok (.getfield 35, 3) := by decide +kernel
theorem dX12_weightOf_198 : decode cX12_weightOf 198 = .ok (.bipush 8, 2) := by decide +kernel
theorem dX12_weightOf_200 : decode cX12_weightOf 200 = .ok (.iload 6, 2) := by decide +kernel
theorem dX12_weightOf_202 : decode cX12_weightOf 202 = .ok (.imul, 1) := by decide +kernel
theorem dX12_weightOf_203 : decode cX12_weightOf 203 = .ok (.iload 7, 2) := by decide +kernel
theorem dX12_weightOf_205 : decode cX12_weightOf 205 = .ok (.iadd, 1) := by decide +kernel
theorem dX12_weightOf_206 : decode cX12_weightOf 206 = .ok (.laload, 1) := by decide +kernel
theorem dX12_weightOf_207 : decode cX12_weightOf 207 = .ok (.aload_n 0, 1) := by decide +kernel
theorem dX12_weightOf_208 : decode cX12_weightOf 208 = .ok (.getfield 35, 3) := by decide +kernel
theorem dX12_weightOf_211 : decode cX12_weightOf 211 = .ok (.bipush 8, 2) := by decide +kernel
theorem dX12_weightOf_213 : decode cX12_weightOf 213 = .ok (.iload 5, 2) := by decide +kernel
theorem dX12_weightOf_215 : decode cX12_weightOf 215 = .ok (.imul, 1) := by decide +kernel
theorem dX12_weightOf_216 : decode cX12_weightOf 216 = .ok (.iload 5, 2) := by decide +kernel
theorem dX12_weightOf_218 : decode cX12_weightOf 218 = .ok (.iadd, 1) := by decide +kernel
theorem dX12_weightOf_219 : decode cX12_weightOf 219 = .ok (.laload, 1) := by decide +kernel
theorem dX12_weightOf_220 : decode cX12_weightOf 220 = .ok (.lmul, 1) := by decide +kernel
theorem dX12_weightOf_221 : decode cX12_weightOf 221 = .ok (.aload_n 0, 1) := by decide +kernel
theorem dX12_weightOf_222 : decode cX12_weightOf 222 = .ok (.getfield 35, 3) := by decide +kernel
theorem dX12_weightOf_225 : decode cX12_weightOf 225 = .ok (.bipush 8, 2) := by decide +kernel
theorem dX12_weightOf_227 : decode cX12_weightOf 227 = .ok (.iload 6, 2) := by decide +kernel
theorem dX12_weightOf_229 : decode cX12_weightOf 229 = .ok (.imul, 1) := by decide +kernel
theorem dX12_weightOf_230 : decode cX12_weightOf 230 = .ok (.iload 5, 2) := by decide +kernel
theorem dX12_weightOf_232 : decode cX12_weightOf 232 = .ok (.iadd, 1) := by decide +kernel
theorem dX12_weightOf_233 : decode cX12_weightOf 233 = .ok (.laload, 1) := by decide +kernel
theorem dX12_weightOf_234 : decode cX12_weightOf 234 = .ok (.aload_n 0, 1) := by decide +kernel
theorem dX12_weightOf_235 : decode cX12_weightOf 235 = .ok (.getfield 35, 3) := by decide +kernel
theorem dX12_weightOf_238 : decode cX12_weightOf 238 = .ok (.bipush 8, 2) := by decide +kernel
theorem dX12_weightOf_240 : decode cX12_weightOf 240 = .ok (.iload 5, 2) := by decide +kernel
theorem dX12_weightOf_242 : decode cX12_weightOf 242 = .ok (.imul, 1) := by decide +kernel
theorem dX12_weightOf_243 : decode cX12_weightOf 243 = .ok (.iload 7, 2) := by decide +kernel
theorem dX12_weightOf_245 : decode cX12_weightOf 245 = .ok (.iadd, 1) := by decide +kernel
theorem dX12_weightOf_246 : decode cX12_weightOf 246 = .ok (.laload, 1) := by decide +kernel
theorem dX12_weightOf_247 : decode cX12_weightOf 247 = .ok (.lmul, 1) := by decide +kernel
theorem dX12_weightOf_248 : decode cX12_weightOf 248 = .ok (.lsub, 1) := by decide +kernel
theorem dX12_weightOf_249 : decode cX12_weightOf 249 = .ok (.lload_n 3, 1) := by decide +kernel
theorem dX12_weightOf_250 : decode cX12_weightOf 250 = .ok (.ldiv, 1) := by decide +kernel
theorem dX12_weightOf_251 : decode cX12_weightOf 251 = .ok (.lastore, 1) := by decide +kernel
theorem dX12_weightOf_252 : decode cX12_weightOf 252 = .ok (.iinc 7 1, 3) := by decide +kernel
theorem dX12_weightOf_255 : decode cX12_weightOf 255 = .ok (.goto (-79), 3) := by decide +kernel
theorem dX12_weightOf_258 : decode cX12_weightOf 258 = .ok (.iinc 6 1, 3) := by decide +kernel
theorem dX12_weightOf_261 : decode cX12_weightOf 261 = .ok (.goto (-97), 3) := by decide +kernel
theorem dX12_weightOf_264 : decode cX12_weightOf 264 = .ok (.aload_n 0, 1) := by decide +kernel
theorem dX12_weightOf_265 : decode cX12_weightOf 265 = .ok (.getfield 35, 3) := by decide +kernel
theorem dX12_weightOf_268 : decode cX12_weightOf 268 = .ok (.bipush 8, 2) := by decide +kernel
theorem dX12_weightOf_270 : decode cX12_weightOf 270 = .ok (.iload 5, 2) := by decide +kernel
theorem dX12_weightOf_272 : decode cX12_weightOf 272 = .ok (.imul, 1) := by decide +kernel
theorem dX12_weightOf_273 : decode cX12_weightOf 273 = .ok (.iload 5, 2) := by decide +kernel
theorem dX12_weightOf_275 : decode cX12_weightOf 275 = .ok (.iadd, 1) := by decide +kernel
theorem dX12_weightOf_276 : decode cX12_weightOf 276 = .ok (.laload, 1) := by decide +kernel
theorem dX12_weightOf_277 : decode cX12_weightOf 277 = .ok (.lstore_n 3, 1) := by decide +kernel
theorem dX12_weightOf_278 : decode cX12_weightOf 278 = .ok (.iinc 5 1, 3) := by decide +kernel
theorem dX12_weightOf_281 : decode cX12_weightOf 281 = .ok (.goto (-131), 3) := by decide +kernel
theorem dX12_weightOf_284 : decode cX12_weightOf 284 = .ok (.iload_n 2, 1) := by decide +kernel
theorem dX12_weightOf_285 : decode cX12_weightOf 285 = .ok (.ifCond .ne 7, 3) := by decide +kernel
theorem dX12_weightOf_288 : decode cX12_weightOf 288 = .ok (.lconst 1, 1) := by decide +kernel
theorem dX12_weightOf_289 : decode cX12_weightOf 289 = .ok (.goto 18, 3) := by decide +kernel
theorem dX12_weightOf_292 : decode cX12_weightOf 292 = .ok (.aload_n 0, 1) := by decide +kernel
theorem dX12_weightOf_293 : decode cX12_weightOf 293 = .ok (.getfield 35, 3) := by decide +kernel
theorem dX12_weightOf_296 : decode cX12_weightOf 296 = .ok (.bipush 8, 2) := by decide +kernel
theorem dX12_weightOf_298 : decode cX12_weightOf 298 = .ok (.iload_n 2, 1) := by decide +kernel
theorem dX12_weightOf_299 : decode cX12_weightOf 299 = .ok (.iconst 1, 1) := by decide +kernel
theorem dX12_weightOf_300 : decode cX12_weightOf 300 = .ok (.isub, 1) := by decide +kernel
theorem dX12_weightOf_301 : decode cX12_weightOf 301 = .ok (.imul, 1) := by decide +kernel
theorem dX12_weightOf_302 : decode cX12_weightOf 302 = .ok (.iload_n 2, 1) := by decide +kernel
theorem dX12_weightOf_303 : decode cX12_weightOf 303 = .ok (.iadd, 1) := by decide +kernel
theorem dX12_weightOf_304 : decode cX12_weightOf 304 = .ok (.iconst 1, 1) := by decide +kernel
theorem dX12_weightOf_305 : decode cX12_weightOf 305 = .ok (.isub, 1) := by decide +kernel
theorem dX12_weightOf_306 : decode cX12_weightOf 306 = .ok (.laload, 1) := by decide +kernel
theorem dX12_weightOf_307 : decode cX12_weightOf 307 = .ok (.lreturn, 1) := by decide +kernel
theorem dX12_layRest_0 : decode cX12_layRest 0 = .ok (.aload_n 0, 1) := by decide +kernel
theorem dX12_layRest_1 : decode cX12_layRest 1 = .ok (.invokevirtual 163, 3) := by decide +kernel
theorem dX12_layRest_4 : decode cX12_layRest 4 = .ok (.aload_n 0, 1) := by decide +kernel
theorem dX12_layRest_5 : decode cX12_layRest 5 = .ok (.iload_n 1, 1) := by decide +kernel
theorem dX12_layRest_6 : decode cX12_layRest 6 = .ok (.invokevirtual 170, 3) := by decide +kernel
theorem dX12_layRest_9 : decode cX12_layRest 9 = .ok (.ifCond .ne 6, 3) := by decide +kernel
theorem dX12_layRest_12 : decode cX12_layRest 12 = .ok (.bipush (-4), 2) := by decide +kernel
theorem dX12_layRest_14 : decode cX12_layRest 14 = .ok (.ireturn, 1) := by decide +kernel
theorem dX12_layRest_15 : decode cX12_layRest 15 = .ok (.aload_n 0, 1) := by decide +kernel
theorem dX12_layRest_16 : decode cX12_layRest 16 = .ok (.iload_n 1, 1) := by decide +kernel
theorem dX12_layRest_17 : decode cX12_layRest 17 = .ok (.invokevirtual 181, 3) := by decide +kernel
theorem dX12_layRest_20 : decode cX12_layRest 20 = .ok (.aload_n 0, 1) := by decide +kernel
theorem dX12_layRest_21 : decode cX12_layRest 21 = .ok (.getfield 178, 3) := by decide +kernel
theorem dX12_layRest_24 : decode cX12_layRest 24 = .ok (.bipush 8, 2) := by decide +kernel
theorem dX12_layRest_26 : decode cX12_layRest 26 = .ok (.if_icmp .le 6, 3) := by decide +kernel
theorem dX12_layRest_29 : decode cX12_layRest 29 = .ok (.bipush (-6), 2) := by decide +kernel
theorem dX12_layRest_31 : decode cX12_layRest 31 = .ok (.ireturn, 1) := by decide +kernel
theorem dX12_layRest_32 : decode cX12_layRest 32 = .ok (.iconst 0, 1) := by decide +kernel
theorem dX12_layRest_33 : decode cX12_layRest 33 = .ok (.istore_n 2, 1) := by decide +kernel
theorem dX12_layRest_34 : decode cX12_layRest 34 = .ok (.iload_n 2, 1) := by decide +kernel
theorem dX12_layRest_35 : decode cX12_layRest 35 = .ok (.aload_n 0, 1) := by decide +kernel
theorem dX12_layRest_36 : decode cX12_layRest 36 = .ok (.getfield 178, 3) := by decide +kernel
theorem dX12_layRest_39 : decode cX12_layRest 39 = .ok (.if_icmp .ge 20, 3) := by decide +kernel
theorem dX12_layRest_42 : decode cX12_layRest 42 = .ok (.aload_n 0, 1) := by decide +kernel
theorem dX12_layRest_43 : decode cX12_layRest 43 = .ok (.getfield 32, 3) := by decide +kernel
theorem dX12_layRest_46 : decode cX12_layRest 46 = .ok (.iload_n 2, 1) := by decide +kernel
theorem dX12_layRest_47 : decode cX12_layRest 47 = .ok (.aload_n 0, 1) := by decide +kernel
theorem dX12_layRest_48 : decode cX12_layRest 48 = .ok (.iload_n 2, 1) := by decide +kernel
theorem dX12_layRest_49 : decode cX12_layRest 49 = .ok (.invokevirtual 184, 3) := by decide +kernel
theorem dX12_layRest_52 : decode cX12_layRest 52 = .ok (.lastore, 1) := by decide +kernel
theorem dX12_layRest_53 : decode cX12_layRest 53 = .ok (.iinc 2 1, 3) := by decide +kernel
theorem dX12_layRest_56 : decode cX12_layRest 56 = .ok (.goto (-22), 3) := by decide +kernel
theorem dX12_layRest_59 : decode cX12_layRest 59 = .ok (.iconst 1, 1) := by decide +kernel
theorem dX12_layRest_60 : decode cX12_layRest 60 = .ok (.ireturn, 1) := by decide +kernel
theorem dX12_weightAll_0 : decode cX12_weightAll 0 = .ok (.lconst 0, 1) := by decide +kernel
theorem dX12_weightAll_1 : decode cX12_weightAll 1 = .ok (.lstore_n 1, 1) := by decide +kernel
theorem dX12_weightAll_2 : decode cX12_weightAll 2 = .ok (.iconst 0, 1) := by decide +kernel
theorem dX12_weightAll_3 : decode cX12_weightAll 3 = .ok (.istore_n 3, 1) := by decide +kernel
theorem dX12_weightAll_4 : decode cX12_weightAll 4 = .ok (.iload_n 3, 1) := by decide +kernel
theorem dX12_weightAll_5 : decode cX12_weightAll 5 = .ok (.aload_n 0, 1) := by decide +kernel
theorem dX12_weightAll_6 : decode cX12_weightAll 6 = .ok (.getfield 178, 3) := by decide +kernel
theorem dX12_weightAll_9 : decode cX12_weightAll 9 = .ok (.if_icmp .ge 18, 3) := by decide +kernel
theorem dX12_weightAll_12 : decode cX12_weightAll 12 = .ok (.lload_n 1, 1) := by decide +kernel
theorem dX12_weightAll_13 : decode cX12_weightAll 13 = .ok (.aload_n 0, 1) := by decide +kernel
theorem dX12_weightAll_14 : decode cX12_weightAll 14 = .ok (.getfield 32, 3) := by decide +kernel
theorem dX12_weightAll_17 : decode cX12_weightAll 17 = .ok (.iload_n 3, 1) := by decide +kernel
theorem dX12_weightAll_18 : decode cX12_weightAll 18 = .ok (.laload, 1) := by decide +kernel
theorem dX12_weightAll_19 : decode cX12_weightAll 19 = .ok (.ladd, 1) := by decide +kernel
theorem dX12_weightAll_20 : decode cX12_weightAll 20 = .ok (.lstore_n 1, 1) := by decide +kernel
theorem dX12_weightAll_21 : decode cX12_weightAll 21 = .ok (.iinc 3 1, 3) := by decide +kernel
theorem dX12_weightAll_24 : decode cX12_weightAll 24 = .ok (.goto (-20), 3) := by decide +kernel
theorem dX12_weightAll_27 : decode cX12_weightAll 27 = .ok (.lload_n 1, 1) := by decide +kernel
theorem dX12_weightAll_28 : decode cX12_weightAll 28 = .ok (.lreturn, 1) := by decide +kernel
theorem dX12_lowest_0 : decode cX12_lowest 0 = .ok (.lload_n 0, 1) := by decide +kernel
theorem dX12_lowest_1 : decode cX12_lowest 1 = .ok (.lconst 0, 1) := by decide +kernel
theorem dX12_lowest_2 : decode cX12_lowest 2 = .ok (.lcmp, 1) := by decide +kernel
theorem dX12_lowest_3 : decode cX12_lowest 3 = .ok (.ifCond .ge 8, 3) := by decide +kernel
theorem dX12_lowest_6 : decode cX12_lowest 6 = .ok (.lload_n 0, 1) := by decide +kernel
theorem dX12_lowest_7 : decode cX12_lowest 7 = .ok (.lneg, 1) := by decide +kernel
theorem dX12_lowest_8 : decode cX12_lowest 8 = .ok (.goto 4, 3) := by decide +kernel
theorem dX12_lowest_11 : decode cX12_lowest 11 = .ok (.lload_n 0, 1) := by decide +kernel
theorem dX12_lowest_12 : decode cX12_lowest 12 = .ok (.lstore 5, 2) := by decide +kernel
theorem dX12_lowest_14 : decode cX12_lowest 14 = .ok (.lload_n 2, 1) := by decide +kernel
theorem dX12_lowest_15 : decode cX12_lowest 15 = .ok (.lstore 7, 2) := by decide +kernel
theorem dX12_lowest_17 : decode cX12_lowest 17 = .ok (.lload 7, 2) := by decide +kernel
theorem dX12_lowest_19 : decode cX12_lowest 19 = .ok (.lconst 0, 1) := by decide +kernel
theorem dX12_lowest_20 : decode cX12_lowest 20 = .ok (.lcmp, 1) := by decide +kernel
theorem dX12_lowest_21 : decode cX12_lowest 21 = .ok (.ifCond .eq 21, 3) := by decide +kernel
theorem dX12_lowest_24 : decode cX12_lowest 24 = .ok (.lload 5, 2) := by decide +kernel
theorem dX12_lowest_26 : decode cX12_lowest 26 = .ok (.lload 7, 2) := by decide +kernel
theorem dX12_lowest_28 : decode cX12_lowest 28 = .ok (.lrem, 1) := by decide +kernel
theorem dX12_lowest_29 : decode cX12_lowest 29 = .ok (.lstore 9, 2) := by decide +kernel
theorem dX12_lowest_31 : decode cX12_lowest 31 = .ok (.lload 7, 2) := by decide +kernel
theorem dX12_lowest_33 : decode cX12_lowest 33 = .ok (.lstore 5, 2) := by decide +kernel
theorem dX12_lowest_35 : decode cX12_lowest 35 = .ok (.lload 9, 2) := by decide +kernel
theorem dX12_lowest_37 : decode cX12_lowest 37 = .ok (.lstore 7, 2) := by decide +kernel
theorem dX12_lowest_39 : decode cX12_lowest 39 = .ok (.goto (-22), 3) := by decide +kernel
theorem dX12_lowest_42 : decode cX12_lowest 42 = .ok (.iload 4, 2) := by decide +kernel
theorem dX12_lowest_44 : decode cX12_lowest 44 = .ok (.ifCond .ne 7, 3) := by decide +kernel
theorem dX12_lowest_47 : decode cX12_lowest 47 = .ok (.lload_n 0, 1) := by decide +kernel
theorem dX12_lowest_48 : decode cX12_lowest 48 = .ok (.goto 4, 3) := by decide +kernel
theorem dX12_lowest_51 : decode cX12_lowest 51 = .ok (.lload_n 2, 1) := by decide +kernel
theorem dX12_lowest_52 : decode cX12_lowest 52 = .ok (.lload 5, 2) := by decide +kernel
theorem dX12_lowest_54 : decode cX12_lowest 54 = .ok (.ldiv, 1) := by decide +kernel
theorem dX12_lowest_55 : decode cX12_lowest 55 = .ok (.lreturn, 1) := by decide +kernel
theorem dX12_rest_0 : decode cX12_rest 0 = .ok (.aload_n 0, 1) := by decide +kernel
theorem dX12_rest_1 : decode cX12_rest 1 = .ok (.iload_n 1, 1) := by decide +kernel
theorem dX12_rest_2 : decode cX12_rest 2 = .ok (.invokevirtual 150, 3) := by decide +kernel
theorem dX12_rest_5 : decode cX12_rest 5 = .ok (.ifCond .eq 13, 3) := by decide +kernel
theorem dX12_rest_8 : decode cX12_rest 8 = .ok (.iload_n 2, 1) := by decide +kernel
theorem dX12_rest_9 : decode cX12_rest 9 = .ok (.i2l, 1) := by decide +kernel
theorem dX12_rest_10 : decode cX12_rest 10 = .ok (.lconst 0, 1) := by decide +kernel
theorem dX12_rest_11 : decode cX12_rest 11 = .ok (.lconst 1, 1) := by decide +kernel
theorem dX12_rest_12 : decode cX12_rest 12 = .ok (.invokestatic 72, 3) := by decide +kernel
theorem dX12_rest_15 : decode cX12_rest 15 = .ok (.ifCond .ne 7, 3) := by decide +kernel
theorem dX12_rest_18 : decode cX12_rest 18 = .ok (.ldc2_w 187, 3) := by decide +kernel
theorem dX12_rest_21 : decode cX12_rest 21 = .ok (.lreturn, 1) := by decide +kernel
theorem dX12_rest_22 : decode cX12_rest 22 = .ok (.aload_n 0, 1) := by decide +kernel
theorem dX12_rest_23 : decode cX12_rest 23 = .ok (.iload_n 1, 1) := by decide +kernel
theorem dX12_rest_24 : decode cX12_rest 24 = .ok (.invokevirtual 189, 3) := by decide +kernel
theorem dX12_rest_27 : decode cX12_rest 27 = .ok (.istore_n 3, 1) := by decide +kernel
theorem dX12_rest_28 : decode cX12_rest 28 = .ok (.iload_n 3, 1) := by decide +kernel
theorem dX12_rest_29 : decode cX12_rest 29 = .ok (.ifCond .ge 6, 3) := by decide +kernel
theorem dX12_rest_32 : decode cX12_rest 32 = .ok (.iload_n 3, 1) := by decide +kernel
theorem dX12_rest_33 : decode cX12_rest 33 = .ok (.i2l, 1) := by decide +kernel
theorem dX12_rest_34 : decode cX12_rest 34 = .ok (.lreturn, 1) := by decide +kernel
theorem dX12_rest_35 : decode cX12_rest 35 = .ok (.lconst 0, 1) := by decide +kernel
theorem dX12_rest_36 : decode cX12_rest 36 = .ok (.lstore 4, 2) := by decide +kernel
theorem dX12_rest_38 : decode cX12_rest 38 = .ok (.iconst 0, 1) := by decide +kernel
theorem dX12_rest_39 : decode cX12_rest 39 = .ok (.istore 6, 2) := by decide +kernel
theorem dX12_rest_41 : decode cX12_rest 41 = .ok (.iload 6, 2) := by decide +kernel
theorem dX12_rest_43 : decode cX12_rest 43 = .ok (.aload_n 0, 1) := by decide +kernel
theorem dX12_rest_44 : decode cX12_rest 44 = .ok (.getfield 178, 3) := by decide +kernel
theorem dX12_rest_47 : decode cX12_rest 47 = .ok (.if_icmp .ge 34, 3) := by decide +kernel
theorem dX12_rest_50 : decode cX12_rest 50 = .ok (.aload_n 0, 1) := by decide +kernel
theorem dX12_rest_51 : decode cX12_rest 51 = .ok (.getfield 29, 3) := by decide +kernel
theorem dX12_rest_54 : decode cX12_rest 54 = .ok (.iload 6, 2) := by decide +kernel
theorem dX12_rest_56 : decode cX12_rest 56 = .ok (.iaload, 1) := by decide +kernel
theorem dX12_rest_57 : decode cX12_rest 57 = .ok (.iload_n 1, 1) := by decide +kernel
theorem dX12_rest_58 : decode cX12_rest 58 = .ok (.if_icmp .ne 13, 3) := by decide +kernel
theorem dX12_rest_61 : decode cX12_rest 61 = .ok (.aload_n 0, 1) := by decide +kernel
theorem dX12_rest_62 : decode cX12_rest 62 = .ok (.getfield 32, 3) := by decide +kernel
theorem dX12_rest_65 : decode cX12_rest 65 = .ok (.iload 6, 2) := by decide +kernel
theorem dX12_rest_67 : decode cX12_rest 67 = .ok (.laload, 1) := by decide +kernel
theorem dX12_rest_68 : decode cX12_rest 68 = .ok (.goto 5, 3) := by decide +kernel
theorem dX12_rest_71 : decode cX12_rest 71 = .ok (.lload 4, 2) := by decide +kernel
theorem dX12_rest_73 : decode cX12_rest 73 = .ok (.lstore 4, 2) := by decide +kernel
theorem dX12_rest_75 : decode cX12_rest 75 = .ok (.iinc 6 1, 3) := by decide +kernel
theorem dX12_rest_78 : decode cX12_rest 78 = .ok (.goto (-37), 3) := by decide +kernel
theorem dX12_rest_81 : decode cX12_rest 81 = .ok (.lload 4, 2) := by decide +kernel
theorem dX12_rest_83 : decode cX12_rest 83 = .ok (.aload_n 0, 1) := by decide +kernel
theorem dX12_rest_84 : decode cX12_rest 84 = .ok (.invokevirtual 192, 3) := by decide +kernel
theorem dX12_rest_87 : decode cX12_rest 87 = .ok (.iload_n 2, 1) := by decide +kernel
theorem dX12_rest_88 : decode cX12_rest 88 = .ok (.invokestatic 196, 3) := by decide +kernel
theorem dX12_rest_91 : decode cX12_rest 91 = .ok (.lreturn, 1) := by decide +kernel
theorem dX12_goesIn_0 : decode cX12_goesIn 0 = .ok (.aload_n 0, 1) := by decide +kernel
theorem dX12_goesIn_1 : decode cX12_goesIn 1 = .ok (.invokevirtual 139, 3) := by decide +kernel
theorem dX12_goesIn_4 : decode cX12_goesIn 4 = .ok (.iconst 1, 1) := by decide +kernel
theorem dX12_goesIn_5 : decode cX12_goesIn 5 = .ok (.if_icmp .ne 41, 3) := by decide +kernel
theorem dX12_goesIn_8 : decode cX12_goesIn 8 = .ok (.aload_n 0, 1) := by decide +kernel
theorem dX12_goesIn_9 : decode cX12_goesIn 9 = .ok (.invokevirtual 142, 3) := by decide +kernel
theorem dX12_goesIn_12 : decode cX12_goesIn 12 = .ok (.ifCond .eq 32, 3) := by decide +kernel
theorem dX12_goesIn_15 : decode cX12_goesIn 15 = .ok (.aload_n 0, 1) := by decide +kernel
theorem dX12_goesIn_16 : decode cX12_goesIn 16 = .ok (.iload_n 1, 1) := by decide +kernel
theorem dX12_goesIn_17 : decode cX12_goesIn 17 = .ok (.iconst 0, 1) := by decide +kernel
theorem dX12_goesIn_18 : decode cX12_goesIn 18 = .ok (.invokevirtual 135, 3) := by decide +kernel
theorem dX12_goesIn_21 : decode cX12_goesIn 21 = .ok (.ifCond .eq 14, 3) := by decide +kernel
theorem dX12_goesIn_24 : decode cX12_goesIn 24 = .ok (.aload_n 0, 1) := by decide +kernel
theorem dX12_goesIn_25 : decode cX12_goesIn 25 = .ok (.getfield 7, 3) := by decide +kernel
theorem dX12_goesIn_28 : decode cX12_goesIn 28 = .ok (.bipush 7, 2) := by decide +kernel
theorem dX12_goesIn_30 : decode cX12_goesIn 30 = .ok (.iaload, 1) := by decide +kernel
theorem dX12_goesIn_31 : decode cX12_goesIn 31 = .ok (.ineg, 1) := by decide +kernel
theorem dX12_goesIn_32 : decode cX12_goesIn 32 = .ok (.goto 13, 3) := by decide +kernel
theorem dX12_goesIn_35 : decode cX12_goesIn 35 = .ok (.aload_n 0, 1) := by decide +kernel
theorem dX12_goesIn_36 : decode cX12_goesIn 36 = .ok (.getfield 7, 3) := by decide +kernel
theorem dX12_goesIn_39 : decode cX12_goesIn 39 = .ok (.iconst 4, 1) := by decide +kernel
theorem dX12_goesIn_40 : decode cX12_goesIn 40 = .ok (.iaload, 1) := by decide +kernel
theorem dX12_goesIn_41 : decode cX12_goesIn 41 = .ok (.goto 4, 3) := by decide +kernel
theorem dX12_goesIn_44 : decode cX12_goesIn 44 = .ok (.iconst 0, 1) := by decide +kernel
theorem dX12_goesIn_45 : decode cX12_goesIn 45 = .ok (.ireturn, 1) := by decide +kernel
theorem dX12_goesIn_46 : decode cX12_goesIn 46 = .ok (.aload_n 0, 1) := by decide +kernel
theorem dX12_goesIn_47 : decode cX12_goesIn 47 = .ok (.iload_n 1, 1) := by decide +kernel
theorem dX12_goesIn_48 : decode cX12_goesIn 48 = .ok (.iconst 0, 1) := by decide +kernel
theorem dX12_goesIn_49 : decode cX12_goesIn 49 = .ok (.invokevirtual 135, 3) := by decide +kernel
theorem dX12_goesIn_52 : decode cX12_goesIn 52 = .ok (.ifCond .eq 21, 3) := by decide +kernel
theorem dX12_goesIn_55 : decode cX12_goesIn 55 = .ok (.aload_n 0, 1) := by decide +kernel
theorem dX12_goesIn_56 : decode cX12_goesIn 56 = .ok (.iload_n 1, 1) := by decide +kernel
theorem dX12_goesIn_57 : decode cX12_goesIn 57 = .ok (.iconst 1, 1) := by decide +kernel
theorem dX12_goesIn_58 : decode cX12_goesIn 58 = .ok (.invokevirtual 135, 3) := by decide +kernel
theorem dX12_goesIn_61 : decode cX12_goesIn 61 = .ok (.ifCond .ne 12, 3) := by decide +kernel
theorem dX12_goesIn_64 : decode cX12_goesIn 64 = .ok (.aload_n 0, 1) := by decide +kernel
theorem dX12_goesIn_65 : decode cX12_goesIn 65 = .ok (.getfield 7, 3) := by decide +kernel
theorem dX12_goesIn_68 : decode cX12_goesIn 68 = .ok (.iconst 2, 1) := by decide +kernel
theorem dX12_goesIn_69 : decode cX12_goesIn 69 = .ok (.iaload, 1) := by decide +kernel
theorem dX12_goesIn_70 : decode cX12_goesIn 70 = .ok (.goto 32, 3) := by decide +kernel
theorem dX12_goesIn_73 : decode cX12_goesIn 73 = .ok (.aload_n 0, 1) := by decide +kernel
theorem dX12_goesIn_74 : decode cX12_goesIn 74 = .ok (.iload_n 1, 1) := by decide +kernel
theorem dX12_goesIn_75 : decode cX12_goesIn 75 = .ok (.iconst 1, 1) := by decide +kernel
theorem dX12_goesIn_76 : decode cX12_goesIn 76 = .ok (.invokevirtual 135, 3) := by decide +kernel
theorem dX12_goesIn_79 : decode cX12_goesIn 79 = .ok (.ifCond .eq 22, 3) := by decide +kernel
theorem dX12_goesIn_82 : decode cX12_goesIn 82 = .ok (.aload_n 0, 1) := by decide +kernel
theorem dX12_goesIn_83 : decode cX12_goesIn 83 = .ok (.iload_n 1, 1) := by decide +kernel
theorem dX12_goesIn_84 : decode cX12_goesIn 84 = .ok (.iconst 0, 1) := by decide +kernel
theorem dX12_goesIn_85 : decode cX12_goesIn 85 = .ok (.invokevirtual 135, 3) := by decide +kernel
theorem dX12_goesIn_88 : decode cX12_goesIn 88 = .ok (.ifCond .ne 13, 3) := by decide +kernel
theorem dX12_goesIn_91 : decode cX12_goesIn 91 = .ok (.aload_n 0, 1) := by decide +kernel
theorem dX12_goesIn_92 : decode cX12_goesIn 92 = .ok (.getfield 7, 3) := by decide +kernel
theorem dX12_goesIn_95 : decode cX12_goesIn 95 = .ok (.iconst 3, 1) := by decide +kernel
theorem dX12_goesIn_96 : decode cX12_goesIn 96 = .ok (.iaload, 1) := by decide +kernel
theorem dX12_goesIn_97 : decode cX12_goesIn 97 = .ok (.ineg, 1) := by decide +kernel
theorem dX12_goesIn_98 : decode cX12_goesIn 98 = .ok (.goto 4, 3) := by decide +kernel
theorem dX12_goesIn_101 : decode cX12_goesIn 101 = .ok (.iconst 0, 1) := by decide +kernel
theorem dX12_goesIn_102 : decode cX12_goesIn 102 = .ok (.ireturn, 1) := by decide +kernel
theorem dX12_through_0 : decode cX12_through 0 = .ok (.aload_n 0, 1) := by decide +kernel
theorem dX12_through_1 : decode cX12_through 1 = .ok (.iload_n 1, 1) := by decide +kernel
theorem dX12_through_2 : decode cX12_through 2 = .ok (.invokevirtual 150, 3) := by decide +kernel
theorem dX12_through_5 : decode cX12_through 5 = .ok (.ifCond .eq 13, 3) := by decide +kernel
theorem dX12_through_8 : decode cX12_through 8 = .ok (.iload_n 2, 1) := by decide +kernel
theorem dX12_through_9 : decode cX12_through 9 = .ok (.i2l, 1) := by decide +kernel
theorem dX12_through_10 : decode cX12_through 10 = .ok (.lconst 0, 1) := by decide +kernel
theorem dX12_through_11 : decode cX12_through 11 = .ok (.lconst 1, 1) := by decide +kernel
theorem dX12_through_12 : decode cX12_through 12 = .ok (.invokestatic 72, 3) := by decide +kernel
theorem dX12_through_15 : decode cX12_through 15 = .ok (.ifCond .ne 7, 3) := by decide +kernel
theorem dX12_through_18 : decode cX12_through 18 = .ok (.ldc2_w 200, 3) := by decide +kernel
theorem dX12_through_21 : decode cX12_through 21 = .ok (.lreturn, 1) := by decide +kernel
theorem dX12_through_22 : decode cX12_through 22 = .ok (.aload_n 0, 1) := by decide +kernel
theorem dX12_through_23 : decode cX12_through 23 = .ok (.iload_n 1, 1) := by decide +kernel
theorem dX12_through_24 : decode cX12_through 24 = .ok (.invokevirtual 189, 3) := by decide +kernel
theorem dX12_through_27 : decode cX12_through 27 = .ok (.istore_n 3, 1) := by decide +kernel
theorem dX12_through_28 : decode cX12_through 28 = .ok (.iload_n 3, 1) := by decide +kernel
theorem dX12_through_29 : decode cX12_through 29 = .ok (.ifCond .ge 9, 3) := by decide +kernel
theorem dX12_through_32 : decode cX12_through 32 = .ok (.bipush (-100), 2) := by decide +kernel
theorem dX12_through_34 : decode cX12_through 34 = .ok (.iload_n 3, 1) := by decide +kernel
theorem dX12_through_35 : decode cX12_through 35 = .ok (.iadd, 1) := by decide +kernel
theorem dX12_through_36 : decode cX12_through 36 = .ok (.i2l, 1) := by decide +kernel
theorem dX12_through_37 : decode cX12_through 37 = .ok (.lreturn, 1) := by decide +kernel
theorem dX12_through_38 : decode cX12_through 38 = .ok (.lconst 0, 1) := by decide +kernel
theorem dX12_through_39 : decode cX12_through 39 = .ok (.lstore 4, 2) := by decide +kernel
theorem dX12_through_41 : decode cX12_through 41 = .ok (.iconst 0, 1) := by decide +kernel
theorem dX12_through_42 : decode cX12_through 42 = .ok (.istore 6, 2) := by decide +kernel
theorem dX12_through_44 : decode cX12_through 44 = .ok (.iload 6, 2) := by decide +kernel
theorem dX12_through_46 : decode cX12_through 46 = .ok (.aload_n 0, 1) := by decide +kernel
theorem dX12_through_47 : decode cX12_through 47 = .ok (.getfield 178, 3) := by decide +kernel
theorem dX12_through_50 : decode cX12_through 50 = .ok (.if_icmp .ge 34, 3) := by decide +kernel
theorem dX12_through_53 : decode cX12_through 53 = .ok (.lload 4, 2) := by decide +kernel
theorem dX12_through_55 : decode cX12_through 55 = .ok (.aload_n 0, 1) := by decide +kernel
theorem dX12_through_56 : decode cX12_through 56 = .ok (.getfield 32, 3) := by decide +kernel
theorem dX12_through_59 : decode cX12_through 59 = .ok (.iload 6, 2) := by decide +kernel
theorem dX12_through_61 : decode cX12_through 61 = .ok (.laload, 1) := by decide +kernel
theorem dX12_through_62 : decode cX12_through 62 = .ok (.aload_n 0, 1) := by decide +kernel
theorem dX12_through_63 : decode cX12_through 63 = .ok (.aload_n 0, 1) := by decide +kernel
theorem dX12_through_64 : decode cX12_through 64 = .ok (.getfield 29, 3) := by decide +kernel
theorem dX12_through_67 : decode cX12_through 67 = .ok (.iload 6, 2) := by decide +kernel
theorem dX12_through_69 : decode cX12_through 69 = .ok (.iaload, 1) := by decide +kernel
theorem dX12_through_70 : decode cX12_through 70 = .ok (.invokevirtual 202, 3) := by decide +kernel
theorem dX12_through_73 : decode cX12_through 73 = .ok (.i2l, 1) := by decide +kernel
theorem dX12_through_74 : decode cX12_through 74 = .ok (.lmul, 1) := by decide +kernel
theorem dX12_through_75 : decode cX12_through 75 = .ok (.ladd, 1) := by decide +kernel
theorem dX12_through_76 : decode cX12_through 76 = .ok (.lstore 4, 2) := by decide +kernel
theorem dX12_through_78 : decode cX12_through 78 = .ok (.iinc 6 1, 3) := by decide +kernel
theorem dX12_through_81 : decode cX12_through 81 = .ok (.goto (-37), 3) := by decide +kernel
theorem dX12_through_84 : decode cX12_through 84 = .ok (.lload 4, 2) := by decide +kernel
theorem dX12_through_86 : decode cX12_through 86 = .ok (.aload_n 0, 1) := by decide +kernel
theorem dX12_through_87 : decode cX12_through 87 = .ok (.invokevirtual 192, 3) := by decide +kernel
theorem dX12_through_90 : decode cX12_through 90 = .ok (.iload_n 2, 1) := by decide +kernel
theorem dX12_through_91 : decode cX12_through 91 = .ok (.invokestatic 196, 3) := by decide +kernel
theorem dX12_through_94 : decode cX12_through 94 = .ok (.lreturn, 1) := by decide +kernel
theorem dX12_even_0 : decode cX12_even 0 = .ok (.aload_n 0, 1) := by decide +kernel
theorem dX12_even_1 : decode cX12_even 1 = .ok (.iload_n 1, 1) := by decide +kernel
theorem dX12_even_2 : decode cX12_even 2 = .ok (.invokevirtual 150, 3) := by decide +kernel
theorem dX12_even_5 : decode cX12_even 5 = .ok (.ifCond .ne 5, 3) := by decide +kernel
theorem dX12_even_8 : decode cX12_even 8 = .ok (.iconst (-1), 1) := by decide +kernel
theorem dX12_even_9 : decode cX12_even 9 = .ok (.ireturn, 1) := by decide +kernel
theorem dX12_even_10 : decode cX12_even 10 = .ok (.aload_n 0, 1) := by decide +kernel
theorem dX12_even_11 : decode cX12_even 11 = .ok (.iload_n 1, 1) := by decide +kernel
theorem dX12_even_12 : decode cX12_even 12 = .ok (.invokevirtual 189, 3) := by decide +kernel
theorem dX12_even_15 : decode cX12_even 15 = .ok (.istore_n 2, 1) := by decide +kernel
theorem dX12_even_16 : decode cX12_even 16 = .ok (.iload_n 2, 1) := by decide +kernel
theorem dX12_even_17 : decode cX12_even 17 = .ok (.ifCond .ge 5, 3) := by decide +kernel
theorem dX12_even_20 : decode cX12_even 20 = .ok (.iload_n 2, 1) := by decide +kernel
theorem dX12_even_21 : decode cX12_even 21 = .ok (.ireturn, 1) := by decide +kernel
theorem dX12_even_22 : decode cX12_even 22 = .ok (.iconst 1, 1) := by decide +kernel
theorem dX12_even_23 : decode cX12_even 23 = .ok (.istore_n 3, 1) := by decide +kernel
theorem dX12_even_24 : decode cX12_even 24 = .ok (.iconst 0, 1) := by decide +kernel
theorem dX12_even_25 : decode cX12_even 25 = .ok (.istore 4, 2) := by decide +kernel
theorem dX12_even_27 : decode cX12_even 27 = .ok (.iload 4, 2) := by decide +kernel
theorem dX12_even_29 : decode cX12_even 29 = .ok (.aload_n 0, 1) := by decide +kernel
theorem dX12_even_30 : decode cX12_even 30 = .ok (.getfield 178, 3) := by decide +kernel
theorem dX12_even_33 : decode cX12_even 33 = .ok (.if_icmp .ge 93, 3) := by decide +kernel
theorem dX12_even_36 : decode cX12_even 36 = .ok (.iconst 0, 1) := by decide +kernel
theorem dX12_even_37 : decode cX12_even 37 = .ok (.istore 5, 2) := by decide +kernel
theorem dX12_even_39 : decode cX12_even 39 = .ok (.iload 5, 2) := by decide +kernel
theorem dX12_even_41 : decode cX12_even 41 = .ok (.iload 4, 2) := by decide +kernel
theorem dX12_even_43 : decode cX12_even 43 = .ok (.if_icmp .ge 77, 3) := by decide +kernel
theorem dX12_even_46 : decode cX12_even 46 = .ok (.iload_n 3, 1) := by decide +kernel
theorem dX12_even_47 : decode cX12_even 47 = .ok (.ifCond .eq 65, 3) := by decide +kernel
theorem dX12_even_50 : decode cX12_even 50 = .ok (.aload_n 0, 1) := by decide +kernel
theorem dX12_even_51 : decode cX12_even 51 = .ok (.getfield 32, 3) := by decide +kernel
theorem dX12_even_54 : decode cX12_even 54 = .ok (.iload 4, 2) := by decide +kernel
theorem dX12_even_56 : decode cX12_even 56 = .ok (.laload, 1) := by decide +kernel
theorem dX12_even_57 : decode cX12_even 57 = .ok (.aload_n 0, 1) := by decide +kernel
theorem dX12_even_58 : decode cX12_even 58 = .ok (.aload_n 0, 1) := by decide +kernel
theorem dX12_even_59 : decode cX12_even 59 = .ok (.getfield 29, 3) := by decide +kernel
theorem dX12_even_62 : decode cX12_even 62 = .ok (.iload 4, 2) := by decide +kernel
theorem dX12_even_64 : decode cX12_even 64 = .ok (.iaload, 1) := by decide +kernel
theorem dX12_even_65 : decode cX12_even 65 = .ok (.aload_n 0, 1) := by decide +kernel
theorem dX12_even_66 : decode cX12_even 66 = .ok (.getfield 29, 3) := by decide +kernel
theorem dX12_even_69 : decode cX12_even 69 = .ok (.iload 5, 2) := by decide +kernel
theorem dX12_even_71 : decode cX12_even 71 = .ok (.iaload, 1) := by decide +kernel
theorem dX12_even_72 : decode cX12_even 72 = .ok (.invokevirtual 154, 3) := by decide +kernel
theorem dX12_even_75 : decode cX12_even 75 = .ok (.i2l, 1) := by decide +kernel
theorem dX12_even_76 : decode cX12_even 76 = .ok (.lmul, 1) := by decide +kernel
theorem dX12_even_77 : decode cX12_even 77 = .ok (.aload_n 0, 1) := by decide +kernel
theorem dX12_even_78 : decode cX12_even 78 = .ok (.getfield 32, 3) := by decide +kernel
theorem dX12_even_81 : decode cX12_even 81 = .ok (.iload 5, 2) := by decide +kernel
theorem dX12_even_83 : decode cX12_even 83 = .ok (.laload, 1) := by decide +kernel
theorem dX12_even_84 : decode cX12_even 84 = .ok (.aload_n 0, 1) := by decide +kernel
theorem dX12_even_85 : decode cX12_even 85 = .ok (.aload_n 0, 1) := by decide +kernel
theorem dX12_even_86 : decode cX12_even 86 = .ok (.getfield 29, 3) := by decide +kernel
theorem dX12_even_89 : decode cX12_even 89 = .ok (.iload 5, 2) := by decide +kernel
theorem dX12_even_91 : decode cX12_even 91 = .ok (.iaload, 1) := by decide +kernel
theorem dX12_even_92 : decode cX12_even 92 = .ok (.aload_n 0, 1) := by decide +kernel
theorem dX12_even_93 : decode cX12_even 93 = .ok (.getfield 29, 3) := by decide +kernel
theorem dX12_even_96 : decode cX12_even 96 = .ok (.iload 4, 2) := by decide +kernel
theorem dX12_even_98 : decode cX12_even 98 = .ok (.iaload, 1) := by decide +kernel
theorem dX12_even_99 : decode cX12_even 99 = .ok (.invokevirtual 154, 3) := by decide +kernel
theorem dX12_even_102 : decode cX12_even 102 = .ok (.i2l, 1) := by decide +kernel
theorem dX12_even_103 : decode cX12_even 103 = .ok (.lmul, 1) := by decide +kernel
theorem dX12_even_104 : decode cX12_even 104 = .ok (.lcmp, 1) := by decide +kernel
theorem dX12_even_105 : decode cX12_even 105 = .ok (.ifCond .ne 7, 3) := by decide +kernel
theorem dX12_even_108 : decode cX12_even 108 = .ok (.iconst 1, 1) := by decide +kernel
theorem dX12_even_109 : decode cX12_even 109 = .ok (.goto 4, 3) := by decide +kernel
theorem dX12_even_112 : decode cX12_even 112 = .ok (.iconst 0, 1) := by decide +kernel
theorem dX12_even_113 : decode cX12_even 113 = .ok (.istore_n 3, 1) := by decide +kernel
theorem dX12_even_114 : decode cX12_even 114 = .ok (.iinc 5 1, 3) := by decide +kernel
theorem dX12_even_117 : decode cX12_even 117 = .ok (.goto (-78), 3) := by decide +kernel
theorem dX12_even_120 : decode cX12_even 120 = .ok (.iinc 4 1, 3) := by decide +kernel
theorem dX12_even_123 : decode cX12_even 123 = .ok (.goto (-96), 3) := by decide +kernel
theorem dX12_even_126 : decode cX12_even 126 = .ok (.iload_n 3, 1) := by decide +kernel
theorem dX12_even_127 : decode cX12_even 127 = .ok (.ifCond .eq 7, 3) := by decide +kernel
theorem dX12_even_130 : decode cX12_even 130 = .ok (.iconst 1, 1) := by decide +kernel
theorem dX12_even_131 : decode cX12_even 131 = .ok (.goto 4, 3) := by decide +kernel
theorem dX12_even_134 : decode cX12_even 134 = .ok (.iconst 0, 1) := by decide +kernel
theorem dX12_even_135 : decode cX12_even 135 = .ok (.ireturn, 1) := by decide +kernel
theorem dX12_haveWords_0 : decode cX12_haveWords 0 = .ok (.aload_n 0, 1) := by decide +kernel
theorem dX12_haveWords_1 : decode cX12_haveWords 1 = .ok (.invokevirtual 142, 3) := by decide +kernel
theorem dX12_haveWords_4 : decode cX12_haveWords 4 = .ok (.ifCond .eq 64, 3) := by decide +kernel
theorem dX12_haveWords_7 : decode cX12_haveWords 7 = .ok (.aload_n 0, 1) := by decide +kernel
theorem dX12_haveWords_8 : decode cX12_haveWords 8 = .ok (.getfield 7, 3) := by decide +kernel
theorem dX12_haveWords_11 : decode cX12_haveWords 11 = .ok (.iconst 2, 1) := by decide +kernel
theorem dX12_haveWords_12 : decode cX12_haveWords 12 = .ok (.iaload, 1) := by decide +kernel
theorem dX12_haveWords_13 : decode cX12_haveWords 13 = .ok (.iconst 1, 1) := by decide +kernel
theorem dX12_haveWords_14 : decode cX12_haveWords 14 = .ok (.if_icmp .ne 54, 3) := by decide +kernel
theorem dX12_haveWords_17 : decode cX12_haveWords 17 = .ok (.aload_n 0, 1) := by decide +kernel
theorem dX12_haveWords_18 : decode cX12_haveWords 18 = .ok (.getfield 7, 3) := by decide +kernel
theorem dX12_haveWords_21 : decode cX12_haveWords 21 = .ok (.iconst 3, 1) := by decide +kernel
theorem dX12_haveWords_22 : decode cX12_haveWords 22 = .ok (.iaload, 1) := by decide +kernel
theorem dX12_haveWords_23 : decode cX12_haveWords 23 = .ok (.ifCond .ne 45, 3) := by decide +kernel
theorem dX12_haveWords_26 : decode cX12_haveWords 26 = .ok (.aload_n 0, 1) := by decide +kernel
theorem dX12_haveWords_27 : decode cX12_haveWords 27 = .ok (.getfield 7, 3) := by decide +kernel
theorem dX12_haveWords_30 : decode cX12_haveWords 30 = .ok (.iconst 5, 1) := by decide +kernel
theorem dX12_haveWords_31 : decode cX12_haveWords 31 = .ok (.iaload, 1) := by decide +kernel
theorem dX12_haveWords_32 : decode cX12_haveWords 32 = .ok (.ifCond .ne 36, 3) := by decide +kernel
theorem dX12_haveWords_35 : decode cX12_haveWords 35 = .ok (.aload_n 0, 1) := by decide +kernel
theorem dX12_haveWords_36 : decode cX12_haveWords 36 = .ok (.getfield 7, 3) := by decide +kernel
theorem dX12_haveWords_39 : decode cX12_haveWords 39 = .ok (.bipush 7, 2) := by decide +kernel
theorem dX12_haveWords_41 : decode cX12_haveWords 41 = .ok (.iaload, 1) := by decide +kernel
theorem dX12_haveWords_42 : decode cX12_haveWords 42 = .ok (.ifCond .ne 26, 3) := by decide +kernel
theorem dX12_haveWords_45 : decode cX12_haveWords 45 = .ok (.aload_n 0, 1) := by decide +kernel
theorem dX12_haveWords_46 : decode cX12_haveWords 46 = .ok (.getfield 7, 3) := by decide +kernel
theorem dX12_haveWords_49 : decode cX12_haveWords 49 = .ok (.iconst 4, 1) := by decide +kernel
theorem dX12_haveWords_50 : decode cX12_haveWords 50 = .ok (.iaload, 1) := by decide +kernel
theorem dX12_haveWords_51 : decode cX12_haveWords 51 = .ok (.ifCond .le 17, 3) := by decide +kernel
theorem dX12_haveWords_54 : decode cX12_haveWords 54 = .ok (.aload_n 0, 1) := by decide +kernel
theorem dX12_haveWords_55 : decode cX12_haveWords 55 = .ok (.getfield 7, 3) := by decide +kernel
theorem dX12_haveWords_58 : decode cX12_haveWords 58 = .ok (.bipush 6, 2) := by decide +kernel
theorem dX12_haveWords_60 : decode cX12_haveWords 60 = .ok (.iaload, 1) := by decide +kernel
theorem dX12_haveWords_61 : decode cX12_haveWords 61 = .ok (.ifCond .le 7, 3) := by decide +kernel
theorem dX12_haveWords_64 : decode cX12_haveWords 64 = .ok (.iconst 1, 1) := by decide +kernel
theorem dX12_haveWords_65 : decode cX12_haveWords 65 = .ok (.goto 4, 3) := by decide +kernel
theorem dX12_haveWords_68 : decode cX12_haveWords 68 = .ok (.iconst 0, 1) := by decide +kernel
theorem dX12_haveWords_69 : decode cX12_haveWords 69 = .ok (.ireturn, 1) := by decide +kernel
theorem dX12_without_0 : decode cX12_without 0 = .ok (.iload_n 0, 1) := by decide +kernel
theorem dX12_without_1 : decode cX12_without 1 = .ok (.iconst 1, 1) := by decide +kernel
theorem dX12_without_2 : decode cX12_without 2 = .ok (.iload_n 1, 1) := by decide +kernel
theorem dX12_without_3 : decode cX12_without 3 = .ok (.ishl, 1) := by decide +kernel
theorem dX12_without_4 : decode cX12_without 4 = .ok (.iconst 1, 1) := by decide +kernel
theorem dX12_without_5 : decode cX12_without 5 = .ok (.isub, 1) := by decide +kernel
theorem dX12_without_6 : decode cX12_without 6 = .ok (.iand, 1) := by decide +kernel
theorem dX12_without_7 : decode cX12_without 7 = .ok (.iload_n 0, 1) := by decide +kernel
theorem dX12_without_8 : decode cX12_without 8 = .ok (.iload_n 1, 1) := by decide +kernel
theorem dX12_without_9 : decode cX12_without 9 = .ok (.iconst 1, 1) := by decide +kernel
theorem dX12_without_10 : decode cX12_without 10 = .ok (.iadd, 1) := by decide +kernel
theorem dX12_without_11 : decode cX12_without 11 = .ok (.ishr, 1) := by decide +kernel
theorem dX12_without_12 : decode cX12_without 12 = .ok (.iload_n 1, 1) := by decide +kernel
theorem dX12_without_13 : decode cX12_without 13 = .ok (.ishl, 1) := by decide +kernel
theorem dX12_without_14 : decode cX12_without 14 = .ok (.ior, 1) := by decide +kernel
theorem dX12_without_15 : decode cX12_without 15 = .ok (.ireturn, 1) := by decide +kernel
theorem dX12_layWorths_0 : decode cX12_layWorths 0 = .ok (.aload_n 0, 1) := by decide +kernel
theorem dX12_layWorths_1 : decode cX12_layWorths 1 = .ok (.getfield 7, 3) := by decide +kernel
theorem dX12_layWorths_4 : decode cX12_layWorths 4 = .ok (.iconst 4, 1) := by decide +kernel
theorem dX12_layWorths_5 : decode cX12_layWorths 5 = .ok (.iaload, 1) := by decide +kernel
theorem dX12_layWorths_6 : decode cX12_layWorths 6 = .ok (.istore_n 1, 1) := by decide +kernel
theorem dX12_layWorths_7 : decode cX12_layWorths 7 = .ok (.aload_n 0, 1) := by decide +kernel
theorem dX12_layWorths_8 : decode cX12_layWorths 8 = .ok (.getfield 7, 3) := by decide +kernel
theorem dX12_layWorths_11 : decode cX12_layWorths 11 = .ok (.bipush 6, 2) := by decide +kernel
theorem dX12_layWorths_13 : decode cX12_layWorths 13 = .ok (.iaload, 1) := by decide +kernel
theorem dX12_layWorths_14 : decode cX12_layWorths 14 = .ok (.istore_n 2, 1) := by decide +kernel
theorem dX12_layWorths_15 : decode cX12_layWorths 15 = .ok (.aload_n 0, 1) := by decide +kernel
theorem dX12_layWorths_16 : decode cX12_layWorths 16 = .ok (.getfield 38, 3) := by decide +kernel
theorem dX12_layWorths_19 : decode cX12_layWorths 19 = .ok (.iconst 1, 1) := by decide +kernel
theorem dX12_layWorths_20 : decode cX12_layWorths 20 = .ok (.lconst 1, 1) := by decide +kernel
theorem dX12_layWorths_21 : decode cX12_layWorths 21 = .ok (.lastore, 1) := by decide +kernel
theorem dX12_layWorths_22 : decode cX12_layWorths 22 = .ok (.iconst 1, 1) := by decide +kernel
theorem dX12_layWorths_23 : decode cX12_layWorths 23 = .ok (.istore_n 3, 1) := by decide +kernel
theorem dX12_layWorths_24 : decode cX12_layWorths 24 = .ok (.iload_n 3, 1) := by decide +kernel
theorem dX12_layWorths_25 : decode cX12_layWorths 25 = .ok (.aload_n 0, 1) := by decide +kernel
theorem dX12_layWorths_26 : decode cX12_layWorths 26 = .ok (.invokevirtual 139, 3) := by decide +kernel
theorem dX12_layWorths_29 : decode cX12_layWorths 29 = .ok (.if_icmp .gt 179, 3) := by decide +kernel
theorem dX12_layWorths_32 : decode cX12_layWorths 32 = .ok (.iconst 0, 1) := by decide +kernel
theorem dX12_layWorths_33 : decode cX12_layWorths 33 = .ok (.istore 4, 2) := by decide +kernel
theorem dX12_layWorths_35 : decode cX12_layWorths 35 = .ok (.iload 4, 2) := by decide +kernel
theorem dX12_layWorths_37 : decode cX12_layWorths 37 = .ok (.iconst 1, 1) := by decide +kernel
theorem dX12_layWorths_38 : decode cX12_layWorths 38 = .ok (.iload_n 3, 1) := by decide +kernel
theorem dX12_layWorths_39 : decode cX12_layWorths 39 = .ok (.ishl, 1) := by decide +kernel
theorem dX12_layWorths_40 : decode cX12_layWorths 40 = .ok (.if_icmp .ge 162, 3) := by decide +kernel
theorem dX12_layWorths_43 : decode cX12_layWorths 43 = .ok (.iconst 0, 1) := by decide +kernel
theorem dX12_layWorths_44 : decode cX12_layWorths 44 = .ok (.istore 5, 2) := by decide +kernel
theorem dX12_layWorths_46 : decode cX12_layWorths 46 = .ok (.iload 5, 2) := by decide +kernel
theorem dX12_layWorths_48 : decode cX12_layWorths 48 = .ok (.iconst 1, 1) := by decide +kernel
theorem dX12_layWorths_49 : decode cX12_layWorths 49 = .ok (.iadd, 1) := by decide +kernel
theorem dX12_layWorths_50 : decode cX12_layWorths 50 = .ok (.iload_n 3, 1) := by decide +kernel
theorem dX12_layWorths_51 : decode cX12_layWorths 51 = .ok (.if_icmp .ge 33, 3) := by decide +kernel
theorem dX12_layWorths_54 : decode cX12_layWorths 54 = .ok (.aload_n 0, 1) := by decide +kernel
theorem dX12_layWorths_55 : decode cX12_layWorths 55 = .ok (.iload 4, 2) := by decide +kernel
theorem dX12_layWorths_57 : decode cX12_layWorths 57 = .ok (.iload 5, 2) := by decide +kernel
theorem dX12_layWorths_59 : decode cX12_layWorths 59 = .ok (.invokevirtual 135, 3) := by decide +kernel
theorem dX12_layWorths_62 : decode cX12_layWorths 62 = .ok (.ifCond .eq 16, 3) := by decide +kernel
theorem dX12_layWorths_65 : decode cX12_layWorths 65 = .ok (.aload_n 0, 1) := by decide +kernel
theorem dX12_layWorths_66 : decode cX12_layWorths 66 = .ok (.iload 4, 2) := by decide +kernel
theorem dX12_layWorths_68 : decode cX12_layWorths 68 = .ok (.iload 5, 2) := by decide +kernel
theorem dX12_layWorths_70 : decode cX12_layWorths 70 = .ok (.iconst 1, 1) := by decide +kernel
theorem dX12_layWorths_71 : decode cX12_layWorths 71 = .ok (.iadd, 1) := by decide +kernel
theorem dX12_layWorths_72 : decode cX12_layWorths 72 = .ok (.invokevirtual 135, 3) := by decide +kernel
theorem dX12_layWorths_75 : decode cX12_layWorths 75 = .ok (.ifCond .eq 9, 3) := by decide +kernel
theorem dX12_layWorths_78 : decode cX12_layWorths 78 = .ok (.iinc 5 1, 3) := by decide +kernel
theorem dX12_layWorths_81 : decode cX12_layWorths 81 = .ok (.goto (-35), 3) := by decide +kernel
theorem dX12_layWorths_84 : decode cX12_layWorths 84 = .ok (.lconst 1, 1) := by decide +kernel
theorem dX12_layWorths_85 : decode cX12_layWorths 85 = .ok (.lstore 6, 2) := by decide +kernel
theorem dX12_layWorths_87 : decode cX12_layWorths 87 = .ok (.iload 5, 2) := by decide +kernel
theorem dX12_layWorths_89 : decode cX12_layWorths 89 = .ok (.iconst 1, 1) := by decide +kernel
theorem dX12_layWorths_90 : decode cX12_layWorths 90 = .ok (.iadd, 1) := by decide +kernel
theorem dX12_layWorths_91 : decode cX12_layWorths 91 = .ok (.iload_n 3, 1) := by decide +kernel
theorem dX12_layWorths_92 : decode cX12_layWorths 92 = .ok (.if_icmp .ge 53, 3) := by decide +kernel
theorem dX12_layWorths_95 : decode cX12_layWorths 95 = .ok (.iconst 1, 1) := by decide +kernel
theorem dX12_layWorths_96 : decode cX12_layWorths 96 = .ok (.iload_n 3, 1) := by decide +kernel
theorem dX12_layWorths_97 : decode cX12_layWorths 97 = .ok (.iconst 1, 1) := by decide +kernel
theorem dX12_layWorths_98 : decode cX12_layWorths 98 = .ok (.isub, 1) := by decide +kernel
theorem dX12_layWorths_99 : decode cX12_layWorths 99 = .ok (.ishl, 1) := by decide +kernel
theorem dX12_layWorths_100 : decode cX12_layWorths 100 = .ok (.istore 8, 2) := by decide +kernel
theorem dX12_layWorths_102 : decode cX12_layWorths 102 = .ok (.iload_n 1, 1) := by decide +kernel
theorem dX12_layWorths_103 : decode cX12_layWorths 103 = .ok (.iload_n 2, 1) := by decide +kernel
theorem dX12_layWorths_104 : decode cX12_layWorths 104 = .ok (.imul, 1) := by decide +kernel
theorem dX12_layWorths_105 : decode cX12_layWorths 105 = .ok (.i2l, 1) := by decide +kernel
theorem dX12_layWorths_106 : decode cX12_layWorths 106 = .ok (.aload_n 0, 1) := by decide +kernel
theorem dX12_layWorths_107 : decode cX12_layWorths 107 = .ok (.getfield 38, 3) := by decide +kernel
theorem dX12_layWorths_110 : decode cX12_layWorths 110 = .ok (.iload 8, 2) := by decide +kernel
theorem dX12_layWorths_112 : decode cX12_layWorths 112 = .ok (.iload 4, 2) := by decide +kernel
theorem dX12_layWorths_114 : decode cX12_layWorths 114 = .ok (.iload 5, 2) := by decide +kernel
theorem dX12_layWorths_116 : decode cX12_layWorths 116 = .ok (.invokestatic 205, 3) := by decide +kernel
theorem dX12_layWorths_119 : decode cX12_layWorths 119 = .ok (.iadd, 1) := by decide +kernel
theorem dX12_layWorths_120 : decode cX12_layWorths 120 = .ok (.laload, 1) := by decide +kernel
theorem dX12_layWorths_121 : decode cX12_layWorths 121 = .ok (.aload_n 0, 1) := by decide +kernel
theorem dX12_layWorths_122 : decode cX12_layWorths 122 = .ok (.getfield 38, 3) := by decide +kernel
theorem dX12_layWorths_125 : decode cX12_layWorths 125 = .ok (.iload 8, 2) := by decide +kernel
theorem dX12_layWorths_127 : decode cX12_layWorths 127 = .ok (.iload 4, 2) := by decide +kernel
theorem dX12_layWorths_129 : decode cX12_layWorths 129 = .ok (.iload 5, 2) := by decide +kernel
theorem dX12_layWorths_131 : decode cX12_layWorths 131 = .ok (.iconst 1, 1) := by decide +kernel
theorem dX12_layWorths_132 : decode cX12_layWorths 132 = .ok (.iadd, 1) := by decide +kernel
theorem dX12_layWorths_133 : decode cX12_layWorths 133 = .ok (.invokestatic 205, 3) := by decide +kernel
theorem dX12_layWorths_136 : decode cX12_layWorths 136 = .ok (.iadd, 1) := by decide +kernel
theorem dX12_layWorths_137 : decode cX12_layWorths 137 = .ok (.laload, 1) := by decide +kernel
theorem dX12_layWorths_138 : decode cX12_layWorths 138 = .ok (.ladd, 1) := by decide +kernel
theorem dX12_layWorths_139 : decode cX12_layWorths 139 = .ok (.lmul, 1) := by decide +kernel
theorem dX12_layWorths_140 : decode cX12_layWorths 140 = .ok (.lstore 6, 2) := by decide +kernel
theorem dX12_layWorths_142 : decode cX12_layWorths 142 = .ok (.goto 41, 3) := by decide +kernel
theorem dX12_layWorths_145 : decode cX12_layWorths 145 = .ok (.iconst 0, 1) := by decide +kernel
theorem dX12_layWorths_146 : decode cX12_layWorths 146 = .ok (.istore 8, 2) := by decide +kernel
theorem dX12_layWorths_148 : decode cX12_layWorths 148 = .ok (.iload 8, 2) := by decide +kernel
theorem dX12_layWorths_150 : decode cX12_layWorths 150 = .ok (.iload_n 3, 1) := by decide +kernel
theorem dX12_layWorths_151 : decode cX12_layWorths 151 = .ok (.if_icmp .ge 32, 3) := by decide +kernel
theorem dX12_layWorths_154 : decode cX12_layWorths 154 = .ok (.lload 6, 2) := by decide +kernel
theorem dX12_layWorths_156 : decode cX12_layWorths 156 = .ok (.aload_n 0, 1) := by decide +kernel
theorem dX12_layWorths_157 : decode cX12_layWorths 157 = .ok (.iload 4, 2) := by decide +kernel
theorem dX12_layWorths_159 : decode cX12_layWorths 159 = .ok (.iload 8, 2) := by decide +kernel
theorem dX12_layWorths_161 : decode cX12_layWorths 161 = .ok (.invokevirtual 135, 3) := by decide +kernel
theorem dX12_layWorths_164 : decode cX12_layWorths 164 = .ok (.ifCond .eq 8, 3) := by decide +kernel
theorem dX12_layWorths_167 : decode cX12_layWorths 167 = .ok (.iload_n 1, 1) := by decide +kernel
theorem dX12_layWorths_168 : decode cX12_layWorths 168 = .ok (.i2l, 1) := by decide +kernel
theorem dX12_layWorths_169 : decode cX12_layWorths 169 = .ok (.goto 5, 3) := by decide +kernel
theorem dX12_layWorths_172 : decode cX12_layWorths 172 = .ok (.iload_n 2, 1) := by decide +kernel
theorem dX12_layWorths_173 : decode cX12_layWorths 173 = .ok (.i2l, 1) := by decide +kernel
theorem dX12_layWorths_174 : decode cX12_layWorths 174 = .ok (.lmul, 1) := by decide +kernel
theorem dX12_layWorths_175 : decode cX12_layWorths 175 = .ok (.lstore 6, 2) := by decide +kernel
theorem dX12_layWorths_177 : decode cX12_layWorths 177 = .ok (.iinc 8 1, 3) := by decide +kernel
theorem dX12_layWorths_180 : decode cX12_layWorths 180 = .ok (.goto (-32), 3) := by decide +kernel
theorem dX12_layWorths_183 : decode cX12_layWorths 183 = .ok (.aload_n 0, 1) := by decide +kernel
theorem dX12_layWorths_184 : decode cX12_layWorths 184 = .ok (.getfield 38, 3) := by decide +kernel
theorem dX12_layWorths_187 : decode cX12_layWorths 187 = .ok (.iconst 1, 1) := by decide +kernel
theorem dX12_layWorths_188 : decode cX12_layWorths 188 = .ok (.iload_n 3, 1) := by decide +kernel
theorem dX12_layWorths_189 : decode cX12_layWorths 189 = .ok (.ishl, 1) := by decide +kernel
theorem dX12_layWorths_190 : decode cX12_layWorths 190 = .ok (.iload 4, 2) := by decide +kernel
theorem dX12_layWorths_192 : decode cX12_layWorths 192 = .ok (.iadd, 1) := by decide +kernel
theorem dX12_layWorths_193 : decode cX12_layWorths 193 = .ok (.lload 6, 2) := by decide +kernel
theorem dX12_layWorths_195 : decode cX12_layWorths 195 = .ok (.lastore, 1) := by decide +kernel
theorem dX12_layWorths_196 : decode cX12_layWorths 196 = .ok (.iinc 4 1, 3) := by decide +kernel
theorem dX12_layWorths_199 : decode cX12_layWorths 199 = .ok (.goto (-164), 3) := by decide +kernel
theorem dX12_layWorths_202 : decode cX12_layWorths 202 = .ok (.iinc 3 1, 3) := by decide +kernel
theorem dX12_layWorths_205 : decode cX12_layWorths 205 = .ok (.goto (-181), 3) := by decide +kernel
theorem dX12_layWorths_208 : decode cX12_layWorths 208 = .ok (.return_, 1) := by decide +kernel
theorem dX12_allOf_0 : decode cX12_allOf 0 = .ok (.lconst 0, 1) := by decide +kernel
theorem dX12_allOf_1 : decode cX12_allOf 1 = .ok (.lstore_n 2, 1) := by decide +kernel
theorem dX12_allOf_2 : decode cX12_allOf 2 = .ok (.iconst 0, 1) := by decide +kernel
theorem dX12_allOf_3 : decode cX12_allOf 3 = .ok (.istore 4, 2) := by decide +kernel
theorem dX12_allOf_5 : decode cX12_allOf 5 = .ok (.iload 4, 2) := by decide +kernel
theorem dX12_allOf_7 : decode cX12_allOf 7 = .ok (.iconst 1, 1) := by decide +kernel
theorem dX12_allOf_8 : decode cX12_allOf 8 = .ok (.iload_n 1, 1) := by decide +kernel
theorem dX12_allOf_9 : decode cX12_allOf 9 = .ok (.ishl, 1) := by decide +kernel
theorem dX12_allOf_10 : decode cX12_allOf 10 = .ok (.if_icmp .ge 23, 3) := by decide +kernel
theorem dX12_allOf_13 : decode cX12_allOf 13 = .ok (.lload_n 2, 1) := by decide +kernel
theorem dX12_allOf_14 : decode cX12_allOf 14 = .ok (.aload_n 0, 1) := by decide +kernel
theorem dX12_allOf_15 : decode cX12_allOf 15 = .ok (.getfield 38, 3) := by decide +kernel
theorem dX12_allOf_18 : decode cX12_allOf 18 = .ok (.iconst 1, 1) := by decide +kernel
theorem dX12_allOf_19 : decode cX12_allOf 19 = .ok (.iload_n 1, 1) := by decide +kernel
theorem dX12_allOf_20 : decode cX12_allOf 20 = .ok (.ishl, 1) := by decide +kernel
theorem dX12_allOf_21 : decode cX12_allOf 21 = .ok (.iload 4, 2) := by decide +kernel
theorem dX12_allOf_23 : decode cX12_allOf 23 = .ok (.iadd, 1) := by decide +kernel
theorem dX12_allOf_24 : decode cX12_allOf 24 = .ok (.laload, 1) := by decide +kernel
theorem dX12_allOf_25 : decode cX12_allOf 25 = .ok (.ladd, 1) := by decide +kernel
theorem dX12_allOf_26 : decode cX12_allOf 26 = .ok (.lstore_n 2, 1) := by decide +kernel
theorem dX12_allOf_27 : decode cX12_allOf 27 = .ok (.iinc 4 1, 3) := by decide +kernel
theorem dX12_allOf_30 : decode cX12_allOf 30 = .ok (.goto (-25), 3) := by decide +kernel
theorem dX12_allOf_33 : decode cX12_allOf 33 = .ok (.lload_n 2, 1) := by decide +kernel
theorem dX12_allOf_34 : decode cX12_allOf 34 = .ok (.lreturn, 1) := by decide +kernel
theorem dX12_worth_0 : decode cX12_worth 0 = .ok (.aload_n 0, 1) := by decide +kernel
theorem dX12_worth_1 : decode cX12_worth 1 = .ok (.iload_n 1, 1) := by decide +kernel
theorem dX12_worth_2 : decode cX12_worth 2 = .ok (.invokevirtual 150, 3) := by decide +kernel
theorem dX12_worth_5 : decode cX12_worth 5 = .ok (.ifCond .ne 7, 3) := by decide +kernel
theorem dX12_worth_8 : decode cX12_worth 8 = .ok (.ldc2_w 187, 3) := by decide +kernel
theorem dX12_worth_11 : decode cX12_worth 11 = .ok (.lreturn, 1) := by decide +kernel
theorem dX12_worth_12 : decode cX12_worth 12 = .ok (.aload_n 0, 1) := by decide +kernel
theorem dX12_worth_13 : decode cX12_worth 13 = .ok (.invokevirtual 208, 3) := by decide +kernel
theorem dX12_worth_16 : decode cX12_worth 16 = .ok (.ifCond .ne 7, 3) := by decide +kernel
theorem dX12_worth_19 : decode cX12_worth 19 = .ok (.ldc2_w 211, 3) := by decide +kernel
theorem dX12_worth_22 : decode cX12_worth 22 = .ok (.lreturn, 1) := by decide +kernel
theorem dX12_worth_23 : decode cX12_worth 23 = .ok (.aload_n 0, 1) := by decide +kernel
theorem dX12_worth_24 : decode cX12_worth 24 = .ok (.invokevirtual 213, 3) := by decide +kernel
theorem dX12_worth_27 : decode cX12_worth 27 = .ok (.aload_n 0, 1) := by decide +kernel
theorem dX12_worth_28 : decode cX12_worth 28 = .ok (.getfield 38, 3) := by decide +kernel
theorem dX12_worth_31 : decode cX12_worth 31 = .ok (.aload_n 0, 1) := by decide +kernel
theorem dX12_worth_32 : decode cX12_worth 32 = .ok (.invokevirtual 68, 3) := by decide +kernel
theorem dX12_worth_35 : decode cX12_worth 35 = .ok (.iload_n 1, 1) := by decide +kernel
theorem dX12_worth_36 : decode cX12_worth 36 = .ok (.iadd, 1) := by decide +kernel
theorem dX12_worth_37 : decode cX12_worth 37 = .ok (.laload, 1) := by decide +kernel
theorem dX12_worth_38 : decode cX12_worth 38 = .ok (.lreturn, 1) := by decide +kernel
theorem dX12_all_0 : decode cX12_all 0 = .ok (.iload_n 1, 1) := by decide +kernel
theorem dX12_all_1 : decode cX12_all 1 = .ok (.i2l, 1) := by decide +kernel
theorem dX12_all_2 : decode cX12_all 2 = .ok (.lconst 0, 1) := by decide +kernel
theorem dX12_all_3 : decode cX12_all 3 = .ok (.aload_n 0, 1) := by decide +kernel
theorem dX12_all_4 : decode cX12_all 4 = .ok (.invokevirtual 139, 3) := by decide +kernel
theorem dX12_all_7 : decode cX12_all 7 = .ok (.i2l, 1) := by decide +kernel
theorem dX12_all_8 : decode cX12_all 8 = .ok (.invokestatic 72, 3) := by decide +kernel
theorem dX12_all_11 : decode cX12_all 11 = .ok (.ifCond .ne 7, 3) := by decide +kernel
theorem dX12_all_14 : decode cX12_all 14 = .ok (.ldc2_w 187, 3) := by decide +kernel
theorem dX12_all_17 : decode cX12_all 17 = .ok (.lreturn, 1) := by decide +kernel
theorem dX12_all_18 : decode cX12_all 18 = .ok (.aload_n 0, 1) := by decide +kernel
theorem dX12_all_19 : decode cX12_all 19 = .ok (.invokevirtual 208, 3) := by decide +kernel
theorem dX12_all_22 : decode cX12_all 22 = .ok (.ifCond .ne 7, 3) := by decide +kernel
theorem dX12_all_25 : decode cX12_all 25 = .ok (.ldc2_w 211, 3) := by decide +kernel
theorem dX12_all_28 : decode cX12_all 28 = .ok (.lreturn, 1) := by decide +kernel
theorem dX12_all_29 : decode cX12_all 29 = .ok (.aload_n 0, 1) := by decide +kernel
theorem dX12_all_30 : decode cX12_all 30 = .ok (.invokevirtual 213, 3) := by decide +kernel
theorem dX12_all_33 : decode cX12_all 33 = .ok (.aload_n 0, 1) := by decide +kernel
theorem dX12_all_34 : decode cX12_all 34 = .ok (.iload_n 1, 1) := by decide +kernel
theorem dX12_all_35 : decode cX12_all 35 = .ok (.invokevirtual 216, 3) := by decide +kernel
theorem dX12_all_38 : decode cX12_all 38 = .ok (.lreturn, 1) := by decide +kernel
theorem dX12_flow_0 : decode cX12_flow 0 = .ok (.iload_n 1, 1) := by decide +kernel
theorem dX12_flow_1 : decode cX12_flow 1 = .ok (.i2l, 1) := by decide +kernel
theorem dX12_flow_2 : decode cX12_flow 2 = .ok (.lconst 0, 1) := by decide +kernel
theorem dX12_flow_3 : decode cX12_flow 3 = .ok (.lconst 1, 1) := by decide +kernel
theorem dX12_flow_4 : decode cX12_flow 4 = .ok (.invokestatic 72, 3) := by decide +kernel
theorem dX12_flow_7 : decode cX12_flow 7 = .ok (.ifCond .ne 7, 3) := by decide +kernel
theorem dX12_flow_10 : decode cX12_flow 10 = .ok (.ldc2_w 187, 3) := by decide +kernel
theorem dX12_flow_13 : decode cX12_flow 13 = .ok (.lreturn, 1) := by decide +kernel
theorem dX12_flow_14 : decode cX12_flow 14 = .ok (.aload_n 0, 1) := by decide +kernel
theorem dX12_flow_15 : decode cX12_flow 15 = .ok (.invokevirtual 208, 3) := by decide +kernel
theorem dX12_flow_18 : decode cX12_flow 18 = .ok (.ifCond .ne 7, 3) := by decide +kernel
theorem dX12_flow_21 : decode cX12_flow 21 = .ok (.ldc2_w 211, 3) := by decide +kernel
theorem dX12_flow_24 : decode cX12_flow 24 = .ok (.lreturn, 1) := by decide +kernel
theorem dX12_flow_25 : decode cX12_flow 25 = .ok (.aload_n 0, 1) := by decide +kernel
theorem dX12_flow_26 : decode cX12_flow 26 = .ok (.invokevirtual 213, 3) := by decide +kernel
theorem dX12_flow_29 : decode cX12_flow 29 = .ok (.aload_n 0, 1) := by decide +kernel
theorem dX12_flow_30 : decode cX12_flow 30 = .ok (.getfield 7, 3) := by decide +kernel
theorem dX12_flow_33 : decode cX12_flow 33 = .ok (.iconst 4, 1) := by decide +kernel
theorem dX12_flow_34 : decode cX12_flow 34 = .ok (.iaload, 1) := by decide +kernel
theorem dX12_flow_35 : decode cX12_flow 35 = .ok (.aload_n 0, 1) := by decide +kernel
theorem dX12_flow_36 : decode cX12_flow 36 = .ok (.getfield 7, 3) := by decide +kernel
theorem dX12_flow_39 : decode cX12_flow 39 = .ok (.bipush 6, 2) := by decide +kernel
theorem dX12_flow_41 : decode cX12_flow 41 = .ok (.iaload, 1) := by decide +kernel
theorem dX12_flow_42 : decode cX12_flow 42 = .ok (.imul, 1) := by decide +kernel
theorem dX12_flow_43 : decode cX12_flow 43 = .ok (.i2l, 1) := by decide +kernel
theorem dX12_flow_44 : decode cX12_flow 44 = .ok (.aload_n 0, 1) := by decide +kernel
theorem dX12_flow_45 : decode cX12_flow 45 = .ok (.aload_n 0, 1) := by decide +kernel
theorem dX12_flow_46 : decode cX12_flow 46 = .ok (.invokevirtual 139, 3) := by decide +kernel
theorem dX12_flow_49 : decode cX12_flow 49 = .ok (.iconst 1, 1) := by decide +kernel
theorem dX12_flow_50 : decode cX12_flow 50 = .ok (.isub, 1) := by decide +kernel
theorem dX12_flow_51 : decode cX12_flow 51 = .ok (.invokevirtual 216, 3) := by decide +kernel
theorem dX12_flow_54 : decode cX12_flow 54 = .ok (.lmul, 1) := by decide +kernel
theorem dX12_flow_55 : decode cX12_flow 55 = .ok (.aload_n 0, 1) := by decide +kernel
theorem dX12_flow_56 : decode cX12_flow 56 = .ok (.aload_n 0, 1) := by decide +kernel
theorem dX12_flow_57 : decode cX12_flow 57 = .ok (.invokevirtual 139, 3) := by decide +kernel
theorem dX12_flow_60 : decode cX12_flow 60 = .ok (.invokevirtual 216, 3) := by decide +kernel
theorem dX12_flow_63 : decode cX12_flow 63 = .ok (.iload_n 1, 1) := by decide +kernel
theorem dX12_flow_64 : decode cX12_flow 64 = .ok (.invokestatic 196, 3) := by decide +kernel
theorem dX12_flow_67 : decode cX12_flow 67 = .ok (.lreturn, 1) := by decide +kernel
theorem dX12_withAll_0 : decode cX12_withAll 0 = .ok (.lconst 0, 1) := by decide +kernel
theorem dX12_withAll_1 : decode cX12_withAll 1 = .ok (.lstore_n 2, 1) := by decide +kernel
theorem dX12_withAll_2 : decode cX12_withAll 2 = .ok (.iconst 0, 1) := by decide +kernel
theorem dX12_withAll_3 : decode cX12_withAll 3 = .ok (.istore 4, 2) := by decide +kernel
theorem dX12_withAll_5 : decode cX12_withAll 5 = .ok (.iload 4, 2) := by decide +kernel
theorem dX12_withAll_7 : decode cX12_withAll 7 = .ok (.aload_n 0, 1) := by decide +kernel
theorem dX12_withAll_8 : decode cX12_withAll 8 = .ok (.invokevirtual 68, 3) := by decide +kernel
theorem dX12_withAll_11 : decode cX12_withAll 11 = .ok (.if_icmp .ge 36, 3) := by decide +kernel
theorem dX12_withAll_14 : decode cX12_withAll 14 = .ok (.lload_n 2, 1) := by decide +kernel
theorem dX12_withAll_15 : decode cX12_withAll 15 = .ok (.iload 4, 2) := by decide +kernel
theorem dX12_withAll_17 : decode cX12_withAll 17 = .ok (.iload_n 1, 1) := by decide +kernel
theorem dX12_withAll_18 : decode cX12_withAll 18 = .ok (.iand, 1) := by decide +kernel
theorem dX12_withAll_19 : decode cX12_withAll 19 = .ok (.iload_n 1, 1) := by decide +kernel
theorem dX12_withAll_20 : decode cX12_withAll 20 = .ok (.if_icmp .ne 18, 3) := by decide +kernel
theorem dX12_withAll_23 : decode cX12_withAll 23 = .ok (.aload_n 0, 1) := by decide +kernel
theorem dX12_withAll_24 : decode cX12_withAll 24 = .ok (.getfield 38, 3) := by decide +kernel
theorem dX12_withAll_27 : decode cX12_withAll 27 = .ok (.aload_n 0, 1) := by decide +kernel
theorem dX12_withAll_28 : decode cX12_withAll 28 = .ok (.invokevirtual 68, 3) := by decide +kernel
theorem dX12_withAll_31 : decode cX12_withAll 31 = .ok (.iload 4, 2) := by decide +kernel
theorem dX12_withAll_33 : decode cX12_withAll 33 = .ok (.iadd, 1) := by decide +kernel
theorem dX12_withAll_34 : decode cX12_withAll 34 = .ok (.laload, 1) := by decide +kernel
theorem dX12_withAll_35 : decode cX12_withAll 35 = .ok (.goto 4, 3) := by decide +kernel
theorem dX12_withAll_38 : decode cX12_withAll 38 = .ok (.lconst 0, 1) := by decide +kernel
theorem dX12_withAll_39 : decode cX12_withAll 39 = .ok (.ladd, 1) := by decide +kernel
theorem dX12_withAll_40 : decode cX12_withAll 40 = .ok (.lstore_n 2, 1) := by decide +kernel
theorem dX12_withAll_41 : decode cX12_withAll 41 = .ok (.iinc 4 1, 3) := by decide +kernel
theorem dX12_withAll_44 : decode cX12_withAll 44 = .ok (.goto (-39), 3) := by decide +kernel
theorem dX12_withAll_47 : decode cX12_withAll 47 = .ok (.lload_n 2, 1) := by decide +kernel
theorem dX12_withAll_48 : decode cX12_withAll 48 = .ok (.lreturn, 1) := by decide +kernel
theorem dX12_full_0 : decode cX12_full 0 = .ok (.iload_n 1, 1) := by decide +kernel
theorem dX12_full_1 : decode cX12_full 1 = .ok (.i2l, 1) := by decide +kernel
theorem dX12_full_2 : decode cX12_full 2 = .ok (.lconst 0, 1) := by decide +kernel
theorem dX12_full_3 : decode cX12_full 3 = .ok (.aload_n 0, 1) := by decide +kernel
theorem dX12_full_4 : decode cX12_full 4 = .ok (.invokevirtual 139, 3) := by decide +kernel
theorem dX12_full_7 : decode cX12_full 7 = .ok (.iconst 1, 1) := by decide +kernel
theorem dX12_full_8 : decode cX12_full 8 = .ok (.isub, 1) := by decide +kernel
theorem dX12_full_9 : decode cX12_full 9 = .ok (.i2l, 1) := by decide +kernel
theorem dX12_full_10 : decode cX12_full 10 = .ok (.invokestatic 72, 3) := by decide +kernel
theorem dX12_full_13 : decode cX12_full 13 = .ok (.ifCond .eq 13, 3) := by decide +kernel
theorem dX12_full_16 : decode cX12_full 16 = .ok (.iload_n 2, 1) := by decide +kernel
theorem dX12_full_17 : decode cX12_full 17 = .ok (.i2l, 1) := by decide +kernel
theorem dX12_full_18 : decode cX12_full 18 = .ok (.lconst 0, 1) := by decide +kernel
theorem dX12_full_19 : decode cX12_full 19 = .ok (.lconst 1, 1) := by decide +kernel
theorem dX12_full_20 : decode cX12_full 20 = .ok (.invokestatic 72, 3) := by decide +kernel
theorem dX12_full_23 : decode cX12_full 23 = .ok (.ifCond .ne 7, 3) := by decide +kernel
theorem dX12_full_26 : decode cX12_full 26 = .ok (.ldc2_w 187, 3) := by decide +kernel
theorem dX12_full_29 : decode cX12_full 29 = .ok (.lreturn, 1) := by decide +kernel
theorem dX12_full_30 : decode cX12_full 30 = .ok (.aload_n 0, 1) := by decide +kernel
theorem dX12_full_31 : decode cX12_full 31 = .ok (.invokevirtual 208, 3) := by decide +kernel
theorem dX12_full_34 : decode cX12_full 34 = .ok (.ifCond .ne 7, 3) := by decide +kernel
theorem dX12_full_37 : decode cX12_full 37 = .ok (.ldc2_w 211, 3) := by decide +kernel
theorem dX12_full_40 : decode cX12_full 40 = .ok (.lreturn, 1) := by decide +kernel
theorem dX12_full_41 : decode cX12_full 41 = .ok (.aload_n 0, 1) := by decide +kernel
theorem dX12_full_42 : decode cX12_full 42 = .ok (.invokevirtual 213, 3) := by decide +kernel
theorem dX12_full_45 : decode cX12_full 45 = .ok (.aload_n 0, 1) := by decide +kernel
theorem dX12_full_46 : decode cX12_full 46 = .ok (.iconst 1, 1) := by decide +kernel
theorem dX12_full_47 : decode cX12_full 47 = .ok (.iload_n 1, 1) := by decide +kernel
theorem dX12_full_48 : decode cX12_full 48 = .ok (.ishl, 1) := by decide +kernel
theorem dX12_full_49 : decode cX12_full 49 = .ok (.invokevirtual 219, 3) := by decide +kernel
theorem dX12_full_52 : decode cX12_full 52 = .ok (.aload_n 0, 1) := by decide +kernel
theorem dX12_full_53 : decode cX12_full 53 = .ok (.aload_n 0, 1) := by decide +kernel
theorem dX12_full_54 : decode cX12_full 54 = .ok (.invokevirtual 139, 3) := by decide +kernel
theorem dX12_full_57 : decode cX12_full 57 = .ok (.invokevirtual 216, 3) := by decide +kernel
theorem dX12_full_60 : decode cX12_full 60 = .ok (.iload_n 2, 1) := by decide +kernel
theorem dX12_full_61 : decode cX12_full 61 = .ok (.invokestatic 196, 3) := by decide +kernel
theorem dX12_full_64 : decode cX12_full 64 = .ok (.lreturn, 1) := by decide +kernel
theorem dX12_both_0 : decode cX12_both 0 = .ok (.iload_n 1, 1) := by decide +kernel
theorem dX12_both_1 : decode cX12_both 1 = .ok (.i2l, 1) := by decide +kernel
theorem dX12_both_2 : decode cX12_both 2 = .ok (.lconst 0, 1) := by decide +kernel
theorem dX12_both_3 : decode cX12_both 3 = .ok (.aload_n 0, 1) := by decide +kernel
theorem dX12_both_4 : decode cX12_both 4 = .ok (.invokevirtual 139, 3) := by decide +kernel
theorem dX12_both_7 : decode cX12_both 7 = .ok (.iconst 1, 1) := by decide +kernel
theorem dX12_both_8 : decode cX12_both 8 = .ok (.isub, 1) := by decide +kernel
theorem dX12_both_9 : decode cX12_both 9 = .ok (.i2l, 1) := by decide +kernel
theorem dX12_both_10 : decode cX12_both 10 = .ok (.invokestatic 72, 3) := by decide +kernel
theorem dX12_both_13 : decode cX12_both 13 = .ok (.ifCond .eq 34, 3) := by decide +kernel
theorem dX12_both_16 : decode cX12_both 16 = .ok (.iload_n 2, 1) := by decide +kernel
theorem dX12_both_17 : decode cX12_both 17 = .ok (.i2l, 1) := by decide +kernel
theorem dX12_both_18 : decode cX12_both 18 = .ok (.lconst 0, 1) := by decide +kernel
theorem dX12_both_19 : decode cX12_both 19 = .ok (.aload_n 0, 1) := by decide +kernel
theorem dX12_both_20 : decode cX12_both 20 = .ok (.invokevirtual 139, 3) := by decide +kernel
theorem dX12_both_23 : decode cX12_both 23 = .ok (.iconst 1, 1) := by decide +kernel
theorem dX12_both_24 : decode cX12_both 24 = .ok (.isub, 1) := by decide +kernel
theorem dX12_both_25 : decode cX12_both 25 = .ok (.i2l, 1) := by decide +kernel
theorem dX12_both_26 : decode cX12_both 26 = .ok (.invokestatic 72, 3) := by decide +kernel
theorem dX12_both_29 : decode cX12_both 29 = .ok (.ifCond .eq 18, 3) := by decide +kernel
theorem dX12_both_32 : decode cX12_both 32 = .ok (.iload_n 1, 1) := by decide +kernel
theorem dX12_both_33 : decode cX12_both 33 = .ok (.iload_n 2, 1) := by decide +kernel
theorem dX12_both_34 : decode cX12_both 34 = .ok (.if_icmp .eq 13, 3) := by decide +kernel
theorem dX12_both_37 : decode cX12_both 37 = .ok (.iload_n 3, 1) := by decide +kernel
theorem dX12_both_38 : decode cX12_both 38 = .ok (.i2l, 1) := by decide +kernel
theorem dX12_both_39 : decode cX12_both 39 = .ok (.lconst 0, 1) := by decide +kernel
theorem dX12_both_40 : decode cX12_both 40 = .ok (.lconst 1, 1) := by decide +kernel
theorem dX12_both_41 : decode cX12_both 41 = .ok (.invokestatic 72, 3) := by decide +kernel
theorem dX12_both_44 : decode cX12_both 44 = .ok (.ifCond .ne 7, 3) := by decide +kernel
theorem dX12_both_47 : decode cX12_both 47 = .ok (.ldc2_w 187, 3) := by decide +kernel
theorem dX12_both_50 : decode cX12_both 50 = .ok (.lreturn, 1) := by decide +kernel
theorem dX12_both_51 : decode cX12_both 51 = .ok (.aload_n 0, 1) := by decide +kernel
theorem dX12_both_52 : decode cX12_both 52 = .ok (.invokevirtual 208, 3) := by decide +kernel
theorem dX12_both_55 : decode cX12_both 55 = .ok (.ifCond .ne 7, 3) := by decide +kernel
theorem dX12_both_58 : decode cX12_both 58 = .ok (.ldc2_w 211, 3) := by decide +kernel
theorem dX12_both_61 : decode cX12_both 61 = .ok (.lreturn, 1) := by decide +kernel
theorem dX12_both_62 : decode cX12_both 62 = .ok (.aload_n 0, 1) := by decide +kernel
theorem dX12_both_63 : decode cX12_both 63 = .ok (.invokevirtual 213, 3) := by decide +kernel
theorem dX12_both_66 : decode cX12_both 66 = .ok (.aload_n 0, 1) := by decide +kernel
theorem dX12_both_67 : decode cX12_both 67 = .ok (.iconst 1, 1) := by decide +kernel
theorem dX12_both_68 : decode cX12_both 68 = .ok (.iload_n 1, 1) := by decide +kernel
theorem dX12_both_69 : decode cX12_both 69 = .ok (.ishl, 1) := by decide +kernel
theorem dX12_both_70 : decode cX12_both 70 = .ok (.iconst 1, 1) := by decide +kernel
theorem dX12_both_71 : decode cX12_both 71 = .ok (.iload_n 2, 1) := by decide +kernel
theorem dX12_both_72 : decode cX12_both 72 = .ok (.ishl, 1) := by decide +kernel
theorem dX12_both_73 : decode cX12_both 73 = .ok (.ior, 1) := by decide +kernel
theorem dX12_both_74 : decode cX12_both 74 = .ok (.invokevirtual 219, 3) := by decide +kernel
theorem dX12_both_77 : decode cX12_both 77 = .ok (.aload_n 0, 1) := by decide +kernel
theorem dX12_both_78 : decode cX12_both 78 = .ok (.aload_n 0, 1) := by decide +kernel
theorem dX12_both_79 : decode cX12_both 79 = .ok (.invokevirtual 139, 3) := by decide +kernel
theorem dX12_both_82 : decode cX12_both 82 = .ok (.invokevirtual 216, 3) := by decide +kernel
theorem dX12_both_85 : decode cX12_both 85 = .ok (.iload_n 3, 1) := by decide +kernel
theorem dX12_both_86 : decode cX12_both 86 = .ok (.invokestatic 196, 3) := by decide +kernel
theorem dX12_both_89 : decode cX12_both 89 = .ok (.lreturn, 1) := by decide +kernel
theorem dX12_rule_0 : decode cX12_rule 0 = .ok (.iload_n 1, 1) := by decide +kernel
theorem dX12_rule_1 : decode cX12_rule 1 = .ok (.i2l, 1) := by decide +kernel
theorem dX12_rule_2 : decode cX12_rule 2 = .ok (.lconst 1, 1) := by decide +kernel
theorem dX12_rule_3 : decode cX12_rule 3 = .ok (.ldc2_w 222, 3) := by decide +kernel
theorem dX12_rule_6 : decode cX12_rule 6 = .ok (.invokestatic 72, 3) := by decide +kernel
theorem dX12_rule_9 : decode cX12_rule 9 = .ok (.ifCond .eq 15, 3) := by decide +kernel
theorem dX12_rule_12 : decode cX12_rule 12 = .ok (.iload_n 2, 1) := by decide +kernel
theorem dX12_rule_13 : decode cX12_rule 13 = .ok (.i2l, 1) := by decide +kernel
theorem dX12_rule_14 : decode cX12_rule 14 = .ok (.lconst 1, 1) := by decide +kernel
theorem dX12_rule_15 : decode cX12_rule 15 = .ok (.ldc2_w 222, 3) := by decide +kernel
theorem dX12_rule_18 : decode cX12_rule 18 = .ok (.invokestatic 72, 3) := by decide +kernel
theorem dX12_rule_21 : decode cX12_rule 21 = .ok (.ifCond .ne 5, 3) := by decide +kernel
theorem dX12_rule_24 : decode cX12_rule 24 = .ok (.iconst (-1), 1) := by decide +kernel
theorem dX12_rule_25 : decode cX12_rule 25 = .ok (.ireturn, 1) := by decide +kernel
theorem dX12_rule_26 : decode cX12_rule 26 = .ok (.iload_n 1, 1) := by decide +kernel
theorem dX12_rule_27 : decode cX12_rule 27 = .ok (.iconst 5, 1) := by decide +kernel
theorem dX12_rule_28 : decode cX12_rule 28 = .ok (.if_icmp .lt 12, 3) := by decide +kernel
theorem dX12_rule_31 : decode cX12_rule 31 = .ok (.iload_n 2, 1) := by decide +kernel
theorem dX12_rule_32 : decode cX12_rule 32 = .ok (.iconst 5, 1) := by decide +kernel
theorem dX12_rule_33 : decode cX12_rule 33 = .ok (.if_icmp .lt 7, 3) := by decide +kernel
theorem dX12_rule_36 : decode cX12_rule 36 = .ok (.iconst 2, 1) := by decide +kernel
theorem dX12_rule_37 : decode cX12_rule 37 = .ok (.goto 22, 3) := by decide +kernel
theorem dX12_rule_40 : decode cX12_rule 40 = .ok (.iload_n 1, 1) := by decide +kernel
theorem dX12_rule_41 : decode cX12_rule 41 = .ok (.iload_n 2, 1) := by decide +kernel
theorem dX12_rule_42 : decode cX12_rule 42 = .ok (.if_icmp .ge 7, 3) := by decide +kernel
theorem dX12_rule_45 : decode cX12_rule 45 = .ok (.iconst 0, 1) := by decide +kernel
theorem dX12_rule_46 : decode cX12_rule 46 = .ok (.goto 13, 3) := by decide +kernel
theorem dX12_rule_49 : decode cX12_rule 49 = .ok (.iload_n 2, 1) := by decide +kernel
theorem dX12_rule_50 : decode cX12_rule 50 = .ok (.iload_n 1, 1) := by decide +kernel
theorem dX12_rule_51 : decode cX12_rule 51 = .ok (.if_icmp .ge 7, 3) := by decide +kernel
theorem dX12_rule_54 : decode cX12_rule 54 = .ok (.iconst 1, 1) := by decide +kernel
theorem dX12_rule_55 : decode cX12_rule 55 = .ok (.goto 4, 3) := by decide +kernel
theorem dX12_rule_58 : decode cX12_rule 58 = .ok (.iconst 3, 1) := by decide +kernel
theorem dX12_rule_59 : decode cX12_rule 59 = .ok (.ireturn, 1) := by decide +kernel
theorem dX12_shock_0 : decode cX12_shock 0 = .ok (.iload_n 1, 1) := by decide +kernel
theorem dX12_shock_1 : decode cX12_shock 1 = .ok (.i2l, 1) := by decide +kernel
theorem dX12_shock_2 : decode cX12_shock 2 = .ok (.lconst 0, 1) := by decide +kernel
theorem dX12_shock_3 : decode cX12_shock 3 = .ok (.ldc2_w 222, 3) := by decide +kernel
theorem dX12_shock_6 : decode cX12_shock 6 = .ok (.invokestatic 72, 3) := by decide +kernel
theorem dX12_shock_9 : decode cX12_shock 9 = .ok (.ifCond .eq 27, 3) := by decide +kernel
theorem dX12_shock_12 : decode cX12_shock 12 = .ok (.iload_n 2, 1) := by decide +kernel
theorem dX12_shock_13 : decode cX12_shock 13 = .ok (.i2l, 1) := by decide +kernel
theorem dX12_shock_14 : decode cX12_shock 14 = .ok (.lconst 0, 1) := by decide +kernel
theorem dX12_shock_15 : decode cX12_shock 15 = .ok (.ldc2_w 222, 3) := by decide +kernel
theorem dX12_shock_18 : decode cX12_shock 18 = .ok (.invokestatic 72, 3) := by decide +kernel
theorem dX12_shock_21 : decode cX12_shock 21 = .ok (.ifCond .eq 15, 3) := by decide +kernel
theorem dX12_shock_24 : decode cX12_shock 24 = .ok (.iload_n 3, 1) := by decide +kernel
theorem dX12_shock_25 : decode cX12_shock 25 = .ok (.i2l, 1) := by decide +kernel
theorem dX12_shock_26 : decode cX12_shock 26 = .ok (.lconst 0, 1) := by decide +kernel
theorem dX12_shock_27 : decode cX12_shock 27 = .ok (.ldc2_w 176, 3) := by decide +kernel
theorem dX12_shock_30 : decode cX12_shock 30 = .ok (.invokestatic 72, 3) := by decide +kernel
theorem dX12_shock_33 : decode cX12_shock 33 = .ok (.ifCond .ne 6, 3) := by decide +kernel
theorem dX12_shock_36 : decode cX12_shock 36 = .ok (.bipush (-100), 2) := by decide +kernel
theorem dX12_shock_38 : decode cX12_shock 38 = .ok (.ireturn, 1) := by decide +kernel
theorem dX12_shock_39 : decode cX12_shock 39 = .ok (.iload_n 1, 1) := by decide +kernel
theorem dX12_shock_40 : decode cX12_shock 40 = .ok (.iload_n 2, 1) := by decide +kernel
theorem dX12_shock_41 : decode cX12_shock 41 = .ok (.if_icmp .ne 6, 3) := by decide +kernel
theorem dX12_shock_44 : decode cX12_shock 44 = .ok (.bipush (-104), 2) := by decide +kernel
theorem dX12_shock_46 : decode cX12_shock 46 = .ok (.ireturn, 1) := by decide +kernel
theorem dX12_shock_47 : decode cX12_shock 47 = .ok (.iload_n 3, 1) := by decide +kernel
theorem dX12_shock_48 : decode cX12_shock 48 = .ok (.iconst 2, 1) := by decide +kernel
theorem dX12_shock_49 : decode cX12_shock 49 = .ok (.if_icmp .ne 19, 3) := by decide +kernel
theorem dX12_shock_52 : decode cX12_shock 52 = .ok (.iload_n 1, 1) := by decide +kernel
theorem dX12_shock_53 : decode cX12_shock 53 = .ok (.iload_n 2, 1) := by decide +kernel
theorem dX12_shock_54 : decode cX12_shock 54 = .ok (.iadd, 1) := by decide +kernel
theorem dX12_shock_55 : decode cX12_shock 55 = .ok (.bipush 10, 2) := by decide +kernel
theorem dX12_shock_57 : decode cX12_shock 57 = .ok (.if_icmp .ne 7, 3) := by decide +kernel
theorem dX12_shock_60 : decode cX12_shock 60 = .ok (.iconst 1, 1) := by decide +kernel
theorem dX12_shock_61 : decode cX12_shock 61 = .ok (.goto 22, 3) := by decide +kernel
theorem dX12_shock_64 : decode cX12_shock 64 = .ok (.iconst 0, 1) := by decide +kernel
theorem dX12_shock_65 : decode cX12_shock 65 = .ok (.goto 18, 3) := by decide +kernel
theorem dX12_shock_68 : decode cX12_shock 68 = .ok (.bipush 10, 2) := by decide +kernel
theorem dX12_shock_70 : decode cX12_shock 70 = .ok (.iload_n 1, 1) := by decide +kernel
theorem dX12_shock_71 : decode cX12_shock 71 = .ok (.isub, 1) := by decide +kernel
theorem dX12_shock_72 : decode cX12_shock 72 = .ok (.iload_n 2, 1) := by decide +kernel
theorem dX12_shock_73 : decode cX12_shock 73 = .ok (.isub, 1) := by decide +kernel
theorem dX12_shock_74 : decode cX12_shock 74 = .ok (.i2l, 1) := by decide +kernel
theorem dX12_shock_75 : decode cX12_shock 75 = .ok (.ldc2_w 222, 3) := by decide +kernel
theorem dX12_shock_78 : decode cX12_shock 78 = .ok (.iload_n 3, 1) := by decide +kernel
theorem dX12_shock_79 : decode cX12_shock 79 = .ok (.invokestatic 196, 3) := by decide +kernel
theorem dX12_shock_82 : decode cX12_shock 82 = .ok (.l2i, 1) := by decide +kernel
theorem dX12_shock_83 : decode cX12_shock 83 = .ok (.ireturn, 1) := by decide +kernel
theorem dX12_onceMore_0 : decode cX12_onceMore 0 = .ok (.aload_n 0, 1) := by decide +kernel
theorem dX12_onceMore_1 : decode cX12_onceMore 1 = .ok (.invokevirtual 139, 3) := by decide +kernel
theorem dX12_onceMore_4 : decode cX12_onceMore 4 = .ok (.istore_n 2, 1) := by decide +kernel
theorem dX12_onceMore_5 : decode cX12_onceMore 5 = .ok (.iload_n 1, 1) := by decide +kernel
theorem dX12_onceMore_6 : decode cX12_onceMore 6 = .ok (.istore_n 3, 1) := by decide +kernel
theorem dX12_onceMore_7 : decode cX12_onceMore 7 = .ok (.aload_n 0, 1) := by decide +kernel
theorem dX12_onceMore_8 : decode cX12_onceMore 8 = .ok (.iconst 0, 1) := by decide +kernel
theorem dX12_onceMore_9 : decode cX12_onceMore 9 = .ok (.putfield 224, 3) := by decide +kernel
theorem dX12_onceMore_12 : decode cX12_onceMore 12 = .ok (.iconst 0, 1) := by decide +kernel
theorem dX12_onceMore_13 : decode cX12_onceMore 13 = .ok (.istore 4, 2) := by decide +kernel
theorem dX12_onceMore_15 : decode cX12_onceMore 15 = .ok (.iload 4, 2) := by decide +kernel
theorem dX12_onceMore_17 : decode cX12_onceMore 17 = .ok (.iload_n 2, 1) := by decide +kernel
theorem dX12_onceMore_18 : decode cX12_onceMore 18 = .ok (.if_icmp .ge 69, 3) := by decide +kernel
theorem dX12_onceMore_21 : decode cX12_onceMore 21 = .ok (.iload 4, 2) := by decide +kernel
theorem dX12_onceMore_23 : decode cX12_onceMore 23 = .ok (.iconst 1, 1) := by decide +kernel
theorem dX12_onceMore_24 : decode cX12_onceMore 24 = .ok (.iadd, 1) := by decide +kernel
theorem dX12_onceMore_25 : decode cX12_onceMore 25 = .ok (.iload_n 2, 1) := by decide +kernel
theorem dX12_onceMore_26 : decode cX12_onceMore 26 = .ok (.if_icmp .ge 10, 3) := by decide +kernel
theorem dX12_onceMore_29 : decode cX12_onceMore 29 = .ok (.iload 4, 2) := by decide +kernel
theorem dX12_onceMore_31 : decode cX12_onceMore 31 = .ok (.iconst 1, 1) := by decide +kernel
theorem dX12_onceMore_32 : decode cX12_onceMore 32 = .ok (.iadd, 1) := by decide +kernel
theorem dX12_onceMore_33 : decode cX12_onceMore 33 = .ok (.goto 4, 3) := by decide +kernel
theorem dX12_onceMore_36 : decode cX12_onceMore 36 = .ok (.iconst 0, 1) := by decide +kernel
theorem dX12_onceMore_37 : decode cX12_onceMore 37 = .ok (.istore 5, 2) := by decide +kernel
theorem dX12_onceMore_39 : decode cX12_onceMore 39 = .ok (.aload_n 0, 1) := by decide +kernel
theorem dX12_onceMore_40 : decode cX12_onceMore 40 = .ok (.iload_n 1, 1) := by decide +kernel
theorem dX12_onceMore_41 : decode cX12_onceMore 41 = .ok (.iload 4, 2) := by decide +kernel
theorem dX12_onceMore_43 : decode cX12_onceMore 43 = .ok (.invokevirtual 135, 3) := by decide +kernel
theorem dX12_onceMore_46 : decode cX12_onceMore 46 = .ok (.ifCond .eq 35, 3) := by decide +kernel
theorem dX12_onceMore_49 : decode cX12_onceMore 49 = .ok (.aload_n 0, 1) := by decide +kernel
theorem dX12_onceMore_50 : decode cX12_onceMore 50 = .ok (.iload_n 1, 1) := by decide +kernel
theorem dX12_onceMore_51 : decode cX12_onceMore 51 = .ok (.iload 5, 2) := by decide +kernel
theorem dX12_onceMore_53 : decode cX12_onceMore 53 = .ok (.invokevirtual 135, 3) := by decide +kernel
theorem dX12_onceMore_56 : decode cX12_onceMore 56 = .ok (.ifCond .ne 25, 3) := by decide +kernel
theorem dX12_onceMore_59 : decode cX12_onceMore 59 = .ok (.iload_n 3, 1) := by decide +kernel
theorem dX12_onceMore_60 : decode cX12_onceMore 60 = .ok (.iconst 1, 1) := by decide +kernel
theorem dX12_onceMore_61 : decode cX12_onceMore 61 = .ok (.iload 4, 2) := by decide +kernel
theorem dX12_onceMore_63 : decode cX12_onceMore 63 = .ok (.ishl, 1) := by decide +kernel
theorem dX12_onceMore_64 : decode cX12_onceMore 64 = .ok (.iconst 1, 1) := by decide +kernel
theorem dX12_onceMore_65 : decode cX12_onceMore 65 = .ok (.iload 5, 2) := by decide +kernel
theorem dX12_onceMore_67 : decode cX12_onceMore 67 = .ok (.ishl, 1) := by decide +kernel
theorem dX12_onceMore_68 : decode cX12_onceMore 68 = .ok (.ixor, 1) := by decide +kernel
theorem dX12_onceMore_69 : decode cX12_onceMore 69 = .ok (.ixor, 1) := by decide +kernel
theorem dX12_onceMore_70 : decode cX12_onceMore 70 = .ok (.istore_n 3, 1) := by decide +kernel
theorem dX12_onceMore_71 : decode cX12_onceMore 71 = .ok (.aload_n 0, 1) := by decide +kernel
theorem dX12_onceMore_72 : decode cX12_onceMore 72 = .ok (.dup, 1) := by decide +kernel
theorem dX12_onceMore_73 : decode cX12_onceMore 73 = .ok (.getfield 224, 3) := by decide +kernel
theorem dX12_onceMore_76 : decode cX12_onceMore 76 = .ok (.iconst 1, 1) := by decide +kernel
theorem dX12_onceMore_77 : decode cX12_onceMore 77 = .ok (.iadd, 1) := by decide +kernel
theorem dX12_onceMore_78 : decode cX12_onceMore 78 = .ok (.putfield 224, 3) := by decide +kernel
theorem dX12_onceMore_81 : decode cX12_onceMore 81 = .ok (.iinc 4 1, 3) := by decide +kernel
theorem dX12_onceMore_84 : decode cX12_onceMore 84 = .ok (.goto (-69), 3) := by decide +kernel
theorem dX12_onceMore_87 : decode cX12_onceMore 87 = .ok (.iload_n 3, 1) := by decide +kernel
theorem dX12_onceMore_88 : decode cX12_onceMore 88 = .ok (.ireturn, 1) := by decide +kernel
theorem dX12_atOnce_0 : decode cX12_atOnce 0 = .ok (.aload_n 0, 1) := by decide +kernel
theorem dX12_atOnce_1 : decode cX12_atOnce 1 = .ok (.iload_n 1, 1) := by decide +kernel
theorem dX12_atOnce_2 : decode cX12_atOnce 2 = .ok (.invokevirtual 150, 3) := by decide +kernel
theorem dX12_atOnce_5 : decode cX12_atOnce 5 = .ok (.ifCond .eq 15, 3) := by decide +kernel
theorem dX12_atOnce_8 : decode cX12_atOnce 8 = .ok (.iload_n 2, 1) := by decide +kernel
theorem dX12_atOnce_9 : decode cX12_atOnce 9 = .ok (.i2l, 1) := by decide +kernel
theorem dX12_atOnce_10 : decode cX12_atOnce 10 = .ok (.lconst 0, 1) := by decide +kernel
theorem dX12_atOnce_11 : decode cX12_atOnce 11 = .ok (.ldc2_w 227, 3) := by decide +kernel
theorem dX12_atOnce_14 : decode cX12_atOnce 14 = .ok (.invokestatic 72, 3) := by decide +kernel
theorem dX12_atOnce_17 : decode cX12_atOnce 17 = .ok (.ifCond .ne 5, 3) := by decide +kernel
theorem dX12_atOnce_20 : decode cX12_atOnce 20 = .ok (.iconst (-1), 1) := by decide +kernel
theorem dX12_atOnce_21 : decode cX12_atOnce 21 = .ok (.ireturn, 1) := by decide +kernel
theorem dX12_atOnce_22 : decode cX12_atOnce 22 = .ok (.aload_n 0, 1) := by decide +kernel
theorem dX12_atOnce_23 : decode cX12_atOnce 23 = .ok (.invokevirtual 142, 3) := by decide +kernel
theorem dX12_atOnce_26 : decode cX12_atOnce 26 = .ok (.ifCond .eq 6, 3) := by decide +kernel
theorem dX12_atOnce_29 : decode cX12_atOnce 29 = .ok (.bipush (-2), 2) := by decide +kernel
theorem dX12_atOnce_31 : decode cX12_atOnce 31 = .ok (.ireturn, 1) := by decide +kernel
theorem dX12_atOnce_32 : decode cX12_atOnce 32 = .ok (.iload_n 1, 1) := by decide +kernel
theorem dX12_atOnce_33 : decode cX12_atOnce 33 = .ok (.istore_n 3, 1) := by decide +kernel
theorem dX12_atOnce_34 : decode cX12_atOnce 34 = .ok (.iconst 0, 1) := by decide +kernel
theorem dX12_atOnce_35 : decode cX12_atOnce 35 = .ok (.istore 4, 2) := by decide +kernel
theorem dX12_atOnce_37 : decode cX12_atOnce 37 = .ok (.iload 4, 2) := by decide +kernel
theorem dX12_atOnce_39 : decode cX12_atOnce 39 = .ok (.iload_n 2, 1) := by decide +kernel
theorem dX12_atOnce_40 : decode cX12_atOnce 40 = .ok (.if_icmp .ge 15, 3) := by decide +kernel
theorem dX12_atOnce_43 : decode cX12_atOnce 43 = .ok (.aload_n 0, 1) := by decide +kernel
theorem dX12_atOnce_44 : decode cX12_atOnce 44 = .ok (.iload_n 3, 1) := by decide +kernel
theorem dX12_atOnce_45 : decode cX12_atOnce 45 = .ok (.invokevirtual 229, 3) := by decide +kernel
theorem dX12_atOnce_48 : decode cX12_atOnce 48 = .ok (.istore_n 3, 1) := by decide +kernel
theorem dX12_atOnce_49 : decode cX12_atOnce 49 = .ok (.iinc 4 1, 3) := by decide +kernel
theorem dX12_atOnce_52 : decode cX12_atOnce 52 = .ok (.goto (-15), 3) := by decide +kernel
theorem dX12_atOnce_55 : decode cX12_atOnce 55 = .ok (.iload_n 3, 1) := by decide +kernel
theorem dX12_atOnce_56 : decode cX12_atOnce 56 = .ok (.ireturn, 1) := by decide +kernel
theorem dX12_round_0 : decode cX12_round 0 = .ok (.aload_n 0, 1) := by decide +kernel
theorem dX12_round_1 : decode cX12_round 1 = .ok (.iload_n 1, 1) := by decide +kernel
theorem dX12_round_2 : decode cX12_round 2 = .ok (.invokevirtual 150, 3) := by decide +kernel
theorem dX12_round_5 : decode cX12_round 5 = .ok (.ifCond .eq 15, 3) := by decide +kernel
theorem dX12_round_8 : decode cX12_round 8 = .ok (.iload_n 2, 1) := by decide +kernel
theorem dX12_round_9 : decode cX12_round 9 = .ok (.i2l, 1) := by decide +kernel
theorem dX12_round_10 : decode cX12_round 10 = .ok (.lconst 0, 1) := by decide +kernel
theorem dX12_round_11 : decode cX12_round 11 = .ok (.ldc2_w 176, 3) := by decide +kernel
theorem dX12_round_14 : decode cX12_round 14 = .ok (.invokestatic 72, 3) := by decide +kernel
theorem dX12_round_17 : decode cX12_round 17 = .ok (.ifCond .ne 5, 3) := by decide +kernel
theorem dX12_round_20 : decode cX12_round 20 = .ok (.iconst (-1), 1) := by decide +kernel
theorem dX12_round_21 : decode cX12_round 21 = .ok (.ireturn, 1) := by decide +kernel
theorem dX12_round_22 : decode cX12_round 22 = .ok (.aload_n 0, 1) := by decide +kernel
theorem dX12_round_23 : decode cX12_round 23 = .ok (.invokevirtual 142, 3) := by decide +kernel
theorem dX12_round_26 : decode cX12_round 26 = .ok (.ifCond .eq 6, 3) := by decide +kernel
theorem dX12_round_29 : decode cX12_round 29 = .ok (.bipush (-2), 2) := by decide +kernel
theorem dX12_round_31 : decode cX12_round 31 = .ok (.ireturn, 1) := by decide +kernel
theorem dX12_round_32 : decode cX12_round 32 = .ok (.iconst 0, 1) := by decide +kernel
theorem dX12_round_33 : decode cX12_round 33 = .ok (.istore_n 3, 1) := by decide +kernel
theorem dX12_round_34 : decode cX12_round 34 = .ok (.iload_n 3, 1) := by decide +kernel
theorem dX12_round_35 : decode cX12_round 35 = .ok (.bipush 64, 2) := by decide +kernel
theorem dX12_round_37 : decode cX12_round 37 = .ok (.if_icmp .ge 17, 3) := by decide +kernel
theorem dX12_round_40 : decode cX12_round 40 = .ok (.aload_n 0, 1) := by decide +kernel
theorem dX12_round_41 : decode cX12_round 41 = .ok (.getfield 41, 3) := by decide +kernel
theorem dX12_round_44 : decode cX12_round 44 = .ok (.iload_n 3, 1) := by decide +kernel
theorem dX12_round_45 : decode cX12_round 45 = .ok (.bipush (-4), 2) := by decide +kernel
theorem dX12_round_47 : decode cX12_round 47 = .ok (.iastore, 1) := by decide +kernel
theorem dX12_round_48 : decode cX12_round 48 = .ok (.iinc 3 1, 3) := by decide +kernel
theorem dX12_round_51 : decode cX12_round 51 = .ok (.goto (-17), 3) := by decide +kernel
theorem dX12_round_54 : decode cX12_round 54 = .ok (.iload_n 1, 1) := by decide +kernel
theorem dX12_round_55 : decode cX12_round 55 = .ok (.istore_n 3, 1) := by decide +kernel
theorem dX12_round_56 : decode cX12_round 56 = .ok (.iconst 0, 1) := by decide +kernel
theorem dX12_round_57 : decode cX12_round 57 = .ok (.istore 4, 2) := by decide +kernel
theorem dX12_round_59 : decode cX12_round 59 = .ok (.aload_n 0, 1) := by decide +kernel
theorem dX12_round_60 : decode cX12_round 60 = .ok (.getfield 41, 3) := by decide +kernel
theorem dX12_round_63 : decode cX12_round 63 = .ok (.iload_n 3, 1) := by decide +kernel
theorem dX12_round_64 : decode cX12_round 64 = .ok (.iaload, 1) := by decide +kernel
theorem dX12_round_65 : decode cX12_round 65 = .ok (.bipush (-4), 2) := by decide +kernel
theorem dX12_round_67 : decode cX12_round 67 = .ok (.if_icmp .ne 23, 3) := by decide +kernel
theorem dX12_round_70 : decode cX12_round 70 = .ok (.aload_n 0, 1) := by decide +kernel
theorem dX12_round_71 : decode cX12_round 71 = .ok (.getfield 41, 3) := by decide +kernel
theorem dX12_round_74 : decode cX12_round 74 = .ok (.iload_n 3, 1) := by decide +kernel
theorem dX12_round_75 : decode cX12_round 75 = .ok (.iload 4, 2) := by decide +kernel
theorem dX12_round_77 : decode cX12_round 77 = .ok (.iastore, 1) := by decide +kernel
theorem dX12_round_78 : decode cX12_round 78 = .ok (.aload_n 0, 1) := by decide +kernel
theorem dX12_round_79 : decode cX12_round 79 = .ok (.iload_n 3, 1) := by decide +kernel
theorem dX12_round_80 : decode cX12_round 80 = .ok (.invokevirtual 229, 3) := by decide +kernel
theorem dX12_round_83 : decode cX12_round 83 = .ok (.istore_n 3, 1) := by decide +kernel
theorem dX12_round_84 : decode cX12_round 84 = .ok (.iinc 4 1, 3) := by decide +kernel
theorem dX12_round_87 : decode cX12_round 87 = .ok (.goto (-28), 3) := by decide +kernel
theorem dX12_round_90 : decode cX12_round 90 = .ok (.iload 4, 2) := by decide +kernel
theorem dX12_round_92 : decode cX12_round 92 = .ok (.aload_n 0, 1) := by decide +kernel
theorem dX12_round_93 : decode cX12_round 93 = .ok (.getfield 41, 3) := by decide +kernel
theorem dX12_round_96 : decode cX12_round 96 = .ok (.iload_n 3, 1) := by decide +kernel
theorem dX12_round_97 : decode cX12_round 97 = .ok (.iaload, 1) := by decide +kernel
theorem dX12_round_98 : decode cX12_round 98 = .ok (.isub, 1) := by decide +kernel
theorem dX12_round_99 : decode cX12_round 99 = .ok (.istore 5, 2) := by decide +kernel
theorem dX12_round_101 : decode cX12_round 101 = .ok (.iconst 0, 1) := by decide +kernel
theorem dX12_round_102 : decode cX12_round 102 = .ok (.istore 6, 2) := by decide +kernel
theorem dX12_round_104 : decode cX12_round 104 = .ok (.iload_n 3, 1) := by decide +kernel
theorem dX12_round_105 : decode cX12_round 105 = .ok (.istore 7, 2) := by decide +kernel
theorem dX12_round_107 : decode cX12_round 107 = .ok (.iconst 0, 1) := by decide +kernel
theorem dX12_round_108 : decode cX12_round 108 = .ok (.istore 8, 2) := by decide +kernel
theorem dX12_round_110 : decode cX12_round 110 = .ok (.iload 8, 2) := by decide +kernel
theorem dX12_round_112 : decode cX12_round 112 = .ok (.iload 5, 2) := by decide +kernel
theorem dX12_round_114 : decode cX12_round 114 = .ok (.if_icmp .ge 26, 3) := by decide +kernel
theorem dX12_round_117 : decode cX12_round 117 = .ok (.aload_n 0, 1) := by decide +kernel
theorem dX12_round_118 : decode cX12_round 118 = .ok (.iload 7, 2) := by decide +kernel
theorem dX12_round_120 : decode cX12_round 120 = .ok (.invokevirtual 229, 3) := by decide +kernel
theorem dX12_round_123 : decode cX12_round 123 = .ok (.istore 7, 2) := by decide +kernel
theorem dX12_round_125 : decode cX12_round 125 = .ok (.iload 6, 2) := by decide +kernel
theorem dX12_round_127 : decode cX12_round 127 = .ok (.aload_n 0, 1) := by decide +kernel
theorem dX12_round_128 : decode cX12_round 128 = .ok (.getfield 224, 3) := by decide +kernel
theorem dX12_round_131 : decode cX12_round 131 = .ok (.iadd, 1) := by decide +kernel
theorem dX12_round_132 : decode cX12_round 132 = .ok (.istore 6, 2) := by decide +kernel
theorem dX12_round_134 : decode cX12_round 134 = .ok (.iinc 8 1, 3) := by decide +kernel
theorem dX12_round_137 : decode cX12_round 137 = .ok (.goto (-27), 3) := by decide +kernel
theorem dX12_round_140 : decode cX12_round 140 = .ok (.iload_n 2, 1) := by decide +kernel
theorem dX12_round_141 : decode cX12_round 141 = .ok (.ifCond .ne 8, 3) := by decide +kernel
theorem dX12_round_144 : decode cX12_round 144 = .ok (.iload 5, 2) := by decide +kernel
theorem dX12_round_146 : decode cX12_round 146 = .ok (.goto 19, 3) := by decide +kernel
theorem dX12_round_149 : decode cX12_round 149 = .ok (.iload_n 2, 1) := by decide +kernel
theorem dX12_round_150 : decode cX12_round 150 = .ok (.iconst 1, 1) := by decide +kernel
theorem dX12_round_151 : decode cX12_round 151 = .ok (.if_icmp .ne 12, 3) := by decide +kernel
theorem dX12_round_154 : decode cX12_round 154 = .ok (.aload_n 0, 1) := by decide +kernel
theorem dX12_round_155 : decode cX12_round 155 = .ok (.getfield 41, 3) := by decide +kernel
theorem dX12_round_158 : decode cX12_round 158 = .ok (.iload_n 3, 1) := by decide +kernel
theorem dX12_round_159 : decode cX12_round 159 = .ok (.iaload, 1) := by decide +kernel
theorem dX12_round_160 : decode cX12_round 160 = .ok (.goto 5, 3) := by decide +kernel
theorem dX12_round_163 : decode cX12_round 163 = .ok (.iload 6, 2) := by decide +kernel
theorem dX12_round_165 : decode cX12_round 165 = .ok (.ireturn, 1) := by decide +kernel
theorem dX12_draw_0 : decode cX12_draw 0 = .ok (.aload_n 0, 1) := by decide +kernel
theorem dX12_draw_1 : decode cX12_draw 1 = .ok (.aload_n 0, 1) := by decide +kernel
theorem dX12_draw_2 : decode cX12_draw 2 = .ok (.getfield 232, 3) := by decide +kernel
theorem dX12_draw_5 : decode cX12_draw 5 = .ok (.ldc 235, 2) := by decide +kernel
theorem dX12_draw_7 : decode cX12_draw 7 = .ok (.imul, 1) := by decide +kernel
theorem dX12_draw_8 : decode cX12_draw 8 = .ok (.sipush 12345, 3) := by decide +kernel
theorem dX12_draw_11 : decode cX12_draw 11 = .ok (.iadd, 1) := by decide +kernel
theorem dX12_draw_12 : decode cX12_draw 12 = .ok (.putfield 232, 3) := by decide +kernel
theorem dX12_draw_15 : decode cX12_draw 15 = .ok (.aload_n 0, 1) := by decide +kernel
theorem dX12_draw_16 : decode cX12_draw 16 = .ok (.getfield 232, 3) := by decide +kernel
theorem dX12_draw_19 : decode cX12_draw 19 = .ok (.bipush 16, 2) := by decide +kernel
theorem dX12_draw_21 : decode cX12_draw 21 = .ok (.ishr, 1) := by decide +kernel
theorem dX12_draw_22 : decode cX12_draw 22 = .ok (.sipush 32767, 3) := by decide +kernel
theorem dX12_draw_25 : decode cX12_draw 25 = .ok (.iand, 1) := by decide +kernel
theorem dX12_draw_26 : decode cX12_draw 26 = .ok (.aload_n 0, 1) := by decide +kernel
theorem dX12_draw_27 : decode cX12_draw 27 = .ok (.invokevirtual 139, 3) := by decide +kernel
theorem dX12_draw_30 : decode cX12_draw 30 = .ok (.irem, 1) := by decide +kernel
theorem dX12_draw_31 : decode cX12_draw 31 = .ok (.ireturn, 1) := by decide +kernel
theorem dX12_hopAt_0 : decode cX12_hopAt 0 = .ok (.aload_n 0, 1) := by decide +kernel
theorem dX12_hopAt_1 : decode cX12_hopAt 1 = .ok (.iload_n 1, 1) := by decide +kernel
theorem dX12_hopAt_2 : decode cX12_hopAt 2 = .ok (.iload_n 2, 1) := by decide +kernel
theorem dX12_hopAt_3 : decode cX12_hopAt 3 = .ok (.iload_n 2, 1) := by decide +kernel
theorem dX12_hopAt_4 : decode cX12_hopAt 4 = .ok (.iconst 1, 1) := by decide +kernel
theorem dX12_hopAt_5 : decode cX12_hopAt 5 = .ok (.iadd, 1) := by decide +kernel
theorem dX12_hopAt_6 : decode cX12_hopAt 6 = .ok (.aload_n 0, 1) := by decide +kernel
theorem dX12_hopAt_7 : decode cX12_hopAt 7 = .ok (.invokevirtual 139, 3) := by decide +kernel
theorem dX12_hopAt_10 : decode cX12_hopAt 10 = .ok (.if_icmp .ge 9, 3) := by decide +kernel
theorem dX12_hopAt_13 : decode cX12_hopAt 13 = .ok (.iload_n 2, 1) := by decide +kernel
theorem dX12_hopAt_14 : decode cX12_hopAt 14 = .ok (.iconst 1, 1) := by decide +kernel
theorem dX12_hopAt_15 : decode cX12_hopAt 15 = .ok (.iadd, 1) := by decide +kernel
theorem dX12_hopAt_16 : decode cX12_hopAt 16 = .ok (.goto 4, 3) := by decide +kernel
theorem dX12_hopAt_19 : decode cX12_hopAt 19 = .ok (.iconst 0, 1) := by decide +kernel
theorem dX12_hopAt_20 : decode cX12_hopAt 20 = .ok (.invokevirtual 146, 3) := by decide +kernel
theorem dX12_hopAt_23 : decode cX12_hopAt 23 = .ok (.ireturn, 1) := by decide +kernel
theorem dX12_run_0 : decode cX12_run 0 = .ok (.aload_n 0, 1) := by decide +kernel
theorem dX12_run_1 : decode cX12_run 1 = .ok (.iload_n 1, 1) := by decide +kernel
theorem dX12_run_2 : decode cX12_run 2 = .ok (.invokevirtual 150, 3) := by decide +kernel
theorem dX12_run_5 : decode cX12_run 5 = .ok (.ifCond .eq 26, 3) := by decide +kernel
theorem dX12_run_8 : decode cX12_run 8 = .ok (.iload_n 3, 1) := by decide +kernel
theorem dX12_run_9 : decode cX12_run 9 = .ok (.i2l, 1) := by decide +kernel
theorem dX12_run_10 : decode cX12_run 10 = .ok (.lconst 0, 1) := by decide +kernel
theorem dX12_run_11 : decode cX12_run 11 = .ok (.ldc2_w 236, 3) := by decide +kernel
theorem dX12_run_14 : decode cX12_run 14 = .ok (.invokestatic 72, 3) := by decide +kernel
theorem dX12_run_17 : decode cX12_run 17 = .ok (.ifCond .eq 14, 3) := by decide +kernel
theorem dX12_run_20 : decode cX12_run 20 = .ok (.iload 4, 2) := by decide +kernel
theorem dX12_run_22 : decode cX12_run 22 = .ok (.i2l, 1) := by decide +kernel
theorem dX12_run_23 : decode cX12_run 23 = .ok (.lconst 0, 1) := by decide +kernel
theorem dX12_run_24 : decode cX12_run 24 = .ok (.lconst 1, 1) := by decide +kernel
theorem dX12_run_25 : decode cX12_run 25 = .ok (.invokestatic 72, 3) := by decide +kernel
theorem dX12_run_28 : decode cX12_run 28 = .ok (.ifCond .ne 5, 3) := by decide +kernel
theorem dX12_run_31 : decode cX12_run 31 = .ok (.iconst (-1), 1) := by decide +kernel
theorem dX12_run_32 : decode cX12_run 32 = .ok (.ireturn, 1) := by decide +kernel
theorem dX12_run_33 : decode cX12_run 33 = .ok (.aload_n 0, 1) := by decide +kernel
theorem dX12_run_34 : decode cX12_run 34 = .ok (.invokevirtual 142, 3) := by decide +kernel
theorem dX12_run_37 : decode cX12_run 37 = .ok (.ifCond .eq 6, 3) := by decide +kernel
theorem dX12_run_40 : decode cX12_run 40 = .ok (.bipush (-2), 2) := by decide +kernel
theorem dX12_run_42 : decode cX12_run 42 = .ok (.ireturn, 1) := by decide +kernel
theorem dX12_run_43 : decode cX12_run 43 = .ok (.aload_n 0, 1) := by decide +kernel
theorem dX12_run_44 : decode cX12_run 44 = .ok (.iload_n 2, 1) := by decide +kernel
theorem dX12_run_45 : decode cX12_run 45 = .ok (.putfield 232, 3) := by decide +kernel
theorem dX12_run_48 : decode cX12_run 48 = .ok (.iload_n 1, 1) := by decide +kernel
theorem dX12_run_49 : decode cX12_run 49 = .ok (.istore 5, 2) := by decide +kernel
theorem dX12_run_51 : decode cX12_run 51 = .ok (.iconst 0, 1) := by decide +kernel
theorem dX12_run_52 : decode cX12_run 52 = .ok (.istore 6, 2) := by decide +kernel
theorem dX12_run_54 : decode cX12_run 54 = .ok (.iconst 0, 1) := by decide +kernel
theorem dX12_run_55 : decode cX12_run 55 = .ok (.istore 7, 2) := by decide +kernel
theorem dX12_run_57 : decode cX12_run 57 = .ok (.iload 7, 2) := by decide +kernel
theorem dX12_run_59 : decode cX12_run 59 = .ok (.iload_n 3, 1) := by decide +kernel
theorem dX12_run_60 : decode cX12_run 60 = .ok (.if_icmp .ge 42, 3) := by decide +kernel
theorem dX12_run_63 : decode cX12_run 63 = .ok (.aload_n 0, 1) := by decide +kernel
theorem dX12_run_64 : decode cX12_run 64 = .ok (.iload 5, 2) := by decide +kernel
theorem dX12_run_66 : decode cX12_run 66 = .ok (.aload_n 0, 1) := by decide +kernel
theorem dX12_run_67 : decode cX12_run 67 = .ok (.invokevirtual 238, 3) := by decide +kernel
theorem dX12_run_70 : decode cX12_run 70 = .ok (.invokevirtual 241, 3) := by decide +kernel
theorem dX12_run_73 : decode cX12_run 73 = .ok (.istore 8, 2) := by decide +kernel
theorem dX12_run_75 : decode cX12_run 75 = .ok (.iload 6, 2) := by decide +kernel
theorem dX12_run_77 : decode cX12_run 77 = .ok (.iload 8, 2) := by decide +kernel
theorem dX12_run_79 : decode cX12_run 79 = .ok (.iload 5, 2) := by decide +kernel
theorem dX12_run_81 : decode cX12_run 81 = .ok (.if_icmp .eq 7, 3) := by decide +kernel
theorem dX12_run_84 : decode cX12_run 84 = .ok (.iconst 1, 1) := by decide +kernel
theorem dX12_run_85 : decode cX12_run 85 = .ok (.goto 4, 3) := by decide +kernel
theorem dX12_run_88 : decode cX12_run 88 = .ok (.iconst 0, 1) := by decide +kernel
theorem dX12_run_89 : decode cX12_run 89 = .ok (.iadd, 1) := by decide +kernel
end
section
theorem dX12_run_90 : decode cX12_run 90 = .ok (.istore 6, 2) := by decide +kernel
theorem dX12_run_92 : decode cX12_run 92 = .ok (.iload 8, 2) := by decide +kernel
theorem dX12_run_94 : decode cX12_run 94 = .ok (.istore 5, 2) := by decide +kernel
theorem dX12_run_96 : decode cX12_run 96 = .ok (.iinc 7 1, 3) := by decide +kernel
theorem dX12_run_99 : decode cX12_run 99 = .ok (.goto (-42), 3) := by decide +kernel
theorem dX12_run_102 : decode cX12_run 102 = .ok (.iload 4, 2) := by decide +kernel
theorem dX12_run_104 : decode cX12_run 104 = .ok (.ifCond .ne 8, 3) := by decide +kernel
theorem dX12_run_107 : decode cX12_run 107 = .ok (.iload 5, 2) := by decide +kernel
theorem dX12_run_109 : decode cX12_run 109 = .ok (.goto 5, 3) := by decide +kernel
theorem dX12_run_112 : decode cX12_run 112 = .ok (.iload 6, 2) := by decide +kernel
theorem dX12_run_114 : decode cX12_run 114 = .ok (.ireturn, 1) := by decide +kernel
theorem dX12_coupled_0 : decode cX12_coupled 0 = .ok (.aload_n 0, 1) := by decide +kernel
theorem dX12_coupled_1 : decode cX12_coupled 1 = .ok (.iload_n 1, 1) := by decide +kernel
theorem dX12_coupled_2 : decode cX12_coupled 2 = .ok (.invokevirtual 150, 3) := by decide +kernel
theorem dX12_coupled_5 : decode cX12_coupled 5 = .ok (.ifCond .eq 37, 3) := by decide +kernel
theorem dX12_coupled_8 : decode cX12_coupled 8 = .ok (.aload_n 0, 1) := by decide +kernel
theorem dX12_coupled_9 : decode cX12_coupled 9 = .ok (.iload_n 2, 1) := by decide +kernel
theorem dX12_coupled_10 : decode cX12_coupled 10 = .ok (.invokevirtual 150, 3) := by decide +kernel
theorem dX12_coupled_13 : decode cX12_coupled 13 = .ok (.ifCond .eq 29, 3) := by decide +kernel
theorem dX12_coupled_16 : decode cX12_coupled 16 = .ok (.iload 4, 2) := by decide +kernel
theorem dX12_coupled_18 : decode cX12_coupled 18 = .ok (.i2l, 1) := by decide +kernel
theorem dX12_coupled_19 : decode cX12_coupled 19 = .ok (.lconst 0, 1) := by decide +kernel
theorem dX12_coupled_20 : decode cX12_coupled 20 = .ok (.ldc2_w 236, 3) := by decide +kernel
theorem dX12_coupled_23 : decode cX12_coupled 23 = .ok (.invokestatic 72, 3) := by decide +kernel
theorem dX12_coupled_26 : decode cX12_coupled 26 = .ok (.ifCond .eq 16, 3) := by decide +kernel
theorem dX12_coupled_29 : decode cX12_coupled 29 = .ok (.iload 5, 2) := by decide +kernel
theorem dX12_coupled_31 : decode cX12_coupled 31 = .ok (.i2l, 1) := by decide +kernel
theorem dX12_coupled_32 : decode cX12_coupled 32 = .ok (.lconst 0, 1) := by decide +kernel
theorem dX12_coupled_33 : decode cX12_coupled 33 = .ok (.ldc2_w 176, 3) := by decide +kernel
theorem dX12_coupled_36 : decode cX12_coupled 36 = .ok (.invokestatic 72, 3) := by decide +kernel
theorem dX12_coupled_39 : decode cX12_coupled 39 = .ok (.ifCond .ne 5, 3) := by decide +kernel
theorem dX12_coupled_42 : decode cX12_coupled 42 = .ok (.iconst (-1), 1) := by decide +kernel
theorem dX12_coupled_43 : decode cX12_coupled 43 = .ok (.ireturn, 1) := by decide +kernel
theorem dX12_coupled_44 : decode cX12_coupled 44 = .ok (.aload_n 0, 1) := by decide +kernel
theorem dX12_coupled_45 : decode cX12_coupled 45 = .ok (.invokevirtual 142, 3) := by decide +kernel
theorem dX12_coupled_48 : decode cX12_coupled 48 = .ok (.ifCond .eq 6, 3) := by decide +kernel
theorem dX12_coupled_51 : decode cX12_coupled 51 = .ok (.bipush (-2), 2) := by decide +kernel
theorem dX12_coupled_53 : decode cX12_coupled 53 = .ok (.ireturn, 1) := by decide +kernel
theorem dX12_coupled_54 : decode cX12_coupled 54 = .ok (.aload_n 0, 1) := by decide +kernel
theorem dX12_coupled_55 : decode cX12_coupled 55 = .ok (.iload_n 3, 1) := by decide +kernel
theorem dX12_coupled_56 : decode cX12_coupled 56 = .ok (.putfield 232, 3) := by decide +kernel
theorem dX12_coupled_59 : decode cX12_coupled 59 = .ok (.iload_n 1, 1) := by decide +kernel
theorem dX12_coupled_60 : decode cX12_coupled 60 = .ok (.istore 6, 2) := by decide +kernel
theorem dX12_coupled_62 : decode cX12_coupled 62 = .ok (.iload_n 2, 1) := by decide +kernel
theorem dX12_coupled_63 : decode cX12_coupled 63 = .ok (.istore 7, 2) := by decide +kernel
theorem dX12_coupled_65 : decode cX12_coupled 65 = .ok (.iload 6, 2) := by decide +kernel
theorem dX12_coupled_67 : decode cX12_coupled 67 = .ok (.iload 7, 2) := by decide +kernel
theorem dX12_coupled_69 : decode cX12_coupled 69 = .ok (.ixor, 1) := by decide +kernel
theorem dX12_coupled_70 : decode cX12_coupled 70 = .ok (.i2l, 1) := by decide +kernel
theorem dX12_coupled_71 : decode cX12_coupled 71 = .ok (.invokestatic 166, 3) := by decide +kernel
theorem dX12_coupled_74 : decode cX12_coupled 74 = .ok (.istore 8, 2) := by decide +kernel
theorem dX12_coupled_76 : decode cX12_coupled 76 = .ok (.iload 6, 2) := by decide +kernel
theorem dX12_coupled_78 : decode cX12_coupled 78 = .ok (.iload 7, 2) := by decide +kernel
theorem dX12_coupled_80 : decode cX12_coupled 80 = .ok (.if_icmp .ne 7, 3) := by decide +kernel
theorem dX12_coupled_83 : decode cX12_coupled 83 = .ok (.iconst 0, 1) := by decide +kernel
theorem dX12_coupled_84 : decode cX12_coupled 84 = .ok (.goto 5, 3) := by decide +kernel
theorem dX12_coupled_87 : decode cX12_coupled 87 = .ok (.bipush (-4), 2) := by decide +kernel
theorem dX12_coupled_89 : decode cX12_coupled 89 = .ok (.istore 9, 2) := by decide +kernel
theorem dX12_coupled_91 : decode cX12_coupled 91 = .ok (.iconst 1, 1) := by decide +kernel
theorem dX12_coupled_92 : decode cX12_coupled 92 = .ok (.istore 10, 2) := by decide +kernel
theorem dX12_coupled_94 : decode cX12_coupled 94 = .ok (.iload 10, 2) := by decide +kernel
theorem dX12_coupled_96 : decode cX12_coupled 96 = .ok (.iload 4, 2) := by decide +kernel
theorem dX12_coupled_98 : decode cX12_coupled 98 = .ok (.if_icmp .gt 90, 3) := by decide +kernel
theorem dX12_coupled_101 : decode cX12_coupled 101 = .ok (.aload_n 0, 1) := by decide +kernel
theorem dX12_coupled_102 : decode cX12_coupled 102 = .ok (.invokevirtual 238, 3) := by decide +kernel
theorem dX12_coupled_105 : decode cX12_coupled 105 = .ok (.istore 11, 2) := by decide +kernel
theorem dX12_coupled_107 : decode cX12_coupled 107 = .ok (.aload_n 0, 1) := by decide +kernel
theorem dX12_coupled_108 : decode cX12_coupled 108 = .ok (.iload 6, 2) := by decide +kernel
theorem dX12_coupled_110 : decode cX12_coupled 110 = .ok (.iload 11, 2) := by decide +kernel
theorem dX12_coupled_112 : decode cX12_coupled 112 = .ok (.invokevirtual 241, 3) := by decide +kernel
theorem dX12_coupled_115 : decode cX12_coupled 115 = .ok (.istore 6, 2) := by decide +kernel
theorem dX12_coupled_117 : decode cX12_coupled 117 = .ok (.aload_n 0, 1) := by decide +kernel
theorem dX12_coupled_118 : decode cX12_coupled 118 = .ok (.iload 7, 2) := by decide +kernel
theorem dX12_coupled_120 : decode cX12_coupled 120 = .ok (.iload 11, 2) := by decide +kernel
theorem dX12_coupled_122 : decode cX12_coupled 122 = .ok (.invokevirtual 241, 3) := by decide +kernel
theorem dX12_coupled_125 : decode cX12_coupled 125 = .ok (.istore 7, 2) := by decide +kernel
theorem dX12_coupled_127 : decode cX12_coupled 127 = .ok (.iload 6, 2) := by decide +kernel
theorem dX12_coupled_129 : decode cX12_coupled 129 = .ok (.iload 7, 2) := by decide +kernel
theorem dX12_coupled_131 : decode cX12_coupled 131 = .ok (.ixor, 1) := by decide +kernel
theorem dX12_coupled_132 : decode cX12_coupled 132 = .ok (.i2l, 1) := by decide +kernel
theorem dX12_coupled_133 : decode cX12_coupled 133 = .ok (.invokestatic 166, 3) := by decide +kernel
theorem dX12_coupled_136 : decode cX12_coupled 136 = .ok (.istore 12, 2) := by decide +kernel
theorem dX12_coupled_138 : decode cX12_coupled 138 = .ok (.iload 12, 2) := by decide +kernel
theorem dX12_coupled_140 : decode cX12_coupled 140 = .ok (.iload 8, 2) := by decide +kernel
theorem dX12_coupled_142 : decode cX12_coupled 142 = .ok (.if_icmp .le 8, 3) := by decide +kernel
theorem dX12_coupled_145 : decode cX12_coupled 145 = .ok (.iload 12, 2) := by decide +kernel
theorem dX12_coupled_147 : decode cX12_coupled 147 = .ok (.goto 5, 3) := by decide +kernel
theorem dX12_coupled_150 : decode cX12_coupled 150 = .ok (.iload 8, 2) := by decide +kernel
theorem dX12_coupled_152 : decode cX12_coupled 152 = .ok (.istore 8, 2) := by decide +kernel
theorem dX12_coupled_154 : decode cX12_coupled 154 = .ok (.iload 6, 2) := by decide +kernel
theorem dX12_coupled_156 : decode cX12_coupled 156 = .ok (.iload 7, 2) := by decide +kernel
theorem dX12_coupled_158 : decode cX12_coupled 158 = .ok (.if_icmp .eq 8, 3) := by decide +kernel
theorem dX12_coupled_161 : decode cX12_coupled 161 = .ok (.bipush (-4), 2) := by decide +kernel
theorem dX12_coupled_163 : decode cX12_coupled 163 = .ok (.goto 17, 3) := by decide +kernel
theorem dX12_coupled_166 : decode cX12_coupled 166 = .ok (.iload 9, 2) := by decide +kernel
theorem dX12_coupled_168 : decode cX12_coupled 168 = .ok (.bipush (-4), 2) := by decide +kernel
theorem dX12_coupled_170 : decode cX12_coupled 170 = .ok (.if_icmp .ne 8, 3) := by decide +kernel
theorem dX12_coupled_173 : decode cX12_coupled 173 = .ok (.iload 10, 2) := by decide +kernel
theorem dX12_coupled_175 : decode cX12_coupled 175 = .ok (.goto 5, 3) := by decide +kernel
theorem dX12_coupled_178 : decode cX12_coupled 178 = .ok (.iload 9, 2) := by decide +kernel
theorem dX12_coupled_180 : decode cX12_coupled 180 = .ok (.istore 9, 2) := by decide +kernel
theorem dX12_coupled_182 : decode cX12_coupled 182 = .ok (.iinc 10 1, 3) := by decide +kernel
theorem dX12_coupled_185 : decode cX12_coupled 185 = .ok (.goto (-91), 3) := by decide +kernel
theorem dX12_coupled_188 : decode cX12_coupled 188 = .ok (.iload 5, 2) := by decide +kernel
theorem dX12_coupled_190 : decode cX12_coupled 190 = .ok (.ifCond .ne 15, 3) := by decide +kernel
theorem dX12_coupled_193 : decode cX12_coupled 193 = .ok (.iload 6, 2) := by decide +kernel
theorem dX12_coupled_195 : decode cX12_coupled 195 = .ok (.iload 7, 2) := by decide +kernel
theorem dX12_coupled_197 : decode cX12_coupled 197 = .ok (.ixor, 1) := by decide +kernel
theorem dX12_coupled_198 : decode cX12_coupled 198 = .ok (.i2l, 1) := by decide +kernel
theorem dX12_coupled_199 : decode cX12_coupled 199 = .ok (.invokestatic 166, 3) := by decide +kernel
theorem dX12_coupled_202 : decode cX12_coupled 202 = .ok (.goto 16, 3) := by decide +kernel
theorem dX12_coupled_205 : decode cX12_coupled 205 = .ok (.iload 5, 2) := by decide +kernel
theorem dX12_coupled_207 : decode cX12_coupled 207 = .ok (.iconst 1, 1) := by decide +kernel
theorem dX12_coupled_208 : decode cX12_coupled 208 = .ok (.if_icmp .ne 8, 3) := by decide +kernel
theorem dX12_coupled_211 : decode cX12_coupled 211 = .ok (.iload 9, 2) := by decide +kernel
theorem dX12_coupled_213 : decode cX12_coupled 213 = .ok (.goto 5, 3) := by decide +kernel
theorem dX12_coupled_216 : decode cX12_coupled 216 = .ok (.iload 8, 2) := by decide +kernel
theorem dX12_coupled_218 : decode cX12_coupled 218 = .ok (.ireturn, 1) := by decide +kernel
theorem dX12_isRim_0 : decode cX12_isRim 0 = .ok (.iload_n 0, 1) := by decide +kernel
theorem dX12_isRim_1 : decode cX12_isRim 1 = .ok (.i2l, 1) := by decide +kernel
theorem dX12_isRim_2 : decode cX12_isRim 2 = .ok (.lconst 0, 1) := by decide +kernel
theorem dX12_isRim_3 : decode cX12_isRim 3 = .ok (.ldc2_w 244, 3) := by decide +kernel
theorem dX12_isRim_6 : decode cX12_isRim 6 = .ok (.invokestatic 72, 3) := by decide +kernel
theorem dX12_isRim_9 : decode cX12_isRim 9 = .ok (.ireturn, 1) := by decide +kernel
theorem dX12_ordersOf_0 : decode cX12_ordersOf 0 = .ok (.iconst 0, 1) := by decide +kernel
theorem dX12_ordersOf_1 : decode cX12_ordersOf 1 = .ok (.istore_n 3, 1) := by decide +kernel
theorem dX12_ordersOf_2 : decode cX12_ordersOf 2 = .ok (.iload_n 3, 1) := by decide +kernel
theorem dX12_ordersOf_3 : decode cX12_ordersOf 3 = .ok (.sipush 256, 3) := by decide +kernel
theorem dX12_ordersOf_6 : decode cX12_ordersOf 6 = .ok (.if_icmp .ge 25, 3) := by decide +kernel
theorem dX12_ordersOf_9 : decode cX12_ordersOf 9 = .ok (.aload_n 0, 1) := by decide +kernel
theorem dX12_ordersOf_10 : decode cX12_ordersOf 10 = .ok (.getfield 44, 3) := by decide +kernel
theorem dX12_ordersOf_13 : decode cX12_ordersOf 13 = .ok (.iload_n 3, 1) := by decide +kernel
theorem dX12_ordersOf_14 : decode cX12_ordersOf 14 = .ok (.iload_n 3, 1) := by decide +kernel
theorem dX12_ordersOf_15 : decode cX12_ordersOf 15 = .ok (.iload_n 1, 1) := by decide +kernel
theorem dX12_ordersOf_16 : decode cX12_ordersOf 16 = .ok (.if_icmp .ne 7, 3) := by decide +kernel
theorem dX12_ordersOf_19 : decode cX12_ordersOf 19 = .ok (.lconst 1, 1) := by decide +kernel
theorem dX12_ordersOf_20 : decode cX12_ordersOf 20 = .ok (.goto 4, 3) := by decide +kernel
theorem dX12_ordersOf_23 : decode cX12_ordersOf 23 = .ok (.lconst 0, 1) := by decide +kernel
theorem dX12_ordersOf_24 : decode cX12_ordersOf 24 = .ok (.lastore, 1) := by decide +kernel
theorem dX12_ordersOf_25 : decode cX12_ordersOf 25 = .ok (.iinc 3 1, 3) := by decide +kernel
theorem dX12_ordersOf_28 : decode cX12_ordersOf 28 = .ok (.goto (-26), 3) := by decide +kernel
theorem dX12_ordersOf_31 : decode cX12_ordersOf 31 = .ok (.iconst 0, 1) := by decide +kernel
theorem dX12_ordersOf_32 : decode cX12_ordersOf 32 = .ok (.istore_n 3, 1) := by decide +kernel
theorem dX12_ordersOf_33 : decode cX12_ordersOf 33 = .ok (.iload_n 3, 1) := by decide +kernel
theorem dX12_ordersOf_34 : decode cX12_ordersOf 34 = .ok (.sipush 256, 3) := by decide +kernel
theorem dX12_ordersOf_37 : decode cX12_ordersOf 37 = .ok (.if_icmp .ge 60, 3) := by decide +kernel
theorem dX12_ordersOf_40 : decode cX12_ordersOf 40 = .ok (.iconst 0, 1) := by decide +kernel
theorem dX12_ordersOf_41 : decode cX12_ordersOf 41 = .ok (.istore 4, 2) := by decide +kernel
theorem dX12_ordersOf_43 : decode cX12_ordersOf 43 = .ok (.iload 4, 2) := by decide +kernel
theorem dX12_ordersOf_45 : decode cX12_ordersOf 45 = .ok (.bipush 7, 2) := by decide +kernel
theorem dX12_ordersOf_47 : decode cX12_ordersOf 47 = .ok (.if_icmp .ge 44, 3) := by decide +kernel
theorem dX12_ordersOf_50 : decode cX12_ordersOf 50 = .ok (.aload_n 0, 1) := by decide +kernel
theorem dX12_ordersOf_51 : decode cX12_ordersOf 51 = .ok (.iload_n 3, 1) := by decide +kernel
theorem dX12_ordersOf_52 : decode cX12_ordersOf 52 = .ok (.iload 4, 2) := by decide +kernel
theorem dX12_ordersOf_54 : decode cX12_ordersOf 54 = .ok (.iload 4, 2) := by decide +kernel
theorem dX12_ordersOf_56 : decode cX12_ordersOf 56 = .ok (.iconst 1, 1) := by decide +kernel
theorem dX12_ordersOf_57 : decode cX12_ordersOf 57 = .ok (.iadd, 1) := by decide +kernel
theorem dX12_ordersOf_58 : decode cX12_ordersOf 58 = .ok (.invokevirtual 146, 3) := by decide +kernel
theorem dX12_ordersOf_61 : decode cX12_ordersOf 61 = .ok (.istore 5, 2) := by decide +kernel
theorem dX12_ordersOf_63 : decode cX12_ordersOf 63 = .ok (.iload 5, 2) := by decide +kernel
theorem dX12_ordersOf_65 : decode cX12_ordersOf 65 = .ok (.iload_n 3, 1) := by decide +kernel
theorem dX12_ordersOf_66 : decode cX12_ordersOf 66 = .ok (.if_icmp .eq 19, 3) := by decide +kernel
theorem dX12_ordersOf_69 : decode cX12_ordersOf 69 = .ok (.aload_n 0, 1) := by decide +kernel
theorem dX12_ordersOf_70 : decode cX12_ordersOf 70 = .ok (.getfield 44, 3) := by decide +kernel
theorem dX12_ordersOf_73 : decode cX12_ordersOf 73 = .ok (.iload 5, 2) := by decide +kernel
theorem dX12_ordersOf_75 : decode cX12_ordersOf 75 = .ok (.dup2, 1) := by decide +kernel
theorem dX12_ordersOf_76 : decode cX12_ordersOf 76 = .ok (.laload, 1) := by decide +kernel
theorem dX12_ordersOf_77 : decode cX12_ordersOf 77 = .ok (.aload_n 0, 1) := by decide +kernel
theorem dX12_ordersOf_78 : decode cX12_ordersOf 78 = .ok (.getfield 44, 3) := by decide +kernel
theorem dX12_ordersOf_81 : decode cX12_ordersOf 81 = .ok (.iload_n 3, 1) := by decide +kernel
theorem dX12_ordersOf_82 : decode cX12_ordersOf 82 = .ok (.laload, 1) := by decide +kernel
theorem dX12_ordersOf_83 : decode cX12_ordersOf 83 = .ok (.ladd, 1) := by decide +kernel
theorem dX12_ordersOf_84 : decode cX12_ordersOf 84 = .ok (.lastore, 1) := by decide +kernel
theorem dX12_ordersOf_85 : decode cX12_ordersOf 85 = .ok (.iinc 4 1, 3) := by decide +kernel
theorem dX12_ordersOf_88 : decode cX12_ordersOf 88 = .ok (.goto (-45), 3) := by decide +kernel
theorem dX12_ordersOf_91 : decode cX12_ordersOf 91 = .ok (.iinc 3 1, 3) := by decide +kernel
theorem dX12_ordersOf_94 : decode cX12_ordersOf 94 = .ok (.goto (-61), 3) := by decide +kernel
theorem dX12_ordersOf_97 : decode cX12_ordersOf 97 = .ok (.aload_n 0, 1) := by decide +kernel
theorem dX12_ordersOf_98 : decode cX12_ordersOf 98 = .ok (.getfield 44, 3) := by decide +kernel
theorem dX12_ordersOf_101 : decode cX12_ordersOf 101 = .ok (.iload_n 2, 1) := by decide +kernel
theorem dX12_ordersOf_102 : decode cX12_ordersOf 102 = .ok (.laload, 1) := by decide +kernel
theorem dX12_ordersOf_103 : decode cX12_ordersOf 103 = .ok (.lreturn, 1) := by decide +kernel
theorem dX12_weightSum_0 : decode cX12_weightSum 0 = .ok (.iconst 0, 1) := by decide +kernel
theorem dX12_weightSum_1 : decode cX12_weightSum 1 = .ok (.istore_n 1, 1) := by decide +kernel
theorem dX12_weightSum_2 : decode cX12_weightSum 2 = .ok (.iconst 0, 1) := by decide +kernel
theorem dX12_weightSum_3 : decode cX12_weightSum 3 = .ok (.istore_n 2, 1) := by decide +kernel
theorem dX12_weightSum_4 : decode cX12_weightSum 4 = .ok (.iload_n 2, 1) := by decide +kernel
theorem dX12_weightSum_5 : decode cX12_weightSum 5 = .ok (.bipush 8, 2) := by decide +kernel
theorem dX12_weightSum_7 : decode cX12_weightSum 7 = .ok (.if_icmp .ge 26, 3) := by decide +kernel
theorem dX12_weightSum_10 : decode cX12_weightSum 10 = .ok (.iload_n 1, 1) := by decide +kernel
theorem dX12_weightSum_11 : decode cX12_weightSum 11 = .ok (.iload_n 0, 1) := by decide +kernel
theorem dX12_weightSum_12 : decode cX12_weightSum 12 = .ok (.iload_n 2, 1) := by decide +kernel
theorem dX12_weightSum_13 : decode cX12_weightSum 13 = .ok (.ishr, 1) := by decide +kernel
theorem dX12_weightSum_14 : decode cX12_weightSum 14 = .ok (.iconst 1, 1) := by decide +kernel
theorem dX12_weightSum_15 : decode cX12_weightSum 15 = .ok (.iand, 1) := by decide +kernel
theorem dX12_weightSum_16 : decode cX12_weightSum 16 = .ok (.iconst 1, 1) := by decide +kernel
theorem dX12_weightSum_17 : decode cX12_weightSum 17 = .ok (.if_icmp .ne 7, 3) := by decide +kernel
theorem dX12_weightSum_20 : decode cX12_weightSum 20 = .ok (.iload_n 2, 1) := by decide +kernel
theorem dX12_weightSum_21 : decode cX12_weightSum 21 = .ok (.goto 4, 3) := by decide +kernel
theorem dX12_weightSum_24 : decode cX12_weightSum 24 = .ok (.iconst 0, 1) := by decide +kernel
theorem dX12_weightSum_25 : decode cX12_weightSum 25 = .ok (.iadd, 1) := by decide +kernel
theorem dX12_weightSum_26 : decode cX12_weightSum 26 = .ok (.istore_n 1, 1) := by decide +kernel
theorem dX12_weightSum_27 : decode cX12_weightSum 27 = .ok (.iinc 2 1, 3) := by decide +kernel
theorem dX12_weightSum_30 : decode cX12_weightSum 30 = .ok (.goto (-26), 3) := by decide +kernel
theorem dX12_weightSum_33 : decode cX12_weightSum 33 = .ok (.iload_n 1, 1) := by decide +kernel
theorem dX12_weightSum_34 : decode cX12_weightSum 34 = .ok (.ireturn, 1) := by decide +kernel
theorem dX12_cells_0 : decode cX12_cells 0 = .ok (.iload_n 1, 1) := by decide +kernel
theorem dX12_cells_1 : decode cX12_cells 1 = .ok (.invokestatic 246, 3) := by decide +kernel
theorem dX12_cells_4 : decode cX12_cells 4 = .ok (.ifCond .eq 10, 3) := by decide +kernel
theorem dX12_cells_7 : decode cX12_cells 7 = .ok (.iload_n 2, 1) := by decide +kernel
theorem dX12_cells_8 : decode cX12_cells 8 = .ok (.invokestatic 246, 3) := by decide +kernel
theorem dX12_cells_11 : decode cX12_cells 11 = .ok (.ifCond .ne 5, 3) := by decide +kernel
theorem dX12_cells_14 : decode cX12_cells 14 = .ok (.iconst (-1), 1) := by decide +kernel
theorem dX12_cells_15 : decode cX12_cells 15 = .ok (.ireturn, 1) := by decide +kernel
theorem dX12_cells_16 : decode cX12_cells 16 = .ok (.aload_n 0, 1) := by decide +kernel
theorem dX12_cells_17 : decode cX12_cells 17 = .ok (.iload_n 1, 1) := by decide +kernel
theorem dX12_cells_18 : decode cX12_cells 18 = .ok (.iload_n 2, 1) := by decide +kernel
theorem dX12_cells_19 : decode cX12_cells 19 = .ok (.invokevirtual 249, 3) := by decide +kernel
theorem dX12_cells_22 : decode cX12_cells 22 = .ok (.lconst 0, 1) := by decide +kernel
theorem dX12_cells_23 : decode cX12_cells 23 = .ok (.lcmp, 1) := by decide +kernel
theorem dX12_cells_24 : decode cX12_cells 24 = .ok (.ifCond .ne 8, 3) := by decide +kernel
theorem dX12_cells_27 : decode cX12_cells 27 = .ok (.bipush (-4), 2) := by decide +kernel
theorem dX12_cells_29 : decode cX12_cells 29 = .ok (.goto 12, 3) := by decide +kernel
theorem dX12_cells_32 : decode cX12_cells 32 = .ok (.iload_n 2, 1) := by decide +kernel
theorem dX12_cells_33 : decode cX12_cells 33 = .ok (.invokestatic 253, 3) := by decide +kernel
theorem dX12_cells_36 : decode cX12_cells 36 = .ok (.iload_n 1, 1) := by decide +kernel
theorem dX12_cells_37 : decode cX12_cells 37 = .ok (.invokestatic 253, 3) := by decide +kernel
theorem dX12_cells_40 : decode cX12_cells 40 = .ok (.isub, 1) := by decide +kernel
theorem dX12_cells_41 : decode cX12_cells 41 = .ok (.ireturn, 1) := by decide +kernel
theorem dX12_orders_0 : decode cX12_orders 0 = .ok (.iload_n 1, 1) := by decide +kernel
theorem dX12_orders_1 : decode cX12_orders 1 = .ok (.invokestatic 246, 3) := by decide +kernel
theorem dX12_orders_4 : decode cX12_orders 4 = .ok (.ifCond .eq 19, 3) := by decide +kernel
theorem dX12_orders_7 : decode cX12_orders 7 = .ok (.iload_n 2, 1) := by decide +kernel
theorem dX12_orders_8 : decode cX12_orders 8 = .ok (.invokestatic 246, 3) := by decide +kernel
theorem dX12_orders_11 : decode cX12_orders 11 = .ok (.ifCond .eq 12, 3) := by decide +kernel
theorem dX12_orders_14 : decode cX12_orders 14 = .ok (.aload_n 0, 1) := by decide +kernel
theorem dX12_orders_15 : decode cX12_orders 15 = .ok (.iload_n 1, 1) := by decide +kernel
theorem dX12_orders_16 : decode cX12_orders 16 = .ok (.iload_n 2, 1) := by decide +kernel
theorem dX12_orders_17 : decode cX12_orders 17 = .ok (.invokevirtual 249, 3) := by decide +kernel
theorem dX12_orders_20 : decode cX12_orders 20 = .ok (.goto 6, 3) := by decide +kernel
theorem dX12_orders_23 : decode cX12_orders 23 = .ok (.ldc2_w 187, 3) := by decide +kernel
theorem dX12_orders_26 : decode cX12_orders 26 = .ok (.lreturn, 1) := by decide +kernel
theorem dX12_stepped_0 : decode cX12_stepped 0 = .ok (.iconst 0, 1) := by decide +kernel
theorem dX12_stepped_1 : decode cX12_stepped 1 = .ok (.istore_n 3, 1) := by decide +kernel
theorem dX12_stepped_2 : decode cX12_stepped 2 = .ok (.iconst 0, 1) := by decide +kernel
theorem dX12_stepped_3 : decode cX12_stepped 3 = .ok (.istore 4, 2) := by decide +kernel
theorem dX12_stepped_5 : decode cX12_stepped 5 = .ok (.iload 4, 2) := by decide +kernel
theorem dX12_stepped_7 : decode cX12_stepped 7 = .ok (.iload_n 1, 1) := by decide +kernel
theorem dX12_stepped_8 : decode cX12_stepped 8 = .ok (.if_icmp .ge 67, 3) := by decide +kernel
theorem dX12_stepped_11 : decode cX12_stepped 11 = .ok (.aload_n 0, 1) := by decide +kernel
theorem dX12_stepped_12 : decode cX12_stepped 12 = .ok (.getfield 53, 3) := by decide +kernel
theorem dX12_stepped_15 : decode cX12_stepped 15 = .ok (.iload 4, 2) := by decide +kernel
theorem dX12_stepped_17 : decode cX12_stepped 17 = .ok (.iaload, 1) := by decide +kernel
theorem dX12_stepped_18 : decode cX12_stepped 18 = .ok (.iload_n 2, 1) := by decide +kernel
theorem dX12_stepped_19 : decode cX12_stepped 19 = .ok (.iload 4, 2) := by decide +kernel
theorem dX12_stepped_21 : decode cX12_stepped 21 = .ok (.ishr, 1) := by decide +kernel
theorem dX12_stepped_22 : decode cX12_stepped 22 = .ok (.iconst 1, 1) := by decide +kernel
theorem dX12_stepped_23 : decode cX12_stepped 23 = .ok (.iand, 1) := by decide +kernel
theorem dX12_stepped_24 : decode cX12_stepped 24 = .ok (.iconst 1, 1) := by decide +kernel
theorem dX12_stepped_25 : decode cX12_stepped 25 = .ok (.if_icmp .ne 7, 3) := by decide +kernel
theorem dX12_stepped_28 : decode cX12_stepped 28 = .ok (.iconst 1, 1) := by decide +kernel
theorem dX12_stepped_29 : decode cX12_stepped 29 = .ok (.goto 4, 3) := by decide +kernel
theorem dX12_stepped_32 : decode cX12_stepped 32 = .ok (.iconst (-1), 1) := by decide +kernel
theorem dX12_stepped_33 : decode cX12_stepped 33 = .ok (.iadd, 1) := by decide +kernel
theorem dX12_stepped_34 : decode cX12_stepped 34 = .ok (.istore 5, 2) := by decide +kernel
theorem dX12_stepped_36 : decode cX12_stepped 36 = .ok (.iload 5, 2) := by decide +kernel
theorem dX12_stepped_38 : decode cX12_stepped 38 = .ok (.i2l, 1) := by decide +kernel
theorem dX12_stepped_39 : decode cX12_stepped 39 = .ok (.lconst 0, 1) := by decide +kernel
theorem dX12_stepped_40 : decode cX12_stepped 40 = .ok (.ldc2_w 256, 3) := by decide +kernel
theorem dX12_stepped_43 : decode cX12_stepped 43 = .ok (.invokestatic 72, 3) := by decide +kernel
theorem dX12_stepped_46 : decode cX12_stepped 46 = .ok (.ifCond .eq 13, 3) := by decide +kernel
theorem dX12_stepped_49 : decode cX12_stepped 49 = .ok (.iload_n 3, 1) := by decide +kernel
theorem dX12_stepped_50 : decode cX12_stepped 50 = .ok (.iload 5, 2) := by decide +kernel
theorem dX12_stepped_52 : decode cX12_stepped 52 = .ok (.ishr, 1) := by decide +kernel
theorem dX12_stepped_53 : decode cX12_stepped 53 = .ok (.iconst 1, 1) := by decide +kernel
theorem dX12_stepped_54 : decode cX12_stepped 54 = .ok (.iand, 1) := by decide +kernel
theorem dX12_stepped_55 : decode cX12_stepped 55 = .ok (.iconst 1, 1) := by decide +kernel
theorem dX12_stepped_56 : decode cX12_stepped 56 = .ok (.if_icmp .ne 6, 3) := by decide +kernel
theorem dX12_stepped_59 : decode cX12_stepped 59 = .ok (.bipush (-4), 2) := by decide +kernel
theorem dX12_stepped_61 : decode cX12_stepped 61 = .ok (.ireturn, 1) := by decide +kernel
theorem dX12_stepped_62 : decode cX12_stepped 62 = .ok (.iload_n 3, 1) := by decide +kernel
theorem dX12_stepped_63 : decode cX12_stepped 63 = .ok (.iconst 1, 1) := by decide +kernel
theorem dX12_stepped_64 : decode cX12_stepped 64 = .ok (.iload 5, 2) := by decide +kernel
theorem dX12_stepped_66 : decode cX12_stepped 66 = .ok (.ishl, 1) := by decide +kernel
theorem dX12_stepped_67 : decode cX12_stepped 67 = .ok (.ior, 1) := by decide +kernel
theorem dX12_stepped_68 : decode cX12_stepped 68 = .ok (.istore_n 3, 1) := by decide +kernel
theorem dX12_stepped_69 : decode cX12_stepped 69 = .ok (.iinc 4 1, 3) := by decide +kernel
theorem dX12_stepped_72 : decode cX12_stepped 72 = .ok (.goto (-67), 3) := by decide +kernel
theorem dX12_stepped_75 : decode cX12_stepped 75 = .ok (.iload_n 3, 1) := by decide +kernel
theorem dX12_stepped_76 : decode cX12_stepped 76 = .ok (.ireturn, 1) := by decide +kernel
theorem dX12_ways_0 : decode cX12_ways 0 = .ok (.iload_n 1, 1) := by decide +kernel
theorem dX12_ways_1 : decode cX12_ways 1 = .ok (.i2l, 1) := by decide +kernel
theorem dX12_ways_2 : decode cX12_ways 2 = .ok (.lconst 0, 1) := by decide +kernel
theorem dX12_ways_3 : decode cX12_ways 3 = .ok (.ldc2_w 258, 3) := by decide +kernel
theorem dX12_ways_6 : decode cX12_ways 6 = .ok (.invokestatic 72, 3) := by decide +kernel
theorem dX12_ways_9 : decode cX12_ways 9 = .ok (.ifCond .eq 56, 3) := by decide +kernel
theorem dX12_ways_12 : decode cX12_ways 12 = .ok (.iload_n 2, 1) := by decide +kernel
theorem dX12_ways_13 : decode cX12_ways 13 = .ok (.i2l, 1) := by decide +kernel
theorem dX12_ways_14 : decode cX12_ways 14 = .ok (.lconst 0, 1) := by decide +kernel
theorem dX12_ways_15 : decode cX12_ways 15 = .ok (.ldc2_w 258, 3) := by decide +kernel
theorem dX12_ways_18 : decode cX12_ways 18 = .ok (.invokestatic 72, 3) := by decide +kernel
theorem dX12_ways_21 : decode cX12_ways 21 = .ok (.ifCond .eq 44, 3) := by decide +kernel
theorem dX12_ways_24 : decode cX12_ways 24 = .ok (.iload_n 3, 1) := by decide +kernel
theorem dX12_ways_25 : decode cX12_ways 25 = .ok (.i2l, 1) := by decide +kernel
theorem dX12_ways_26 : decode cX12_ways 26 = .ok (.lconst 0, 1) := by decide +kernel
theorem dX12_ways_27 : decode cX12_ways 27 = .ok (.ldc2_w 260, 3) := by decide +kernel
theorem dX12_ways_30 : decode cX12_ways 30 = .ok (.invokestatic 72, 3) := by decide +kernel
theorem dX12_ways_33 : decode cX12_ways 33 = .ok (.ifCond .eq 32, 3) := by decide +kernel
theorem dX12_ways_36 : decode cX12_ways 36 = .ok (.iload_n 1, 1) := by decide +kernel
theorem dX12_ways_37 : decode cX12_ways 37 = .ok (.i2l, 1) := by decide +kernel
theorem dX12_ways_38 : decode cX12_ways 38 = .ok (.invokestatic 166, 3) := by decide +kernel
theorem dX12_ways_41 : decode cX12_ways 41 = .ok (.i2l, 1) := by decide +kernel
theorem dX12_ways_42 : decode cX12_ways 42 = .ok (.lconst 1, 1) := by decide +kernel
theorem dX12_ways_43 : decode cX12_ways 43 = .ok (.ldc2_w 262, 3) := by decide +kernel
theorem dX12_ways_46 : decode cX12_ways 46 = .ok (.invokestatic 72, 3) := by decide +kernel
theorem dX12_ways_49 : decode cX12_ways 49 = .ok (.ifCond .eq 16, 3) := by decide +kernel
theorem dX12_ways_52 : decode cX12_ways 52 = .ok (.iload_n 2, 1) := by decide +kernel
theorem dX12_ways_53 : decode cX12_ways 53 = .ok (.i2l, 1) := by decide +kernel
theorem dX12_ways_54 : decode cX12_ways 54 = .ok (.invokestatic 166, 3) := by decide +kernel
theorem dX12_ways_57 : decode cX12_ways 57 = .ok (.iload_n 1, 1) := by decide +kernel
theorem dX12_ways_58 : decode cX12_ways 58 = .ok (.i2l, 1) := by decide +kernel
theorem dX12_ways_59 : decode cX12_ways 59 = .ok (.invokestatic 166, 3) := by decide +kernel
theorem dX12_ways_62 : decode cX12_ways 62 = .ok (.if_icmp .eq 7, 3) := by decide +kernel
theorem dX12_ways_65 : decode cX12_ways 65 = .ok (.ldc2_w 187, 3) := by decide +kernel
theorem dX12_ways_68 : decode cX12_ways 68 = .ok (.lreturn, 1) := by decide +kernel
theorem dX12_ways_69 : decode cX12_ways 69 = .ok (.iload_n 1, 1) := by decide +kernel
theorem dX12_ways_70 : decode cX12_ways 70 = .ok (.i2l, 1) := by decide +kernel
theorem dX12_ways_71 : decode cX12_ways 71 = .ok (.invokestatic 166, 3) := by decide +kernel
theorem dX12_ways_74 : decode cX12_ways 74 = .ok (.istore 4, 2) := by decide +kernel
theorem dX12_ways_76 : decode cX12_ways 76 = .ok (.iconst 0, 1) := by decide +kernel
theorem dX12_ways_77 : decode cX12_ways 77 = .ok (.istore 5, 2) := by decide +kernel
theorem dX12_ways_79 : decode cX12_ways 79 = .ok (.iload 5, 2) := by decide +kernel
theorem dX12_ways_81 : decode cX12_ways 81 = .ok (.sipush 4096, 3) := by decide +kernel
theorem dX12_ways_84 : decode cX12_ways 84 = .ok (.if_icmp .ge 27, 3) := by decide +kernel
theorem dX12_ways_87 : decode cX12_ways 87 = .ok (.aload_n 0, 1) := by decide +kernel
theorem dX12_ways_88 : decode cX12_ways 88 = .ok (.getfield 47, 3) := by decide +kernel
theorem dX12_ways_91 : decode cX12_ways 91 = .ok (.iload 5, 2) := by decide +kernel
theorem dX12_ways_93 : decode cX12_ways 93 = .ok (.iload 5, 2) := by decide +kernel
theorem dX12_ways_95 : decode cX12_ways 95 = .ok (.iload_n 1, 1) := by decide +kernel
theorem dX12_ways_96 : decode cX12_ways 96 = .ok (.if_icmp .ne 7, 3) := by decide +kernel
theorem dX12_ways_99 : decode cX12_ways 99 = .ok (.lconst 1, 1) := by decide +kernel
theorem dX12_ways_100 : decode cX12_ways 100 = .ok (.goto 4, 3) := by decide +kernel
theorem dX12_ways_103 : decode cX12_ways 103 = .ok (.lconst 0, 1) := by decide +kernel
theorem dX12_ways_104 : decode cX12_ways 104 = .ok (.lastore, 1) := by decide +kernel
theorem dX12_ways_105 : decode cX12_ways 105 = .ok (.iinc 5 1, 3) := by decide +kernel
theorem dX12_ways_108 : decode cX12_ways 108 = .ok (.goto (-29), 3) := by decide +kernel
theorem dX12_ways_111 : decode cX12_ways 111 = .ok (.iconst 0, 1) := by decide +kernel
theorem dX12_ways_112 : decode cX12_ways 112 = .ok (.istore 5, 2) := by decide +kernel
theorem dX12_ways_114 : decode cX12_ways 114 = .ok (.iload 5, 2) := by decide +kernel
theorem dX12_ways_116 : decode cX12_ways 116 = .ok (.iload_n 3, 1) := by decide +kernel
theorem dX12_ways_117 : decode cX12_ways 117 = .ok (.if_icmp .ge 188, 3) := by decide +kernel
theorem dX12_ways_120 : decode cX12_ways 120 = .ok (.iconst 0, 1) := by decide +kernel
theorem dX12_ways_121 : decode cX12_ways 121 = .ok (.istore 6, 2) := by decide +kernel
theorem dX12_ways_123 : decode cX12_ways 123 = .ok (.iload 6, 2) := by decide +kernel
theorem dX12_ways_125 : decode cX12_ways 125 = .ok (.sipush 4096, 3) := by decide +kernel
theorem dX12_ways_128 : decode cX12_ways 128 = .ok (.if_icmp .ge 17, 3) := by decide +kernel
theorem dX12_ways_131 : decode cX12_ways 131 = .ok (.aload_n 0, 1) := by decide +kernel
theorem dX12_ways_132 : decode cX12_ways 132 = .ok (.getfield 50, 3) := by decide +kernel
theorem dX12_ways_135 : decode cX12_ways 135 = .ok (.iload 6, 2) := by decide +kernel
theorem dX12_ways_137 : decode cX12_ways 137 = .ok (.lconst 0, 1) := by decide +kernel
theorem dX12_ways_138 : decode cX12_ways 138 = .ok (.lastore, 1) := by decide +kernel
theorem dX12_ways_139 : decode cX12_ways 139 = .ok (.iinc 6 1, 3) := by decide +kernel
theorem dX12_ways_142 : decode cX12_ways 142 = .ok (.goto (-19), 3) := by decide +kernel
theorem dX12_ways_145 : decode cX12_ways 145 = .ok (.iconst 0, 1) := by decide +kernel
theorem dX12_ways_146 : decode cX12_ways 146 = .ok (.istore 6, 2) := by decide +kernel
theorem dX12_ways_148 : decode cX12_ways 148 = .ok (.iload 6, 2) := by decide +kernel
theorem dX12_ways_150 : decode cX12_ways 150 = .ok (.sipush 4096, 3) := by decide +kernel
theorem dX12_ways_153 : decode cX12_ways 153 = .ok (.if_icmp .ge 115, 3) := by decide +kernel
theorem dX12_ways_156 : decode cX12_ways 156 = .ok (.aload_n 0, 1) := by decide +kernel
theorem dX12_ways_157 : decode cX12_ways 157 = .ok (.getfield 47, 3) := by decide +kernel
theorem dX12_ways_160 : decode cX12_ways 160 = .ok (.iload 6, 2) := by decide +kernel
theorem dX12_ways_162 : decode cX12_ways 162 = .ok (.laload, 1) := by decide +kernel
theorem dX12_ways_163 : decode cX12_ways 163 = .ok (.lconst 0, 1) := by decide +kernel
theorem dX12_ways_164 : decode cX12_ways 164 = .ok (.lcmp, 1) := by decide +kernel
theorem dX12_ways_165 : decode cX12_ways 165 = .ok (.ifCond .le 97, 3) := by decide +kernel
theorem dX12_ways_168 : decode cX12_ways 168 = .ok (.iconst 0, 1) := by decide +kernel
theorem dX12_ways_169 : decode cX12_ways 169 = .ok (.istore 7, 2) := by decide +kernel
theorem dX12_ways_171 : decode cX12_ways 171 = .ok (.iconst 0, 1) := by decide +kernel
theorem dX12_ways_172 : decode cX12_ways 172 = .ok (.istore 8, 2) := by decide +kernel
theorem dX12_ways_174 : decode cX12_ways 174 = .ok (.iload 8, 2) := by decide +kernel
theorem dX12_ways_176 : decode cX12_ways 176 = .ok (.bipush 12, 2) := by decide +kernel
theorem dX12_ways_178 : decode cX12_ways 178 = .ok (.if_icmp .ge 32, 3) := by decide +kernel
theorem dX12_ways_181 : decode cX12_ways 181 = .ok (.iload 6, 2) := by decide +kernel
theorem dX12_ways_183 : decode cX12_ways 183 = .ok (.iload 8, 2) := by decide +kernel
theorem dX12_ways_185 : decode cX12_ways 185 = .ok (.ishr, 1) := by decide +kernel
theorem dX12_ways_186 : decode cX12_ways 186 = .ok (.iconst 1, 1) := by decide +kernel
theorem dX12_ways_187 : decode cX12_ways 187 = .ok (.iand, 1) := by decide +kernel
theorem dX12_ways_188 : decode cX12_ways 188 = .ok (.iconst 1, 1) := by decide +kernel
theorem dX12_ways_189 : decode cX12_ways 189 = .ok (.if_icmp .ne 15, 3) := by decide +kernel
theorem dX12_ways_192 : decode cX12_ways 192 = .ok (.aload_n 0, 1) := by decide +kernel
theorem dX12_ways_193 : decode cX12_ways 193 = .ok (.getfield 53, 3) := by decide +kernel
theorem dX12_ways_196 : decode cX12_ways 196 = .ok (.iload 7, 2) := by decide +kernel
theorem dX12_ways_198 : decode cX12_ways 198 = .ok (.iload 8, 2) := by decide +kernel
theorem dX12_ways_200 : decode cX12_ways 200 = .ok (.iastore, 1) := by decide +kernel
theorem dX12_ways_201 : decode cX12_ways 201 = .ok (.iinc 7 1, 3) := by decide +kernel
theorem dX12_ways_204 : decode cX12_ways 204 = .ok (.iinc 8 1, 3) := by decide +kernel
theorem dX12_ways_207 : decode cX12_ways 207 = .ok (.goto (-33), 3) := by decide +kernel
theorem dX12_ways_210 : decode cX12_ways 210 = .ok (.iconst 0, 1) := by decide +kernel
theorem dX12_ways_211 : decode cX12_ways 211 = .ok (.istore 8, 2) := by decide +kernel
theorem dX12_ways_213 : decode cX12_ways 213 = .ok (.iload 8, 2) := by decide +kernel
theorem dX12_ways_215 : decode cX12_ways 215 = .ok (.iconst 1, 1) := by decide +kernel
theorem dX12_ways_216 : decode cX12_ways 216 = .ok (.iload 4, 2) := by decide +kernel
theorem dX12_ways_218 : decode cX12_ways 218 = .ok (.ishl, 1) := by decide +kernel
theorem dX12_ways_219 : decode cX12_ways 219 = .ok (.if_icmp .ge 43, 3) := by decide +kernel
theorem dX12_ways_222 : decode cX12_ways 222 = .ok (.aload_n 0, 1) := by decide +kernel
theorem dX12_ways_223 : decode cX12_ways 223 = .ok (.iload 4, 2) := by decide +kernel
theorem dX12_ways_225 : decode cX12_ways 225 = .ok (.iload 8, 2) := by decide +kernel
theorem dX12_ways_227 : decode cX12_ways 227 = .ok (.invokevirtual 264, 3) := by decide +kernel
theorem dX12_ways_230 : decode cX12_ways 230 = .ok (.istore 9, 2) := by decide +kernel
theorem dX12_ways_232 : decode cX12_ways 232 = .ok (.iload 9, 2) := by decide +kernel
theorem dX12_ways_234 : decode cX12_ways 234 = .ok (.bipush (-4), 2) := by decide +kernel
theorem dX12_ways_236 : decode cX12_ways 236 = .ok (.if_icmp .eq 20, 3) := by decide +kernel
theorem dX12_ways_239 : decode cX12_ways 239 = .ok (.aload_n 0, 1) := by decide +kernel
theorem dX12_ways_240 : decode cX12_ways 240 = .ok (.getfield 50, 3) := by decide +kernel
theorem dX12_ways_243 : decode cX12_ways 243 = .ok (.iload 9, 2) := by decide +kernel
theorem dX12_ways_245 : decode cX12_ways 245 = .ok (.dup2, 1) := by decide +kernel
theorem dX12_ways_246 : decode cX12_ways 246 = .ok (.laload, 1) := by decide +kernel
theorem dX12_ways_247 : decode cX12_ways 247 = .ok (.aload_n 0, 1) := by decide +kernel
theorem dX12_ways_248 : decode cX12_ways 248 = .ok (.getfield 47, 3) := by decide +kernel
theorem dX12_ways_251 : decode cX12_ways 251 = .ok (.iload 6, 2) := by decide +kernel
theorem dX12_ways_253 : decode cX12_ways 253 = .ok (.laload, 1) := by decide +kernel
theorem dX12_ways_254 : decode cX12_ways 254 = .ok (.ladd, 1) := by decide +kernel
theorem dX12_ways_255 : decode cX12_ways 255 = .ok (.lastore, 1) := by decide +kernel
theorem dX12_ways_256 : decode cX12_ways 256 = .ok (.iinc 8 1, 3) := by decide +kernel
theorem dX12_ways_259 : decode cX12_ways 259 = .ok (.goto (-46), 3) := by decide +kernel
theorem dX12_ways_262 : decode cX12_ways 262 = .ok (.iinc 6 1, 3) := by decide +kernel
theorem dX12_ways_265 : decode cX12_ways 265 = .ok (.goto (-117), 3) := by decide +kernel
theorem dX12_ways_268 : decode cX12_ways 268 = .ok (.iconst 0, 1) := by decide +kernel
theorem dX12_ways_269 : decode cX12_ways 269 = .ok (.istore 6, 2) := by decide +kernel
theorem dX12_ways_271 : decode cX12_ways 271 = .ok (.iload 6, 2) := by decide +kernel
theorem dX12_ways_273 : decode cX12_ways 273 = .ok (.sipush 4096, 3) := by decide +kernel
theorem dX12_ways_276 : decode cX12_ways 276 = .ok (.if_icmp .ge 23, 3) := by decide +kernel
theorem dX12_ways_279 : decode cX12_ways 279 = .ok (.aload_n 0, 1) := by decide +kernel
theorem dX12_ways_280 : decode cX12_ways 280 = .ok (.getfield 47, 3) := by decide +kernel
theorem dX12_ways_283 : decode cX12_ways 283 = .ok (.iload 6, 2) := by decide +kernel
theorem dX12_ways_285 : decode cX12_ways 285 = .ok (.aload_n 0, 1) := by decide +kernel
theorem dX12_ways_286 : decode cX12_ways 286 = .ok (.getfield 50, 3) := by decide +kernel
theorem dX12_ways_289 : decode cX12_ways 289 = .ok (.iload 6, 2) := by decide +kernel
theorem dX12_ways_291 : decode cX12_ways 291 = .ok (.laload, 1) := by decide +kernel
theorem dX12_ways_292 : decode cX12_ways 292 = .ok (.lastore, 1) := by decide +kernel
theorem dX12_ways_293 : decode cX12_ways 293 = .ok (.iinc 6 1, 3) := by decide +kernel
theorem dX12_ways_296 : decode cX12_ways 296 = .ok (.goto (-25), 3) := by decide +kernel
theorem dX12_ways_299 : decode cX12_ways 299 = .ok (.iinc 5 1, 3) := by decide +kernel
theorem dX12_ways_302 : decode cX12_ways 302 = .ok (.goto (-188), 3) := by decide +kernel
theorem dX12_ways_305 : decode cX12_ways 305 = .ok (.aload_n 0, 1) := by decide +kernel
theorem dX12_ways_306 : decode cX12_ways 306 = .ok (.getfield 47, 3) := by decide +kernel
theorem dX12_ways_309 : decode cX12_ways 309 = .ok (.iload_n 2, 1) := by decide +kernel
theorem dX12_ways_310 : decode cX12_ways 310 = .ok (.laload, 1) := by decide +kernel
theorem dX12_ways_311 : decode cX12_ways 311 = .ok (.lreturn, 1) := by decide +kernel
theorem dX12_wordAll_0 : decode cX12_wordAll 0 = .ok (.iconst 1, 1) := by decide +kernel
theorem dX12_wordAll_1 : decode cX12_wordAll 1 = .ok (.istore_n 1, 1) := by decide +kernel
theorem dX12_wordAll_2 : decode cX12_wordAll 2 = .ok (.iconst 0, 1) := by decide +kernel
theorem dX12_wordAll_3 : decode cX12_wordAll 3 = .ok (.istore_n 2, 1) := by decide +kernel
theorem dX12_wordAll_4 : decode cX12_wordAll 4 = .ok (.iload_n 2, 1) := by decide +kernel
theorem dX12_wordAll_5 : decode cX12_wordAll 5 = .ok (.aload_n 0, 1) := by decide +kernel
theorem dX12_wordAll_6 : decode cX12_wordAll 6 = .ok (.invokevirtual 139, 3) := by decide +kernel
theorem dX12_wordAll_9 : decode cX12_wordAll 9 = .ok (.if_icmp .ge 13, 3) := by decide +kernel
theorem dX12_wordAll_12 : decode cX12_wordAll 12 = .ok (.iload_n 1, 1) := by decide +kernel
theorem dX12_wordAll_13 : decode cX12_wordAll 13 = .ok (.iconst 3, 1) := by decide +kernel
theorem dX12_wordAll_14 : decode cX12_wordAll 14 = .ok (.imul, 1) := by decide +kernel
theorem dX12_wordAll_15 : decode cX12_wordAll 15 = .ok (.istore_n 1, 1) := by decide +kernel
theorem dX12_wordAll_16 : decode cX12_wordAll 16 = .ok (.iinc 2 1, 3) := by decide +kernel
theorem dX12_wordAll_19 : decode cX12_wordAll 19 = .ok (.goto (-15), 3) := by decide +kernel
theorem dX12_wordAll_22 : decode cX12_wordAll 22 = .ok (.iload_n 1, 1) := by decide +kernel
theorem dX12_wordAll_23 : decode cX12_wordAll 23 = .ok (.ireturn, 1) := by decide +kernel
theorem dX12_viewOf_0 : decode cX12_viewOf 0 = .ok (.aload_n 0, 1) := by decide +kernel
theorem dX12_viewOf_1 : decode cX12_viewOf 1 = .ok (.invokevirtual 139, 3) := by decide +kernel
theorem dX12_viewOf_4 : decode cX12_viewOf 4 = .ok (.istore_n 3, 1) := by decide +kernel
theorem dX12_viewOf_5 : decode cX12_viewOf 5 = .ok (.iload_n 2, 1) := by decide +kernel
theorem dX12_viewOf_6 : decode cX12_viewOf 6 = .ok (.istore 4, 2) := by decide +kernel
theorem dX12_viewOf_8 : decode cX12_viewOf 8 = .ok (.iconst 0, 1) := by decide +kernel
theorem dX12_viewOf_9 : decode cX12_viewOf 9 = .ok (.istore 5, 2) := by decide +kernel
theorem dX12_viewOf_11 : decode cX12_viewOf 11 = .ok (.iload 5, 2) := by decide +kernel
theorem dX12_viewOf_13 : decode cX12_viewOf 13 = .ok (.iload_n 3, 1) := by decide +kernel
theorem dX12_viewOf_14 : decode cX12_viewOf 14 = .ok (.if_icmp .ge 63, 3) := by decide +kernel
theorem dX12_viewOf_17 : decode cX12_viewOf 17 = .ok (.aload_n 0, 1) := by decide +kernel
theorem dX12_viewOf_18 : decode cX12_viewOf 18 = .ok (.iload_n 1, 1) := by decide +kernel
theorem dX12_viewOf_19 : decode cX12_viewOf 19 = .ok (.iload 5, 2) := by decide +kernel
theorem dX12_viewOf_21 : decode cX12_viewOf 21 = .ok (.invokevirtual 135, 3) := by decide +kernel
theorem dX12_viewOf_24 : decode cX12_viewOf 24 = .ok (.ifCond .eq 47, 3) := by decide +kernel
theorem dX12_viewOf_27 : decode cX12_viewOf 27 = .ok (.iload 5, 2) := by decide +kernel
theorem dX12_viewOf_29 : decode cX12_viewOf 29 = .ok (.istore 6, 2) := by decide +kernel
theorem dX12_viewOf_31 : decode cX12_viewOf 31 = .ok (.aload_n 0, 1) := by decide +kernel
theorem dX12_viewOf_32 : decode cX12_viewOf 32 = .ok (.iload 4, 2) := by decide +kernel
theorem dX12_viewOf_34 : decode cX12_viewOf 34 = .ok (.iload 6, 2) := by decide +kernel
theorem dX12_viewOf_36 : decode cX12_viewOf 36 = .ok (.invokevirtual 135, 3) := by decide +kernel
theorem dX12_viewOf_39 : decode cX12_viewOf 39 = .ok (.ifCond .ne 23, 3) := by decide +kernel
theorem dX12_viewOf_42 : decode cX12_viewOf 42 = .ok (.iload 6, 2) := by decide +kernel
theorem dX12_viewOf_44 : decode cX12_viewOf 44 = .ok (.ifCond .le 10, 3) := by decide +kernel
theorem dX12_viewOf_47 : decode cX12_viewOf 47 = .ok (.iload 6, 2) := by decide +kernel
theorem dX12_viewOf_49 : decode cX12_viewOf 49 = .ok (.iconst 1, 1) := by decide +kernel
theorem dX12_viewOf_50 : decode cX12_viewOf 50 = .ok (.isub, 1) := by decide +kernel
theorem dX12_viewOf_51 : decode cX12_viewOf 51 = .ok (.goto 6, 3) := by decide +kernel
theorem dX12_viewOf_54 : decode cX12_viewOf 54 = .ok (.iload_n 3, 1) := by decide +kernel
theorem dX12_viewOf_55 : decode cX12_viewOf 55 = .ok (.iconst 1, 1) := by decide +kernel
theorem dX12_viewOf_56 : decode cX12_viewOf 56 = .ok (.isub, 1) := by decide +kernel
theorem dX12_viewOf_57 : decode cX12_viewOf 57 = .ok (.istore 6, 2) := by decide +kernel
theorem dX12_viewOf_59 : decode cX12_viewOf 59 = .ok (.goto (-28), 3) := by decide +kernel
theorem dX12_viewOf_62 : decode cX12_viewOf 62 = .ok (.iload 4, 2) := by decide +kernel
theorem dX12_viewOf_64 : decode cX12_viewOf 64 = .ok (.iconst 1, 1) := by decide +kernel
theorem dX12_viewOf_65 : decode cX12_viewOf 65 = .ok (.iload 6, 2) := by decide +kernel
theorem dX12_viewOf_67 : decode cX12_viewOf 67 = .ok (.ishl, 1) := by decide +kernel
theorem dX12_viewOf_68 : decode cX12_viewOf 68 = .ok (.ixor, 1) := by decide +kernel
theorem dX12_viewOf_69 : decode cX12_viewOf 69 = .ok (.istore 4, 2) := by decide +kernel
theorem dX12_viewOf_71 : decode cX12_viewOf 71 = .ok (.iinc 5 1, 3) := by decide +kernel
theorem dX12_viewOf_74 : decode cX12_viewOf 74 = .ok (.goto (-63), 3) := by decide +kernel
theorem dX12_viewOf_77 : decode cX12_viewOf 77 = .ok (.iconst 0, 1) := by decide +kernel
theorem dX12_viewOf_78 : decode cX12_viewOf 78 = .ok (.istore 5, 2) := by decide +kernel
theorem dX12_viewOf_80 : decode cX12_viewOf 80 = .ok (.iload_n 3, 1) := by decide +kernel
theorem dX12_viewOf_81 : decode cX12_viewOf 81 = .ok (.iconst 1, 1) := by decide +kernel
theorem dX12_viewOf_82 : decode cX12_viewOf 82 = .ok (.isub, 1) := by decide +kernel
theorem dX12_viewOf_83 : decode cX12_viewOf 83 = .ok (.istore 6, 2) := by decide +kernel
theorem dX12_viewOf_85 : decode cX12_viewOf 85 = .ok (.iload 6, 2) := by decide +kernel
theorem dX12_viewOf_87 : decode cX12_viewOf 87 = .ok (.ifCond .lt 46, 3) := by decide +kernel
theorem dX12_viewOf_90 : decode cX12_viewOf 90 = .ok (.iconst 3, 1) := by decide +kernel
theorem dX12_viewOf_91 : decode cX12_viewOf 91 = .ok (.iload 5, 2) := by decide +kernel
theorem dX12_viewOf_93 : decode cX12_viewOf 93 = .ok (.imul, 1) := by decide +kernel
theorem dX12_viewOf_94 : decode cX12_viewOf 94 = .ok (.aload_n 0, 1) := by decide +kernel
theorem dX12_viewOf_95 : decode cX12_viewOf 95 = .ok (.iload_n 2, 1) := by decide +kernel
theorem dX12_viewOf_96 : decode cX12_viewOf 96 = .ok (.iload 6, 2) := by decide +kernel
theorem dX12_viewOf_98 : decode cX12_viewOf 98 = .ok (.invokevirtual 135, 3) := by decide +kernel
theorem dX12_viewOf_101 : decode cX12_viewOf 101 = .ok (.ifCond .ne 7, 3) := by decide +kernel
theorem dX12_viewOf_104 : decode cX12_viewOf 104 = .ok (.iconst 0, 1) := by decide +kernel
theorem dX12_viewOf_105 : decode cX12_viewOf 105 = .ok (.goto 19, 3) := by decide +kernel
theorem dX12_viewOf_108 : decode cX12_viewOf 108 = .ok (.aload_n 0, 1) := by decide +kernel
theorem dX12_viewOf_109 : decode cX12_viewOf 109 = .ok (.iload 4, 2) := by decide +kernel
theorem dX12_viewOf_111 : decode cX12_viewOf 111 = .ok (.iload 6, 2) := by decide +kernel
theorem dX12_viewOf_113 : decode cX12_viewOf 113 = .ok (.invokevirtual 135, 3) := by decide +kernel
theorem dX12_viewOf_116 : decode cX12_viewOf 116 = .ok (.ifCond .eq 7, 3) := by decide +kernel
theorem dX12_viewOf_119 : decode cX12_viewOf 119 = .ok (.iconst 2, 1) := by decide +kernel
theorem dX12_viewOf_120 : decode cX12_viewOf 120 = .ok (.goto 4, 3) := by decide +kernel
theorem dX12_viewOf_123 : decode cX12_viewOf 123 = .ok (.iconst 1, 1) := by decide +kernel
theorem dX12_viewOf_124 : decode cX12_viewOf 124 = .ok (.iadd, 1) := by decide +kernel
theorem dX12_viewOf_125 : decode cX12_viewOf 125 = .ok (.istore 5, 2) := by decide +kernel
theorem dX12_viewOf_127 : decode cX12_viewOf 127 = .ok (.iinc 6 (-1), 3) := by decide +kernel
theorem dX12_viewOf_130 : decode cX12_viewOf 130 = .ok (.goto (-45), 3) := by decide +kernel
theorem dX12_viewOf_133 : decode cX12_viewOf 133 = .ok (.iload 5, 2) := by decide +kernel
theorem dX12_viewOf_135 : decode cX12_viewOf 135 = .ok (.ireturn, 1) := by decide +kernel
theorem dX12_view_0 : decode cX12_view 0 = .ok (.aload_n 0, 1) := by decide +kernel
theorem dX12_view_1 : decode cX12_view 1 = .ok (.iload_n 1, 1) := by decide +kernel
theorem dX12_view_2 : decode cX12_view 2 = .ok (.invokevirtual 150, 3) := by decide +kernel
theorem dX12_view_5 : decode cX12_view 5 = .ok (.ifCond .eq 24, 3) := by decide +kernel
theorem dX12_view_8 : decode cX12_view 8 = .ok (.aload_n 0, 1) := by decide +kernel
theorem dX12_view_9 : decode cX12_view 9 = .ok (.iload_n 2, 1) := by decide +kernel
theorem dX12_view_10 : decode cX12_view 10 = .ok (.invokevirtual 150, 3) := by decide +kernel
theorem dX12_view_13 : decode cX12_view 13 = .ok (.ifCond .eq 16, 3) := by decide +kernel
theorem dX12_view_16 : decode cX12_view 16 = .ok (.iload_n 1, 1) := by decide +kernel
theorem dX12_view_17 : decode cX12_view 17 = .ok (.i2l, 1) := by decide +kernel
theorem dX12_view_18 : decode cX12_view 18 = .ok (.invokestatic 166, 3) := by decide +kernel
theorem dX12_view_21 : decode cX12_view 21 = .ok (.iload_n 2, 1) := by decide +kernel
theorem dX12_view_22 : decode cX12_view 22 = .ok (.i2l, 1) := by decide +kernel
theorem dX12_view_23 : decode cX12_view 23 = .ok (.invokestatic 166, 3) := by decide +kernel
theorem dX12_view_26 : decode cX12_view 26 = .ok (.if_icmp .le 5, 3) := by decide +kernel
theorem dX12_view_29 : decode cX12_view 29 = .ok (.iconst (-1), 1) := by decide +kernel
theorem dX12_view_30 : decode cX12_view 30 = .ok (.ireturn, 1) := by decide +kernel
theorem dX12_view_31 : decode cX12_view 31 = .ok (.aload_n 0, 1) := by decide +kernel
theorem dX12_view_32 : decode cX12_view 32 = .ok (.iload_n 1, 1) := by decide +kernel
theorem dX12_view_33 : decode cX12_view 33 = .ok (.iload_n 2, 1) := by decide +kernel
theorem dX12_view_34 : decode cX12_view 34 = .ok (.invokevirtual 267, 3) := by decide +kernel
theorem dX12_view_37 : decode cX12_view 37 = .ok (.ireturn, 1) := by decide +kernel
theorem dX12_layKinds_0 : decode cX12_layKinds 0 = .ok (.iload_n 1, 1) := by decide +kernel
theorem dX12_layKinds_1 : decode cX12_layKinds 1 = .ok (.istore_n 2, 1) := by decide +kernel
theorem dX12_layKinds_2 : decode cX12_layKinds 2 = .ok (.iconst 0, 1) := by decide +kernel
theorem dX12_layKinds_3 : decode cX12_layKinds 3 = .ok (.istore_n 3, 1) := by decide +kernel
theorem dX12_layKinds_4 : decode cX12_layKinds 4 = .ok (.iload_n 3, 1) := by decide +kernel
theorem dX12_layKinds_5 : decode cX12_layKinds 5 = .ok (.aload_n 0, 1) := by decide +kernel
theorem dX12_layKinds_6 : decode cX12_layKinds 6 = .ok (.invokevirtual 139, 3) := by decide +kernel
theorem dX12_layKinds_9 : decode cX12_layKinds 9 = .ok (.if_icmp .ge 22, 3) := by decide +kernel
theorem dX12_layKinds_12 : decode cX12_layKinds 12 = .ok (.aload_n 0, 1) := by decide +kernel
theorem dX12_layKinds_13 : decode cX12_layKinds 13 = .ok (.getfield 56, 3) := by decide +kernel
theorem dX12_layKinds_16 : decode cX12_layKinds 16 = .ok (.iload_n 3, 1) := by decide +kernel
theorem dX12_layKinds_17 : decode cX12_layKinds 17 = .ok (.iload_n 2, 1) := by decide +kernel
theorem dX12_layKinds_18 : decode cX12_layKinds 18 = .ok (.iconst 3, 1) := by decide +kernel
theorem dX12_layKinds_19 : decode cX12_layKinds 19 = .ok (.irem, 1) := by decide +kernel
theorem dX12_layKinds_20 : decode cX12_layKinds 20 = .ok (.iastore, 1) := by decide +kernel
theorem dX12_layKinds_21 : decode cX12_layKinds 21 = .ok (.iload_n 2, 1) := by decide +kernel
theorem dX12_layKinds_22 : decode cX12_layKinds 22 = .ok (.iconst 3, 1) := by decide +kernel
theorem dX12_layKinds_23 : decode cX12_layKinds 23 = .ok (.idiv, 1) := by decide +kernel
theorem dX12_layKinds_24 : decode cX12_layKinds 24 = .ok (.istore_n 2, 1) := by decide +kernel
theorem dX12_layKinds_25 : decode cX12_layKinds 25 = .ok (.iinc 3 1, 3) := by decide +kernel
theorem dX12_layKinds_28 : decode cX12_layKinds 28 = .ok (.goto (-24), 3) := by decide +kernel
theorem dX12_layKinds_31 : decode cX12_layKinds 31 = .ok (.return_, 1) := by decide +kernel
theorem dX12_manyOf_0 : decode cX12_manyOf 0 = .ok (.iconst 0, 1) := by decide +kernel
theorem dX12_manyOf_1 : decode cX12_manyOf 1 = .ok (.istore_n 2, 1) := by decide +kernel
theorem dX12_manyOf_2 : decode cX12_manyOf 2 = .ok (.iconst 0, 1) := by decide +kernel
theorem dX12_manyOf_3 : decode cX12_manyOf 3 = .ok (.istore_n 3, 1) := by decide +kernel
theorem dX12_manyOf_4 : decode cX12_manyOf 4 = .ok (.iload_n 3, 1) := by decide +kernel
theorem dX12_manyOf_5 : decode cX12_manyOf 5 = .ok (.aload_n 0, 1) := by decide +kernel
theorem dX12_manyOf_6 : decode cX12_manyOf 6 = .ok (.invokevirtual 139, 3) := by decide +kernel
theorem dX12_manyOf_9 : decode cX12_manyOf 9 = .ok (.if_icmp .ge 27, 3) := by decide +kernel
theorem dX12_manyOf_12 : decode cX12_manyOf 12 = .ok (.iload_n 2, 1) := by decide +kernel
theorem dX12_manyOf_13 : decode cX12_manyOf 13 = .ok (.aload_n 0, 1) := by decide +kernel
theorem dX12_manyOf_14 : decode cX12_manyOf 14 = .ok (.getfield 56, 3) := by decide +kernel
theorem dX12_manyOf_17 : decode cX12_manyOf 17 = .ok (.iload_n 3, 1) := by decide +kernel
theorem dX12_manyOf_18 : decode cX12_manyOf 18 = .ok (.iaload, 1) := by decide +kernel
theorem dX12_manyOf_19 : decode cX12_manyOf 19 = .ok (.iload_n 1, 1) := by decide +kernel
theorem dX12_manyOf_20 : decode cX12_manyOf 20 = .ok (.if_icmp .ne 7, 3) := by decide +kernel
theorem dX12_manyOf_23 : decode cX12_manyOf 23 = .ok (.iconst 1, 1) := by decide +kernel
theorem dX12_manyOf_24 : decode cX12_manyOf 24 = .ok (.goto 4, 3) := by decide +kernel
theorem dX12_manyOf_27 : decode cX12_manyOf 27 = .ok (.iconst 0, 1) := by decide +kernel
theorem dX12_manyOf_28 : decode cX12_manyOf 28 = .ok (.iadd, 1) := by decide +kernel
theorem dX12_manyOf_29 : decode cX12_manyOf 29 = .ok (.istore_n 2, 1) := by decide +kernel
theorem dX12_manyOf_30 : decode cX12_manyOf 30 = .ok (.iinc 3 1, 3) := by decide +kernel
theorem dX12_manyOf_33 : decode cX12_manyOf 33 = .ok (.goto (-29), 3) := by decide +kernel
theorem dX12_manyOf_36 : decode cX12_manyOf 36 = .ok (.iload_n 2, 1) := by decide +kernel
theorem dX12_manyOf_37 : decode cX12_manyOf 37 = .ok (.ireturn, 1) := by decide +kernel
theorem dX12_seenOf_0 : decode cX12_seenOf 0 = .ok (.aload_n 0, 1) := by decide +kernel
theorem dX12_seenOf_1 : decode cX12_seenOf 1 = .ok (.iload_n 1, 1) := by decide +kernel
theorem dX12_seenOf_2 : decode cX12_seenOf 2 = .ok (.invokevirtual 270, 3) := by decide +kernel
theorem dX12_seenOf_5 : decode cX12_seenOf 5 = .ok (.iconst 0, 1) := by decide +kernel
theorem dX12_seenOf_6 : decode cX12_seenOf 6 = .ok (.istore_n 2, 1) := by decide +kernel
theorem dX12_seenOf_7 : decode cX12_seenOf 7 = .ok (.iconst 0, 1) := by decide +kernel
theorem dX12_seenOf_8 : decode cX12_seenOf 8 = .ok (.istore_n 3, 1) := by decide +kernel
theorem dX12_seenOf_9 : decode cX12_seenOf 9 = .ok (.iload_n 3, 1) := by decide +kernel
theorem dX12_seenOf_10 : decode cX12_seenOf 10 = .ok (.aload_n 0, 1) := by decide +kernel
theorem dX12_seenOf_11 : decode cX12_seenOf 11 = .ok (.invokevirtual 139, 3) := by decide +kernel
theorem dX12_seenOf_14 : decode cX12_seenOf 14 = .ok (.if_icmp .ge 28, 3) := by decide +kernel
theorem dX12_seenOf_17 : decode cX12_seenOf 17 = .ok (.iload_n 2, 1) := by decide +kernel
theorem dX12_seenOf_18 : decode cX12_seenOf 18 = .ok (.aload_n 0, 1) := by decide +kernel
theorem dX12_seenOf_19 : decode cX12_seenOf 19 = .ok (.getfield 56, 3) := by decide +kernel
theorem dX12_seenOf_22 : decode cX12_seenOf 22 = .ok (.iload_n 3, 1) := by decide +kernel
theorem dX12_seenOf_23 : decode cX12_seenOf 23 = .ok (.iaload, 1) := by decide +kernel
theorem dX12_seenOf_24 : decode cX12_seenOf 24 = .ok (.ifCond .le 9, 3) := by decide +kernel
theorem dX12_seenOf_27 : decode cX12_seenOf 27 = .ok (.iconst 1, 1) := by decide +kernel
theorem dX12_seenOf_28 : decode cX12_seenOf 28 = .ok (.iload_n 3, 1) := by decide +kernel
theorem dX12_seenOf_29 : decode cX12_seenOf 29 = .ok (.ishl, 1) := by decide +kernel
theorem dX12_seenOf_30 : decode cX12_seenOf 30 = .ok (.goto 4, 3) := by decide +kernel
theorem dX12_seenOf_33 : decode cX12_seenOf 33 = .ok (.iconst 0, 1) := by decide +kernel
theorem dX12_seenOf_34 : decode cX12_seenOf 34 = .ok (.ior, 1) := by decide +kernel
theorem dX12_seenOf_35 : decode cX12_seenOf 35 = .ok (.istore_n 2, 1) := by decide +kernel
theorem dX12_seenOf_36 : decode cX12_seenOf 36 = .ok (.iinc 3 1, 3) := by decide +kernel
theorem dX12_seenOf_39 : decode cX12_seenOf 39 = .ok (.goto (-30), 3) := by decide +kernel
theorem dX12_seenOf_42 : decode cX12_seenOf 42 = .ok (.aload_n 0, 1) := by decide +kernel
theorem dX12_seenOf_43 : decode cX12_seenOf 43 = .ok (.iconst 1, 1) := by decide +kernel
theorem dX12_seenOf_44 : decode cX12_seenOf 44 = .ok (.invokevirtual 273, 3) := by decide +kernel
theorem dX12_seenOf_47 : decode cX12_seenOf 47 = .ok (.istore_n 3, 1) := by decide +kernel
theorem dX12_seenOf_48 : decode cX12_seenOf 48 = .ok (.iconst 0, 1) := by decide +kernel
theorem dX12_seenOf_49 : decode cX12_seenOf 49 = .ok (.istore 4, 2) := by decide +kernel
theorem dX12_seenOf_51 : decode cX12_seenOf 51 = .ok (.iconst 0, 1) := by decide +kernel
theorem dX12_seenOf_52 : decode cX12_seenOf 52 = .ok (.istore 5, 2) := by decide +kernel
theorem dX12_seenOf_54 : decode cX12_seenOf 54 = .ok (.iload 5, 2) := by decide +kernel
theorem dX12_seenOf_56 : decode cX12_seenOf 56 = .ok (.aload_n 0, 1) := by decide +kernel
theorem dX12_seenOf_57 : decode cX12_seenOf 57 = .ok (.invokevirtual 68, 3) := by decide +kernel
theorem dX12_seenOf_60 : decode cX12_seenOf 60 = .ok (.if_icmp .ge 40, 3) := by decide +kernel
theorem dX12_seenOf_63 : decode cX12_seenOf 63 = .ok (.iload 4, 2) := by decide +kernel
theorem dX12_seenOf_65 : decode cX12_seenOf 65 = .ok (.iload 5, 2) := by decide +kernel
theorem dX12_seenOf_67 : decode cX12_seenOf 67 = .ok (.i2l, 1) := by decide +kernel
theorem dX12_seenOf_68 : decode cX12_seenOf 68 = .ok (.invokestatic 166, 3) := by decide +kernel
theorem dX12_seenOf_71 : decode cX12_seenOf 71 = .ok (.iload_n 3, 1) := by decide +kernel
theorem dX12_seenOf_72 : decode cX12_seenOf 72 = .ok (.if_icmp .ne 18, 3) := by decide +kernel
theorem dX12_seenOf_75 : decode cX12_seenOf 75 = .ok (.aload_n 0, 1) := by decide +kernel
theorem dX12_seenOf_76 : decode cX12_seenOf 76 = .ok (.iload 5, 2) := by decide +kernel
theorem dX12_seenOf_78 : decode cX12_seenOf 78 = .ok (.iload_n 2, 1) := by decide +kernel
theorem dX12_seenOf_79 : decode cX12_seenOf 79 = .ok (.invokevirtual 267, 3) := by decide +kernel
theorem dX12_seenOf_82 : decode cX12_seenOf 82 = .ok (.iload_n 1, 1) := by decide +kernel
theorem dX12_seenOf_83 : decode cX12_seenOf 83 = .ok (.if_icmp .ne 7, 3) := by decide +kernel
theorem dX12_seenOf_86 : decode cX12_seenOf 86 = .ok (.iconst 1, 1) := by decide +kernel
theorem dX12_seenOf_87 : decode cX12_seenOf 87 = .ok (.goto 4, 3) := by decide +kernel
theorem dX12_seenOf_90 : decode cX12_seenOf 90 = .ok (.iconst 0, 1) := by decide +kernel
theorem dX12_seenOf_91 : decode cX12_seenOf 91 = .ok (.iadd, 1) := by decide +kernel
theorem dX12_seenOf_92 : decode cX12_seenOf 92 = .ok (.istore 4, 2) := by decide +kernel
theorem dX12_seenOf_94 : decode cX12_seenOf 94 = .ok (.iinc 5 1, 3) := by decide +kernel
theorem dX12_seenOf_97 : decode cX12_seenOf 97 = .ok (.goto (-43), 3) := by decide +kernel
theorem dX12_seenOf_100 : decode cX12_seenOf 100 = .ok (.iload 4, 2) := by decide +kernel
theorem dX12_seenOf_102 : decode cX12_seenOf 102 = .ok (.ireturn, 1) := by decide +kernel
theorem dX12_seen_0 : decode cX12_seen 0 = .ok (.iload_n 1, 1) := by decide +kernel
theorem dX12_seen_1 : decode cX12_seen 1 = .ok (.i2l, 1) := by decide +kernel
theorem dX12_seen_2 : decode cX12_seen 2 = .ok (.lconst 0, 1) := by decide +kernel
theorem dX12_seen_3 : decode cX12_seen 3 = .ok (.aload_n 0, 1) := by decide +kernel
theorem dX12_seen_4 : decode cX12_seen 4 = .ok (.invokevirtual 276, 3) := by decide +kernel
theorem dX12_seen_7 : decode cX12_seen 7 = .ok (.iconst 1, 1) := by decide +kernel
theorem dX12_seen_8 : decode cX12_seen 8 = .ok (.isub, 1) := by decide +kernel
theorem dX12_seen_9 : decode cX12_seen 9 = .ok (.i2l, 1) := by decide +kernel
theorem dX12_seen_10 : decode cX12_seen 10 = .ok (.invokestatic 72, 3) := by decide +kernel
theorem dX12_seen_13 : decode cX12_seen 13 = .ok (.ifCond .eq 11, 3) := by decide +kernel
theorem dX12_seen_16 : decode cX12_seen 16 = .ok (.aload_n 0, 1) := by decide +kernel
theorem dX12_seen_17 : decode cX12_seen 17 = .ok (.iload_n 1, 1) := by decide +kernel
theorem dX12_seen_18 : decode cX12_seen 18 = .ok (.invokevirtual 279, 3) := by decide +kernel
theorem dX12_seen_21 : decode cX12_seen 21 = .ok (.goto 4, 3) := by decide +kernel
theorem dX12_seen_24 : decode cX12_seen 24 = .ok (.iconst (-1), 1) := by decide +kernel
theorem dX12_seen_25 : decode cX12_seen 25 = .ok (.ireturn, 1) := by decide +kernel
theorem dX12_change_0 : decode cX12_change 0 = .ok (.iload_n 0, 1) := by decide +kernel
theorem dX12_change_1 : decode cX12_change 1 = .ok (.iconst 1, 1) := by decide +kernel
theorem dX12_change_2 : decode cX12_change 2 = .ok (.if_icmp .ne 8, 3) := by decide +kernel
theorem dX12_change_5 : decode cX12_change 5 = .ok (.iload_n 1, 1) := by decide +kernel
theorem dX12_change_6 : decode cX12_change 6 = .ok (.iconst 1, 1) := by decide +kernel
theorem dX12_change_7 : decode cX12_change 7 = .ok (.if_icmp .ne 12, 3) := by decide +kernel
theorem dX12_change_10 : decode cX12_change 10 = .ok (.iload_n 0, 1) := by decide +kernel
theorem dX12_change_11 : decode cX12_change 11 = .ok (.iconst 2, 1) := by decide +kernel
theorem dX12_change_12 : decode cX12_change 12 = .ok (.if_icmp .ne 11, 3) := by decide +kernel
theorem dX12_change_15 : decode cX12_change 15 = .ok (.iload_n 1, 1) := by decide +kernel
theorem dX12_change_16 : decode cX12_change 16 = .ok (.ifCond .ne 7, 3) := by decide +kernel
theorem dX12_change_19 : decode cX12_change 19 = .ok (.iconst 1, 1) := by decide +kernel
theorem dX12_change_20 : decode cX12_change 20 = .ok (.goto 4, 3) := by decide +kernel
theorem dX12_change_23 : decode cX12_change 23 = .ok (.iconst 0, 1) := by decide +kernel
theorem dX12_change_24 : decode cX12_change 24 = .ok (.ireturn, 1) := by decide +kernel
theorem dX12_behind_0 : decode cX12_behind 0 = .ok (.iload_n 1, 1) := by decide +kernel
theorem dX12_behind_1 : decode cX12_behind 1 = .ok (.iconst 1, 1) := by decide +kernel
theorem dX12_behind_2 : decode cX12_behind 2 = .ok (.iadd, 1) := by decide +kernel
theorem dX12_behind_3 : decode cX12_behind 3 = .ok (.aload_n 0, 1) := by decide +kernel
theorem dX12_behind_4 : decode cX12_behind 4 = .ok (.invokevirtual 139, 3) := by decide +kernel
theorem dX12_behind_7 : decode cX12_behind 7 = .ok (.if_icmp .ge 9, 3) := by decide +kernel
theorem dX12_behind_10 : decode cX12_behind 10 = .ok (.iload_n 1, 1) := by decide +kernel
theorem dX12_behind_11 : decode cX12_behind 11 = .ok (.iconst 1, 1) := by decide +kernel
theorem dX12_behind_12 : decode cX12_behind 12 = .ok (.iadd, 1) := by decide +kernel
theorem dX12_behind_13 : decode cX12_behind 13 = .ok (.goto 4, 3) := by decide +kernel
theorem dX12_behind_16 : decode cX12_behind 16 = .ok (.iconst 0, 1) := by decide +kernel
theorem dX12_behind_17 : decode cX12_behind 17 = .ok (.ireturn, 1) := by decide +kernel
theorem dX12_wordSeen_0 : decode cX12_wordSeen 0 = .ok (.iconst 0, 1) := by decide +kernel
theorem dX12_wordSeen_1 : decode cX12_wordSeen 1 = .ok (.istore_n 2, 1) := by decide +kernel
theorem dX12_wordSeen_2 : decode cX12_wordSeen 2 = .ok (.iconst 0, 1) := by decide +kernel
theorem dX12_wordSeen_3 : decode cX12_wordSeen 3 = .ok (.istore_n 3, 1) := by decide +kernel
theorem dX12_wordSeen_4 : decode cX12_wordSeen 4 = .ok (.iload_n 3, 1) := by decide +kernel
theorem dX12_wordSeen_5 : decode cX12_wordSeen 5 = .ok (.aload_n 0, 1) := by decide +kernel
theorem dX12_wordSeen_6 : decode cX12_wordSeen 6 = .ok (.invokevirtual 139, 3) := by decide +kernel
theorem dX12_wordSeen_9 : decode cX12_wordSeen 9 = .ok (.if_icmp .ge 110, 3) := by decide +kernel
theorem dX12_wordSeen_12 : decode cX12_wordSeen 12 = .ok (.aload_n 0, 1) := by decide +kernel
theorem dX12_wordSeen_13 : decode cX12_wordSeen 13 = .ok (.iload_n 1, 1) := by decide +kernel
theorem dX12_wordSeen_14 : decode cX12_wordSeen 14 = .ok (.invokevirtual 270, 3) := by decide +kernel
theorem dX12_wordSeen_17 : decode cX12_wordSeen 17 = .ok (.aload_n 0, 1) := by decide +kernel
theorem dX12_wordSeen_18 : decode cX12_wordSeen 18 = .ok (.iload_n 3, 1) := by decide +kernel
theorem dX12_wordSeen_19 : decode cX12_wordSeen 19 = .ok (.invokevirtual 282, 3) := by decide +kernel
theorem dX12_wordSeen_22 : decode cX12_wordSeen 22 = .ok (.istore 4, 2) := by decide +kernel
theorem dX12_wordSeen_24 : decode cX12_wordSeen 24 = .ok (.aload_n 0, 1) := by decide +kernel
theorem dX12_wordSeen_25 : decode cX12_wordSeen 25 = .ok (.getfield 56, 3) := by decide +kernel
theorem dX12_wordSeen_28 : decode cX12_wordSeen 28 = .ok (.iload 4, 2) := by decide +kernel
theorem dX12_wordSeen_30 : decode cX12_wordSeen 30 = .ok (.iaload, 1) := by decide +kernel
theorem dX12_wordSeen_31 : decode cX12_wordSeen 31 = .ok (.istore 5, 2) := by decide +kernel
theorem dX12_wordSeen_33 : decode cX12_wordSeen 33 = .ok (.aload_n 0, 1) := by decide +kernel
theorem dX12_wordSeen_34 : decode cX12_wordSeen 34 = .ok (.getfield 56, 3) := by decide +kernel
theorem dX12_wordSeen_37 : decode cX12_wordSeen 37 = .ok (.iload_n 3, 1) := by decide +kernel
theorem dX12_wordSeen_38 : decode cX12_wordSeen 38 = .ok (.iaload, 1) := by decide +kernel
theorem dX12_wordSeen_39 : decode cX12_wordSeen 39 = .ok (.istore 6, 2) := by decide +kernel
theorem dX12_wordSeen_41 : decode cX12_wordSeen 41 = .ok (.iload 5, 2) := by decide +kernel
theorem dX12_wordSeen_43 : decode cX12_wordSeen 43 = .ok (.iload 6, 2) := by decide +kernel
theorem dX12_wordSeen_45 : decode cX12_wordSeen 45 = .ok (.invokestatic 285, 3) := by decide +kernel
theorem dX12_wordSeen_48 : decode cX12_wordSeen 48 = .ok (.ifCond .eq 65, 3) := by decide +kernel
theorem dX12_wordSeen_51 : decode cX12_wordSeen 51 = .ok (.aload_n 0, 1) := by decide +kernel
theorem dX12_wordSeen_52 : decode cX12_wordSeen 52 = .ok (.getfield 56, 3) := by decide +kernel
theorem dX12_wordSeen_55 : decode cX12_wordSeen 55 = .ok (.iload_n 3, 1) := by decide +kernel
theorem dX12_wordSeen_56 : decode cX12_wordSeen 56 = .ok (.iload 5, 2) := by decide +kernel
theorem dX12_wordSeen_58 : decode cX12_wordSeen 58 = .ok (.iastore, 1) := by decide +kernel
theorem dX12_wordSeen_59 : decode cX12_wordSeen 59 = .ok (.aload_n 0, 1) := by decide +kernel
theorem dX12_wordSeen_60 : decode cX12_wordSeen 60 = .ok (.getfield 56, 3) := by decide +kernel
theorem dX12_wordSeen_63 : decode cX12_wordSeen 63 = .ok (.iload 4, 2) := by decide +kernel
theorem dX12_wordSeen_65 : decode cX12_wordSeen 65 = .ok (.iload 6, 2) := by decide +kernel
theorem dX12_wordSeen_67 : decode cX12_wordSeen 67 = .ok (.iastore, 1) := by decide +kernel
theorem dX12_wordSeen_68 : decode cX12_wordSeen 68 = .ok (.iconst 0, 1) := by decide +kernel
theorem dX12_wordSeen_69 : decode cX12_wordSeen 69 = .ok (.istore 7, 2) := by decide +kernel
theorem dX12_wordSeen_71 : decode cX12_wordSeen 71 = .ok (.aload_n 0, 1) := by decide +kernel
theorem dX12_wordSeen_72 : decode cX12_wordSeen 72 = .ok (.invokevirtual 139, 3) := by decide +kernel
theorem dX12_wordSeen_75 : decode cX12_wordSeen 75 = .ok (.iconst 1, 1) := by decide +kernel
theorem dX12_wordSeen_76 : decode cX12_wordSeen 76 = .ok (.isub, 1) := by decide +kernel
theorem dX12_wordSeen_77 : decode cX12_wordSeen 77 = .ok (.istore 8, 2) := by decide +kernel
theorem dX12_wordSeen_79 : decode cX12_wordSeen 79 = .ok (.iload 8, 2) := by decide +kernel
theorem dX12_wordSeen_81 : decode cX12_wordSeen 81 = .ok (.ifCond .lt 23, 3) := by decide +kernel
theorem dX12_wordSeen_84 : decode cX12_wordSeen 84 = .ok (.iconst 3, 1) := by decide +kernel
theorem dX12_wordSeen_85 : decode cX12_wordSeen 85 = .ok (.iload 7, 2) := by decide +kernel
theorem dX12_wordSeen_87 : decode cX12_wordSeen 87 = .ok (.imul, 1) := by decide +kernel
theorem dX12_wordSeen_88 : decode cX12_wordSeen 88 = .ok (.aload_n 0, 1) := by decide +kernel
theorem dX12_wordSeen_89 : decode cX12_wordSeen 89 = .ok (.getfield 56, 3) := by decide +kernel
theorem dX12_wordSeen_92 : decode cX12_wordSeen 92 = .ok (.iload 8, 2) := by decide +kernel
theorem dX12_wordSeen_94 : decode cX12_wordSeen 94 = .ok (.iaload, 1) := by decide +kernel
theorem dX12_wordSeen_95 : decode cX12_wordSeen 95 = .ok (.iadd, 1) := by decide +kernel
theorem dX12_wordSeen_96 : decode cX12_wordSeen 96 = .ok (.istore 7, 2) := by decide +kernel
theorem dX12_wordSeen_98 : decode cX12_wordSeen 98 = .ok (.iinc 8 (-1), 3) := by decide +kernel
theorem dX12_wordSeen_101 : decode cX12_wordSeen 101 = .ok (.goto (-22), 3) := by decide +kernel
theorem dX12_wordSeen_104 : decode cX12_wordSeen 104 = .ok (.iload_n 2, 1) := by decide +kernel
theorem dX12_wordSeen_105 : decode cX12_wordSeen 105 = .ok (.aload_n 0, 1) := by decide +kernel
theorem dX12_wordSeen_106 : decode cX12_wordSeen 106 = .ok (.iload 7, 2) := by decide +kernel
theorem dX12_wordSeen_108 : decode cX12_wordSeen 108 = .ok (.invokevirtual 279, 3) := by decide +kernel
theorem dX12_wordSeen_111 : decode cX12_wordSeen 111 = .ok (.iadd, 1) := by decide +kernel
theorem dX12_wordSeen_112 : decode cX12_wordSeen 112 = .ok (.istore_n 2, 1) := by decide +kernel
theorem dX12_wordSeen_113 : decode cX12_wordSeen 113 = .ok (.iinc 3 1, 3) := by decide +kernel
theorem dX12_wordSeen_116 : decode cX12_wordSeen 116 = .ok (.goto (-112), 3) := by decide +kernel
theorem dX12_wordSeen_119 : decode cX12_wordSeen 119 = .ok (.iload_n 2, 1) := by decide +kernel
theorem dX12_wordSeen_120 : decode cX12_wordSeen 120 = .ok (.ireturn, 1) := by decide +kernel
theorem dX12_word_0 : decode cX12_word 0 = .ok (.iload_n 1, 1) := by decide +kernel
theorem dX12_word_1 : decode cX12_word 1 = .ok (.i2l, 1) := by decide +kernel
theorem dX12_word_2 : decode cX12_word 2 = .ok (.lconst 0, 1) := by decide +kernel
theorem dX12_word_3 : decode cX12_word 3 = .ok (.aload_n 0, 1) := by decide +kernel
theorem dX12_word_4 : decode cX12_word 4 = .ok (.invokevirtual 276, 3) := by decide +kernel
theorem dX12_word_7 : decode cX12_word 7 = .ok (.iconst 1, 1) := by decide +kernel
theorem dX12_word_8 : decode cX12_word 8 = .ok (.isub, 1) := by decide +kernel
theorem dX12_word_9 : decode cX12_word 9 = .ok (.i2l, 1) := by decide +kernel
theorem dX12_word_10 : decode cX12_word 10 = .ok (.invokestatic 72, 3) := by decide +kernel
theorem dX12_word_13 : decode cX12_word 13 = .ok (.ifCond .eq 34, 3) := by decide +kernel
theorem dX12_word_16 : decode cX12_word 16 = .ok (.iload_n 2, 1) := by decide +kernel
theorem dX12_word_17 : decode cX12_word 17 = .ok (.i2l, 1) := by decide +kernel
theorem dX12_word_18 : decode cX12_word 18 = .ok (.lconst 0, 1) := by decide +kernel
theorem dX12_word_19 : decode cX12_word 19 = .ok (.ldc2_w 288, 3) := by decide +kernel
theorem dX12_word_22 : decode cX12_word 22 = .ok (.invokestatic 72, 3) := by decide +kernel
theorem dX12_word_25 : decode cX12_word 25 = .ok (.ifCond .ne 24, 3) := by decide +kernel
theorem dX12_word_28 : decode cX12_word 28 = .ok (.iload_n 2, 1) := by decide +kernel
theorem dX12_word_29 : decode cX12_word 29 = .ok (.i2l, 1) := by decide +kernel
theorem dX12_word_30 : decode cX12_word 30 = .ok (.ldc2_w 222, 3) := by decide +kernel
theorem dX12_word_33 : decode cX12_word 33 = .ok (.bipush 9, 2) := by decide +kernel
theorem dX12_word_35 : decode cX12_word 35 = .ok (.aload_n 0, 1) := by decide +kernel
theorem dX12_word_36 : decode cX12_word 36 = .ok (.invokevirtual 139, 3) := by decide +kernel
theorem dX12_word_39 : decode cX12_word 39 = .ok (.iadd, 1) := by decide +kernel
theorem dX12_word_40 : decode cX12_word 40 = .ok (.i2l, 1) := by decide +kernel
theorem dX12_word_41 : decode cX12_word 41 = .ok (.invokestatic 72, 3) := by decide +kernel
theorem dX12_word_44 : decode cX12_word 44 = .ok (.ifCond .ne 5, 3) := by decide +kernel
theorem dX12_word_47 : decode cX12_word 47 = .ok (.iconst (-1), 1) := by decide +kernel
theorem dX12_word_48 : decode cX12_word 48 = .ok (.ireturn, 1) := by decide +kernel
theorem dX12_word_49 : decode cX12_word 49 = .ok (.iload_n 2, 1) := by decide +kernel
theorem dX12_word_50 : decode cX12_word 50 = .ok (.iconst 1, 1) := by decide +kernel
theorem dX12_word_51 : decode cX12_word 51 = .ok (.if_icmp .ne 9, 3) := by decide +kernel
theorem dX12_word_54 : decode cX12_word 54 = .ok (.aload_n 0, 1) := by decide +kernel
theorem dX12_word_55 : decode cX12_word 55 = .ok (.iload_n 1, 1) := by decide +kernel
theorem dX12_word_56 : decode cX12_word 56 = .ok (.invokevirtual 290, 3) := by decide +kernel
theorem dX12_word_59 : decode cX12_word 59 = .ok (.ireturn, 1) := by decide +kernel
theorem dX12_word_60 : decode cX12_word 60 = .ok (.aload_n 0, 1) := by decide +kernel
theorem dX12_word_61 : decode cX12_word 61 = .ok (.iload_n 1, 1) := by decide +kernel
theorem dX12_word_62 : decode cX12_word 62 = .ok (.invokevirtual 270, 3) := by decide +kernel
theorem dX12_word_65 : decode cX12_word 65 = .ok (.iconst 0, 1) := by decide +kernel
theorem dX12_word_66 : decode cX12_word 66 = .ok (.istore_n 3, 1) := by decide +kernel
theorem dX12_word_67 : decode cX12_word 67 = .ok (.iconst 0, 1) := by decide +kernel
theorem dX12_word_68 : decode cX12_word 68 = .ok (.istore 4, 2) := by decide +kernel
theorem dX12_word_70 : decode cX12_word 70 = .ok (.iload 4, 2) := by decide +kernel
theorem dX12_word_72 : decode cX12_word 72 = .ok (.aload_n 0, 1) := by decide +kernel
theorem dX12_word_73 : decode cX12_word 73 = .ok (.invokevirtual 139, 3) := by decide +kernel
theorem dX12_word_76 : decode cX12_word 76 = .ok (.if_icmp .ge 41, 3) := by decide +kernel
theorem dX12_word_79 : decode cX12_word 79 = .ok (.iload_n 3, 1) := by decide +kernel
theorem dX12_word_80 : decode cX12_word 80 = .ok (.aload_n 0, 1) := by decide +kernel
theorem dX12_word_81 : decode cX12_word 81 = .ok (.getfield 56, 3) := by decide +kernel
theorem dX12_word_84 : decode cX12_word 84 = .ok (.iload 4, 2) := by decide +kernel
theorem dX12_word_86 : decode cX12_word 86 = .ok (.iaload, 1) := by decide +kernel
theorem dX12_word_87 : decode cX12_word 87 = .ok (.aload_n 0, 1) := by decide +kernel
theorem dX12_word_88 : decode cX12_word 88 = .ok (.getfield 56, 3) := by decide +kernel
theorem dX12_word_91 : decode cX12_word 91 = .ok (.aload_n 0, 1) := by decide +kernel
theorem dX12_word_92 : decode cX12_word 92 = .ok (.iload 4, 2) := by decide +kernel
theorem dX12_word_94 : decode cX12_word 94 = .ok (.invokevirtual 282, 3) := by decide +kernel
theorem dX12_word_97 : decode cX12_word 97 = .ok (.iaload, 1) := by decide +kernel
theorem dX12_word_98 : decode cX12_word 98 = .ok (.invokestatic 285, 3) := by decide +kernel
theorem dX12_word_101 : decode cX12_word 101 = .ok (.ifCond .eq 7, 3) := by decide +kernel
theorem dX12_word_104 : decode cX12_word 104 = .ok (.iconst 1, 1) := by decide +kernel
theorem dX12_word_105 : decode cX12_word 105 = .ok (.goto 4, 3) := by decide +kernel
theorem dX12_word_108 : decode cX12_word 108 = .ok (.iconst 0, 1) := by decide +kernel
theorem dX12_word_109 : decode cX12_word 109 = .ok (.iadd, 1) := by decide +kernel
theorem dX12_word_110 : decode cX12_word 110 = .ok (.istore_n 3, 1) := by decide +kernel
theorem dX12_word_111 : decode cX12_word 111 = .ok (.iinc 4 1, 3) := by decide +kernel
theorem dX12_word_114 : decode cX12_word 114 = .ok (.goto (-44), 3) := by decide +kernel
theorem dX12_word_117 : decode cX12_word 117 = .ok (.iload_n 2, 1) := by decide +kernel
theorem dX12_word_118 : decode cX12_word 118 = .ok (.ifCond .ne 7, 3) := by decide +kernel
theorem dX12_word_121 : decode cX12_word 121 = .ok (.iload_n 3, 1) := by decide +kernel
theorem dX12_word_122 : decode cX12_word 122 = .ok (.goto 38, 3) := by decide +kernel
theorem dX12_word_125 : decode cX12_word 125 = .ok (.iload_n 2, 1) := by decide +kernel
theorem dX12_word_126 : decode cX12_word 126 = .ok (.iconst 2, 1) := by decide +kernel
theorem dX12_word_127 : decode cX12_word 127 = .ok (.if_icmp .ne 11, 3) := by decide +kernel
theorem dX12_word_130 : decode cX12_word 130 = .ok (.aload_n 0, 1) := by decide +kernel
theorem dX12_word_131 : decode cX12_word 131 = .ok (.iconst 1, 1) := by decide +kernel
theorem dX12_word_132 : decode cX12_word 132 = .ok (.invokevirtual 273, 3) := by decide +kernel
theorem dX12_word_135 : decode cX12_word 135 = .ok (.goto 25, 3) := by decide +kernel
theorem dX12_word_138 : decode cX12_word 138 = .ok (.iload_n 2, 1) := by decide +kernel
theorem dX12_word_139 : decode cX12_word 139 = .ok (.iconst 3, 1) := by decide +kernel
theorem dX12_word_140 : decode cX12_word 140 = .ok (.if_icmp .ne 11, 3) := by decide +kernel
theorem dX12_word_143 : decode cX12_word 143 = .ok (.aload_n 0, 1) := by decide +kernel
theorem dX12_word_144 : decode cX12_word 144 = .ok (.iconst 2, 1) := by decide +kernel
theorem dX12_word_145 : decode cX12_word 145 = .ok (.invokevirtual 273, 3) := by decide +kernel
theorem dX12_word_148 : decode cX12_word 148 = .ok (.goto 12, 3) := by decide +kernel
theorem dX12_word_151 : decode cX12_word 151 = .ok (.aload_n 0, 1) := by decide +kernel
theorem dX12_word_152 : decode cX12_word 152 = .ok (.getfield 56, 3) := by decide +kernel
theorem dX12_word_155 : decode cX12_word 155 = .ok (.iload_n 2, 1) := by decide +kernel
theorem dX12_word_156 : decode cX12_word 156 = .ok (.bipush 10, 2) := by decide +kernel
theorem dX12_word_158 : decode cX12_word 158 = .ok (.isub, 1) := by decide +kernel
theorem dX12_word_159 : decode cX12_word 159 = .ok (.iaload, 1) := by decide +kernel
theorem dX12_word_160 : decode cX12_word 160 = .ok (.ireturn, 1) := by decide +kernel
theorem dX12_sheet_0 : decode cX12_sheet 0 = .ok (.iload_n 1, 1) := by decide +kernel
theorem dX12_sheet_1 : decode cX12_sheet 1 = .ok (.i2l, 1) := by decide +kernel
theorem dX12_sheet_2 : decode cX12_sheet 2 = .ok (.lconst 0, 1) := by decide +kernel
theorem dX12_sheet_3 : decode cX12_sheet 3 = .ok (.ldc2_w 288, 3) := by decide +kernel
theorem dX12_sheet_6 : decode cX12_sheet 6 = .ok (.invokestatic 72, 3) := by decide +kernel
theorem dX12_sheet_9 : decode cX12_sheet 9 = .ok (.ifCond .eq 21, 3) := by decide +kernel
theorem dX12_sheet_12 : decode cX12_sheet 12 = .ok (.iload_n 2, 1) := by decide +kernel
theorem dX12_sheet_13 : decode cX12_sheet 13 = .ok (.i2l, 1) := by decide +kernel
theorem dX12_sheet_14 : decode cX12_sheet 14 = .ok (.lconst 0, 1) := by decide +kernel
theorem dX12_sheet_15 : decode cX12_sheet 15 = .ok (.ldc2_w 176, 3) := by decide +kernel
theorem dX12_sheet_18 : decode cX12_sheet 18 = .ok (.invokestatic 72, 3) := by decide +kernel
theorem dX12_sheet_21 : decode cX12_sheet 21 = .ok (.ifCond .eq 9, 3) := by decide +kernel
theorem dX12_sheet_24 : decode cX12_sheet 24 = .ok (.iload_n 3, 1) := by decide +kernel
theorem dX12_sheet_25 : decode cX12_sheet 25 = .ok (.bipush 64, 2) := by decide +kernel
theorem dX12_sheet_27 : decode cX12_sheet 27 = .ok (.if_icmp .le 5, 3) := by decide +kernel
theorem dX12_sheet_30 : decode cX12_sheet 30 = .ok (.iconst (-1), 1) := by decide +kernel
theorem dX12_sheet_31 : decode cX12_sheet 31 = .ok (.ireturn, 1) := by decide +kernel
theorem dX12_sheet_32 : decode cX12_sheet 32 = .ok (.iload_n 3, 1) := by decide +kernel
theorem dX12_sheet_33 : decode cX12_sheet 33 = .ok (.ifCond .ge 6, 3) := by decide +kernel
theorem dX12_sheet_36 : decode cX12_sheet 36 = .ok (.bipush (-14), 2) := by decide +kernel
theorem dX12_sheet_38 : decode cX12_sheet 38 = .ok (.ireturn, 1) := by decide +kernel
theorem dX12_sheet_39 : decode cX12_sheet 39 = .ok (.aload_n 0, 1) := by decide +kernel
theorem dX12_sheet_40 : decode cX12_sheet 40 = .ok (.getfield 59, 3) := by decide +kernel
theorem dX12_sheet_43 : decode cX12_sheet 43 = .ok (.iload_n 1, 1) := by decide +kernel
theorem dX12_sheet_44 : decode cX12_sheet 44 = .ok (.iload_n 2, 1) := by decide +kernel
theorem dX12_sheet_45 : decode cX12_sheet 45 = .ok (.iastore, 1) := by decide +kernel
theorem dX12_sheet_46 : decode cX12_sheet 46 = .ok (.aload_n 0, 1) := by decide +kernel
theorem dX12_sheet_47 : decode cX12_sheet 47 = .ok (.getfield 62, 3) := by decide +kernel
theorem dX12_sheet_50 : decode cX12_sheet 50 = .ok (.iload_n 1, 1) := by decide +kernel
theorem dX12_sheet_51 : decode cX12_sheet 51 = .ok (.iload_n 3, 1) := by decide +kernel
theorem dX12_sheet_52 : decode cX12_sheet 52 = .ok (.iastore, 1) := by decide +kernel
theorem dX12_sheet_53 : decode cX12_sheet 53 = .ok (.iconst 0, 1) := by decide +kernel
theorem dX12_sheet_54 : decode cX12_sheet 54 = .ok (.istore 4, 2) := by decide +kernel
theorem dX12_sheet_56 : decode cX12_sheet 56 = .ok (.iload 4, 2) := by decide +kernel
theorem dX12_sheet_58 : decode cX12_sheet 58 = .ok (.bipush 64, 2) := by decide +kernel
theorem dX12_sheet_60 : decode cX12_sheet 60 = .ok (.if_icmp .ge 22, 3) := by decide +kernel
theorem dX12_sheet_63 : decode cX12_sheet 63 = .ok (.aload_n 0, 1) := by decide +kernel
theorem dX12_sheet_64 : decode cX12_sheet 64 = .ok (.getfield 65, 3) := by decide +kernel
theorem dX12_sheet_67 : decode cX12_sheet 67 = .ok (.bipush 64, 2) := by decide +kernel
theorem dX12_sheet_69 : decode cX12_sheet 69 = .ok (.iload_n 1, 1) := by decide +kernel
theorem dX12_sheet_70 : decode cX12_sheet 70 = .ok (.imul, 1) := by decide +kernel
theorem dX12_sheet_71 : decode cX12_sheet 71 = .ok (.iload 4, 2) := by decide +kernel
theorem dX12_sheet_73 : decode cX12_sheet 73 = .ok (.iadd, 1) := by decide +kernel
theorem dX12_sheet_74 : decode cX12_sheet 74 = .ok (.iconst 0, 1) := by decide +kernel
theorem dX12_sheet_75 : decode cX12_sheet 75 = .ok (.iastore, 1) := by decide +kernel
theorem dX12_sheet_76 : decode cX12_sheet 76 = .ok (.iinc 4 1, 3) := by decide +kernel
theorem dX12_sheet_79 : decode cX12_sheet 79 = .ok (.goto (-23), 3) := by decide +kernel
theorem dX12_sheet_82 : decode cX12_sheet 82 = .ok (.iconst 1, 1) := by decide +kernel
theorem dX12_sheet_83 : decode cX12_sheet 83 = .ok (.ireturn, 1) := by decide +kernel
theorem dX12_lay_0 : decode cX12_lay 0 = .ok (.iload_n 1, 1) := by decide +kernel
theorem dX12_lay_1 : decode cX12_lay 1 = .ok (.i2l, 1) := by decide +kernel
theorem dX12_lay_2 : decode cX12_lay 2 = .ok (.lconst 0, 1) := by decide +kernel
theorem dX12_lay_3 : decode cX12_lay 3 = .ok (.ldc2_w 288, 3) := by decide +kernel
theorem dX12_lay_6 : decode cX12_lay 6 = .ok (.invokestatic 72, 3) := by decide +kernel
theorem dX12_lay_9 : decode cX12_lay 9 = .ok (.ifCond .ne 5, 3) := by decide +kernel
theorem dX12_lay_12 : decode cX12_lay 12 = .ok (.iconst (-1), 1) := by decide +kernel
theorem dX12_lay_13 : decode cX12_lay 13 = .ok (.ireturn, 1) := by decide +kernel
theorem dX12_lay_14 : decode cX12_lay 14 = .ok (.aload_n 0, 1) := by decide +kernel
theorem dX12_lay_15 : decode cX12_lay 15 = .ok (.getfield 59, 3) := by decide +kernel
theorem dX12_lay_18 : decode cX12_lay 18 = .ok (.iload_n 1, 1) := by decide +kernel
theorem dX12_lay_19 : decode cX12_lay 19 = .ok (.iaload, 1) := by decide +kernel
theorem dX12_lay_20 : decode cX12_lay 20 = .ok (.bipush (-4), 2) := by decide +kernel
theorem dX12_lay_22 : decode cX12_lay 22 = .ok (.if_icmp .ne 6, 3) := by decide +kernel
theorem dX12_lay_25 : decode cX12_lay 25 = .ok (.bipush (-11), 2) := by decide +kernel
theorem dX12_lay_27 : decode cX12_lay 27 = .ok (.ireturn, 1) := by decide +kernel
theorem dX12_lay_28 : decode cX12_lay 28 = .ok (.iload_n 2, 1) := by decide +kernel
theorem dX12_lay_29 : decode cX12_lay 29 = .ok (.i2l, 1) := by decide +kernel
theorem dX12_lay_30 : decode cX12_lay 30 = .ok (.lconst 0, 1) := by decide +kernel
theorem dX12_lay_31 : decode cX12_lay 31 = .ok (.aload_n 0, 1) := by decide +kernel
theorem dX12_lay_32 : decode cX12_lay 32 = .ok (.getfield 62, 3) := by decide +kernel
theorem dX12_lay_35 : decode cX12_lay 35 = .ok (.iload_n 1, 1) := by decide +kernel
theorem dX12_lay_36 : decode cX12_lay 36 = .ok (.iaload, 1) := by decide +kernel
theorem dX12_lay_37 : decode cX12_lay 37 = .ok (.iconst 1, 1) := by decide +kernel
theorem dX12_lay_38 : decode cX12_lay 38 = .ok (.isub, 1) := by decide +kernel
theorem dX12_lay_39 : decode cX12_lay 39 = .ok (.i2l, 1) := by decide +kernel
theorem dX12_lay_40 : decode cX12_lay 40 = .ok (.invokestatic 72, 3) := by decide +kernel
theorem dX12_lay_43 : decode cX12_lay 43 = .ok (.ifCond .ne 6, 3) := by decide +kernel
theorem dX12_lay_46 : decode cX12_lay 46 = .ok (.bipush (-12), 2) := by decide +kernel
theorem dX12_lay_48 : decode cX12_lay 48 = .ok (.ireturn, 1) := by decide +kernel
theorem dX12_lay_49 : decode cX12_lay 49 = .ok (.aload_n 0, 1) := by decide +kernel
theorem dX12_lay_50 : decode cX12_lay 50 = .ok (.getfield 65, 3) := by decide +kernel
theorem dX12_lay_53 : decode cX12_lay 53 = .ok (.bipush 64, 2) := by decide +kernel
theorem dX12_lay_55 : decode cX12_lay 55 = .ok (.iload_n 1, 1) := by decide +kernel
theorem dX12_lay_56 : decode cX12_lay 56 = .ok (.imul, 1) := by decide +kernel
theorem dX12_lay_57 : decode cX12_lay 57 = .ok (.iload_n 2, 1) := by decide +kernel
theorem dX12_lay_58 : decode cX12_lay 58 = .ok (.iadd, 1) := by decide +kernel
theorem dX12_lay_59 : decode cX12_lay 59 = .ok (.aload_n 0, 1) := by decide +kernel
theorem dX12_lay_60 : decode cX12_lay 60 = .ok (.getfield 59, 3) := by decide +kernel
theorem dX12_lay_63 : decode cX12_lay 63 = .ok (.iload_n 1, 1) := by decide +kernel
theorem dX12_lay_64 : decode cX12_lay 64 = .ok (.iaload, 1) := by decide +kernel
theorem dX12_lay_65 : decode cX12_lay 65 = .ok (.ifCond .ne 13, 3) := by decide +kernel
theorem dX12_lay_68 : decode cX12_lay 68 = .ok (.iload_n 3, 1) := by decide +kernel
theorem dX12_lay_69 : decode cX12_lay 69 = .ok (.bipush 24, 2) := by decide +kernel
theorem dX12_lay_71 : decode cX12_lay 71 = .ok (.ishl, 1) := by decide +kernel
theorem dX12_lay_72 : decode cX12_lay 72 = .ok (.bipush 24, 2) := by decide +kernel
theorem dX12_lay_74 : decode cX12_lay 74 = .ok (.ishr, 1) := by decide +kernel
theorem dX12_lay_75 : decode cX12_lay 75 = .ok (.goto 24, 3) := by decide +kernel
theorem dX12_lay_78 : decode cX12_lay 78 = .ok (.aload_n 0, 1) := by decide +kernel
theorem dX12_lay_79 : decode cX12_lay 79 = .ok (.getfield 59, 3) := by decide +kernel
theorem dX12_lay_82 : decode cX12_lay 82 = .ok (.iload_n 1, 1) := by decide +kernel
theorem dX12_lay_83 : decode cX12_lay 83 = .ok (.iaload, 1) := by decide +kernel
theorem dX12_lay_84 : decode cX12_lay 84 = .ok (.iconst 1, 1) := by decide +kernel
theorem dX12_lay_85 : decode cX12_lay 85 = .ok (.if_icmp .ne 13, 3) := by decide +kernel
theorem dX12_lay_88 : decode cX12_lay 88 = .ok (.iload_n 3, 1) := by decide +kernel
theorem dX12_lay_89 : decode cX12_lay 89 = .ok (.bipush 16, 2) := by decide +kernel
theorem dX12_lay_91 : decode cX12_lay 91 = .ok (.ishl, 1) := by decide +kernel
theorem dX12_lay_92 : decode cX12_lay 92 = .ok (.bipush 16, 2) := by decide +kernel
theorem dX12_lay_94 : decode cX12_lay 94 = .ok (.ishr, 1) := by decide +kernel
theorem dX12_lay_95 : decode cX12_lay 95 = .ok (.goto 4, 3) := by decide +kernel
theorem dX12_lay_98 : decode cX12_lay 98 = .ok (.iload_n 3, 1) := by decide +kernel
theorem dX12_lay_99 : decode cX12_lay 99 = .ok (.iastore, 1) := by decide +kernel
theorem dX12_lay_100 : decode cX12_lay 100 = .ok (.iconst 1, 1) := by decide +kernel
theorem dX12_lay_101 : decode cX12_lay 101 = .ok (.ireturn, 1) := by decide +kernel
theorem dX12_judge_0 : decode cX12_judge 0 = .ok (.aload_n 0, 1) := by decide +kernel
theorem dX12_judge_1 : decode cX12_judge 1 = .ok (.iload_n 1, 1) := by decide +kernel
theorem dX12_judge_2 : decode cX12_judge 2 = .ok (.invokevirtual 150, 3) := by decide +kernel
theorem dX12_judge_5 : decode cX12_judge 5 = .ok (.ifCond .eq 27, 3) := by decide +kernel
theorem dX12_judge_8 : decode cX12_judge 8 = .ok (.iload_n 2, 1) := by decide +kernel
theorem dX12_judge_9 : decode cX12_judge 9 = .ok (.i2l, 1) := by decide +kernel
theorem dX12_judge_10 : decode cX12_judge 10 = .ok (.lconst 0, 1) := by decide +kernel
theorem dX12_judge_11 : decode cX12_judge 11 = .ok (.ldc2_w 288, 3) := by decide +kernel
theorem dX12_judge_14 : decode cX12_judge 14 = .ok (.invokestatic 72, 3) := by decide +kernel
theorem dX12_judge_17 : decode cX12_judge 17 = .ok (.ifCond .eq 15, 3) := by decide +kernel
theorem dX12_judge_20 : decode cX12_judge 20 = .ok (.iload_n 3, 1) := by decide +kernel
theorem dX12_judge_21 : decode cX12_judge 21 = .ok (.i2l, 1) := by decide +kernel
theorem dX12_judge_22 : decode cX12_judge 22 = .ok (.lconst 0, 1) := by decide +kernel
theorem dX12_judge_23 : decode cX12_judge 23 = .ok (.ldc2_w 176, 3) := by decide +kernel
theorem dX12_judge_26 : decode cX12_judge 26 = .ok (.invokestatic 72, 3) := by decide +kernel
theorem dX12_judge_29 : decode cX12_judge 29 = .ok (.ifCond .ne 5, 3) := by decide +kernel
theorem dX12_judge_32 : decode cX12_judge 32 = .ok (.iconst (-1), 1) := by decide +kernel
theorem dX12_judge_33 : decode cX12_judge 33 = .ok (.ireturn, 1) := by decide +kernel
theorem dX12_judge_34 : decode cX12_judge 34 = .ok (.aload_n 0, 1) := by decide +kernel
theorem dX12_judge_35 : decode cX12_judge 35 = .ok (.invokevirtual 163, 3) := by decide +kernel
theorem dX12_judge_38 : decode cX12_judge 38 = .ok (.aload_n 0, 1) := by decide +kernel
theorem dX12_judge_39 : decode cX12_judge 39 = .ok (.iload_n 1, 1) := by decide +kernel
theorem dX12_judge_40 : decode cX12_judge 40 = .ok (.invokevirtual 170, 3) := by decide +kernel
theorem dX12_judge_43 : decode cX12_judge 43 = .ok (.ifCond .ne 6, 3) := by decide +kernel
theorem dX12_judge_46 : decode cX12_judge 46 = .ok (.bipush (-4), 2) := by decide +kernel
theorem dX12_judge_48 : decode cX12_judge 48 = .ok (.ireturn, 1) := by decide +kernel
theorem dX12_judge_49 : decode cX12_judge 49 = .ok (.aload_n 0, 1) := by decide +kernel
theorem dX12_judge_50 : decode cX12_judge 50 = .ok (.getfield 59, 3) := by decide +kernel
theorem dX12_judge_53 : decode cX12_judge 53 = .ok (.iload_n 2, 1) := by decide +kernel
theorem dX12_judge_54 : decode cX12_judge 54 = .ok (.iaload, 1) := by decide +kernel
theorem dX12_judge_55 : decode cX12_judge 55 = .ok (.iload_n 3, 1) := by decide +kernel
theorem dX12_judge_56 : decode cX12_judge 56 = .ok (.if_icmp .eq 22, 3) := by decide +kernel
theorem dX12_judge_59 : decode cX12_judge 59 = .ok (.aload_n 0, 1) := by decide +kernel
theorem dX12_judge_60 : decode cX12_judge 60 = .ok (.getfield 59, 3) := by decide +kernel
theorem dX12_judge_63 : decode cX12_judge 63 = .ok (.iload_n 2, 1) := by decide +kernel
theorem dX12_judge_64 : decode cX12_judge 64 = .ok (.iaload, 1) := by decide +kernel
theorem dX12_judge_65 : decode cX12_judge 65 = .ok (.bipush (-4), 2) := by decide +kernel
theorem dX12_judge_67 : decode cX12_judge 67 = .ok (.if_icmp .ne 8, 3) := by decide +kernel
theorem dX12_judge_70 : decode cX12_judge 70 = .ok (.bipush (-11), 2) := by decide +kernel
theorem dX12_judge_72 : decode cX12_judge 72 = .ok (.goto 5, 3) := by decide +kernel
theorem dX12_judge_75 : decode cX12_judge 75 = .ok (.bipush (-13), 2) := by decide +kernel
theorem dX12_judge_77 : decode cX12_judge 77 = .ok (.ireturn, 1) := by decide +kernel
theorem dX12_judge_78 : decode cX12_judge 78 = .ok (.aload_n 0, 1) := by decide +kernel
theorem dX12_judge_79 : decode cX12_judge 79 = .ok (.iload_n 1, 1) := by decide +kernel
theorem dX12_judge_80 : decode cX12_judge 80 = .ok (.invokevirtual 181, 3) := by decide +kernel
theorem dX12_judge_83 : decode cX12_judge 83 = .ok (.lconst 0, 1) := by decide +kernel
theorem dX12_judge_84 : decode cX12_judge 84 = .ok (.lstore 5, 2) := by decide +kernel
theorem dX12_judge_86 : decode cX12_judge 86 = .ok (.iconst 0, 1) := by decide +kernel
theorem dX12_judge_87 : decode cX12_judge 87 = .ok (.istore 7, 2) := by decide +kernel
theorem dX12_judge_89 : decode cX12_judge 89 = .ok (.iload 7, 2) := by decide +kernel
theorem dX12_judge_91 : decode cX12_judge 91 = .ok (.aload_n 0, 1) := by decide +kernel
theorem dX12_judge_92 : decode cX12_judge 92 = .ok (.getfield 178, 3) := by decide +kernel
theorem dX12_judge_95 : decode cX12_judge 95 = .ok (.if_icmp .ge 88, 3) := by decide +kernel
theorem dX12_judge_98 : decode cX12_judge 98 = .ok (.iload 4, 2) := by decide +kernel
theorem dX12_judge_100 : decode cX12_judge 100 = .ok (.i2l, 1) := by decide +kernel
theorem dX12_judge_101 : decode cX12_judge 101 = .ok (.iload 7, 2) := by decide +kernel
theorem dX12_judge_103 : decode cX12_judge 103 = .ok (.i2l, 1) := by decide +kernel
theorem dX12_judge_104 : decode cX12_judge 104 = .ok (.ladd, 1) := by decide +kernel
theorem dX12_judge_105 : decode cX12_judge 105 = .ok (.lconst 0, 1) := by decide +kernel
theorem dX12_judge_106 : decode cX12_judge 106 = .ok (.aload_n 0, 1) := by decide +kernel
theorem dX12_judge_107 : decode cX12_judge 107 = .ok (.getfield 62, 3) := by decide +kernel
theorem dX12_judge_110 : decode cX12_judge 110 = .ok (.iload_n 2, 1) := by decide +kernel
theorem dX12_judge_111 : decode cX12_judge 111 = .ok (.iaload, 1) := by decide +kernel
theorem dX12_judge_112 : decode cX12_judge 112 = .ok (.iconst 1, 1) := by decide +kernel
theorem dX12_judge_113 : decode cX12_judge 113 = .ok (.isub, 1) := by decide +kernel
theorem dX12_judge_114 : decode cX12_judge 114 = .ok (.i2l, 1) := by decide +kernel
theorem dX12_judge_115 : decode cX12_judge 115 = .ok (.invokestatic 72, 3) := by decide +kernel
theorem dX12_judge_118 : decode cX12_judge 118 = .ok (.ifCond .ne 6, 3) := by decide +kernel
theorem dX12_judge_121 : decode cX12_judge 121 = .ok (.bipush (-12), 2) := by decide +kernel
theorem dX12_judge_123 : decode cX12_judge 123 = .ok (.ireturn, 1) := by decide +kernel
theorem dX12_judge_124 : decode cX12_judge 124 = .ok (.aload_n 0, 1) := by decide +kernel
theorem dX12_judge_125 : decode cX12_judge 125 = .ok (.getfield 32, 3) := by decide +kernel
theorem dX12_judge_128 : decode cX12_judge 128 = .ok (.iload 7, 2) := by decide +kernel
theorem dX12_judge_130 : decode cX12_judge 130 = .ok (.aload_n 0, 1) := by decide +kernel
theorem dX12_judge_131 : decode cX12_judge 131 = .ok (.getfield 65, 3) := by decide +kernel
theorem dX12_judge_134 : decode cX12_judge 134 = .ok (.bipush 64, 2) := by decide +kernel
theorem dX12_judge_136 : decode cX12_judge 136 = .ok (.iload_n 2, 1) := by decide +kernel
theorem dX12_judge_137 : decode cX12_judge 137 = .ok (.imul, 1) := by decide +kernel
theorem dX12_judge_138 : decode cX12_judge 138 = .ok (.iload 4, 2) := by decide +kernel
theorem dX12_judge_140 : decode cX12_judge 140 = .ok (.iadd, 1) := by decide +kernel
theorem dX12_judge_141 : decode cX12_judge 141 = .ok (.iload 7, 2) := by decide +kernel
theorem dX12_judge_143 : decode cX12_judge 143 = .ok (.iadd, 1) := by decide +kernel
theorem dX12_judge_144 : decode cX12_judge 144 = .ok (.iaload, 1) := by decide +kernel
theorem dX12_judge_145 : decode cX12_judge 145 = .ok (.i2l, 1) := by decide +kernel
theorem dX12_judge_146 : decode cX12_judge 146 = .ok (.lastore, 1) := by decide +kernel
theorem dX12_judge_147 : decode cX12_judge 147 = .ok (.aload_n 0, 1) := by decide +kernel
theorem dX12_judge_148 : decode cX12_judge 148 = .ok (.getfield 32, 3) := by decide +kernel
theorem dX12_judge_151 : decode cX12_judge 151 = .ok (.iload 7, 2) := by decide +kernel
theorem dX12_judge_153 : decode cX12_judge 153 = .ok (.laload, 1) := by decide +kernel
theorem dX12_judge_154 : decode cX12_judge 154 = .ok (.lconst 0, 1) := by decide +kernel
theorem dX12_judge_155 : decode cX12_judge 155 = .ok (.lcmp, 1) := by decide +kernel
theorem dX12_judge_156 : decode cX12_judge 156 = .ok (.ifCond .ge 9, 3) := by decide +kernel
theorem dX12_judge_159 : decode cX12_judge 159 = .ok (.bipush (-20), 2) := by decide +kernel
theorem dX12_judge_161 : decode cX12_judge 161 = .ok (.iload 7, 2) := by decide +kernel
theorem dX12_judge_163 : decode cX12_judge 163 = .ok (.isub, 1) := by decide +kernel
theorem dX12_judge_164 : decode cX12_judge 164 = .ok (.ireturn, 1) := by decide +kernel
theorem dX12_judge_165 : decode cX12_judge 165 = .ok (.lload 5, 2) := by decide +kernel
theorem dX12_judge_167 : decode cX12_judge 167 = .ok (.aload_n 0, 1) := by decide +kernel
theorem dX12_judge_168 : decode cX12_judge 168 = .ok (.getfield 32, 3) := by decide +kernel
theorem dX12_judge_171 : decode cX12_judge 171 = .ok (.iload 7, 2) := by decide +kernel
theorem dX12_judge_173 : decode cX12_judge 173 = .ok (.laload, 1) := by decide +kernel
theorem dX12_judge_174 : decode cX12_judge 174 = .ok (.ladd, 1) := by decide +kernel
theorem dX12_judge_175 : decode cX12_judge 175 = .ok (.lstore 5, 2) := by decide +kernel
theorem dX12_judge_177 : decode cX12_judge 177 = .ok (.iinc 7 1, 3) := by decide +kernel
theorem dX12_judge_180 : decode cX12_judge 180 = .ok (.goto (-91), 3) := by decide +kernel
theorem dX12_judge_183 : decode cX12_judge 183 = .ok (.lload 5, 2) := by decide +kernel
theorem dX12_judge_185 : decode cX12_judge 185 = .ok (.lconst 0, 1) := by decide +kernel
theorem dX12_judge_186 : decode cX12_judge 186 = .ok (.lcmp, 1) := by decide +kernel
theorem dX12_judge_187 : decode cX12_judge 187 = .ok (.ifCond .le 7, 3) := by decide +kernel
theorem dX12_judge_190 : decode cX12_judge 190 = .ok (.iconst 1, 1) := by decide +kernel
theorem dX12_judge_191 : decode cX12_judge 191 = .ok (.goto 4, 3) := by decide +kernel
theorem dX12_judge_194 : decode cX12_judge 194 = .ok (.iconst 0, 1) := by decide +kernel
theorem dX12_judge_195 : decode cX12_judge 195 = .ok (.istore 7, 2) := by decide +kernel
theorem dX12_judge_197 : decode cX12_judge 197 = .ok (.iconst 0, 1) := by decide +kernel
theorem dX12_judge_198 : decode cX12_judge 198 = .ok (.istore 8, 2) := by decide +kernel
theorem dX12_judge_200 : decode cX12_judge 200 = .ok (.iload 8, 2) := by decide +kernel
theorem dX12_judge_202 : decode cX12_judge 202 = .ok (.aload_n 0, 1) := by decide +kernel
theorem dX12_judge_203 : decode cX12_judge 203 = .ok (.getfield 178, 3) := by decide +kernel
theorem dX12_judge_206 : decode cX12_judge 206 = .ok (.if_icmp .ge 109, 3) := by decide +kernel
theorem dX12_judge_209 : decode cX12_judge 209 = .ok (.lconst 0, 1) := by decide +kernel
theorem dX12_judge_210 : decode cX12_judge 210 = .ok (.lstore 9, 2) := by decide +kernel
theorem dX12_judge_212 : decode cX12_judge 212 = .ok (.iconst 0, 1) := by decide +kernel
theorem dX12_judge_213 : decode cX12_judge 213 = .ok (.istore 11, 2) := by decide +kernel
theorem dX12_judge_215 : decode cX12_judge 215 = .ok (.iload 11, 2) := by decide +kernel
theorem dX12_judge_217 : decode cX12_judge 217 = .ok (.aload_n 0, 1) := by decide +kernel
theorem dX12_judge_218 : decode cX12_judge 218 = .ok (.getfield 178, 3) := by decide +kernel
theorem dX12_judge_221 : decode cX12_judge 221 = .ok (.if_icmp .ge 69, 3) := by decide +kernel
theorem dX12_judge_224 : decode cX12_judge 224 = .ok (.lload 9, 2) := by decide +kernel
theorem dX12_judge_226 : decode cX12_judge 226 = .ok (.aload_n 0, 1) := by decide +kernel
theorem dX12_judge_227 : decode cX12_judge 227 = .ok (.getfield 32, 3) := by decide +kernel
theorem dX12_judge_230 : decode cX12_judge 230 = .ok (.iload 11, 2) := by decide +kernel
theorem dX12_judge_232 : decode cX12_judge 232 = .ok (.laload, 1) := by decide +kernel
theorem dX12_judge_233 : decode cX12_judge 233 = .ok (.aload_n 0, 1) := by decide +kernel
theorem dX12_judge_234 : decode cX12_judge 234 = .ok (.aload_n 0, 1) := by decide +kernel
theorem dX12_judge_235 : decode cX12_judge 235 = .ok (.getfield 29, 3) := by decide +kernel
theorem dX12_judge_238 : decode cX12_judge 238 = .ok (.iload 11, 2) := by decide +kernel
theorem dX12_judge_240 : decode cX12_judge 240 = .ok (.iaload, 1) := by decide +kernel
theorem dX12_judge_241 : decode cX12_judge 241 = .ok (.aload_n 0, 1) := by decide +kernel
theorem dX12_judge_242 : decode cX12_judge 242 = .ok (.getfield 29, 3) := by decide +kernel
theorem dX12_judge_245 : decode cX12_judge 245 = .ok (.iload 8, 2) := by decide +kernel
theorem dX12_judge_247 : decode cX12_judge 247 = .ok (.iaload, 1) := by decide +kernel
theorem dX12_judge_248 : decode cX12_judge 248 = .ok (.invokevirtual 154, 3) := by decide +kernel
theorem dX12_judge_251 : decode cX12_judge 251 = .ok (.i2l, 1) := by decide +kernel
theorem dX12_judge_252 : decode cX12_judge 252 = .ok (.lmul, 1) := by decide +kernel
theorem dX12_judge_253 : decode cX12_judge 253 = .ok (.aload_n 0, 1) := by decide +kernel
theorem dX12_judge_254 : decode cX12_judge 254 = .ok (.getfield 32, 3) := by decide +kernel
theorem dX12_judge_257 : decode cX12_judge 257 = .ok (.iload 8, 2) := by decide +kernel
theorem dX12_judge_259 : decode cX12_judge 259 = .ok (.laload, 1) := by decide +kernel
theorem dX12_judge_260 : decode cX12_judge 260 = .ok (.aload_n 0, 1) := by decide +kernel
theorem dX12_judge_261 : decode cX12_judge 261 = .ok (.aload_n 0, 1) := by decide +kernel
theorem dX12_judge_262 : decode cX12_judge 262 = .ok (.getfield 29, 3) := by decide +kernel
theorem dX12_judge_265 : decode cX12_judge 265 = .ok (.iload 8, 2) := by decide +kernel
theorem dX12_judge_267 : decode cX12_judge 267 = .ok (.iaload, 1) := by decide +kernel
theorem dX12_judge_268 : decode cX12_judge 268 = .ok (.aload_n 0, 1) := by decide +kernel
theorem dX12_judge_269 : decode cX12_judge 269 = .ok (.getfield 29, 3) := by decide +kernel
theorem dX12_judge_272 : decode cX12_judge 272 = .ok (.iload 11, 2) := by decide +kernel
theorem dX12_judge_274 : decode cX12_judge 274 = .ok (.iaload, 1) := by decide +kernel
theorem dX12_judge_275 : decode cX12_judge 275 = .ok (.invokevirtual 154, 3) := by decide +kernel
theorem dX12_judge_278 : decode cX12_judge 278 = .ok (.i2l, 1) := by decide +kernel
theorem dX12_judge_279 : decode cX12_judge 279 = .ok (.lmul, 1) := by decide +kernel
theorem dX12_judge_280 : decode cX12_judge 280 = .ok (.lsub, 1) := by decide +kernel
theorem dX12_judge_281 : decode cX12_judge 281 = .ok (.ladd, 1) := by decide +kernel
theorem dX12_judge_282 : decode cX12_judge 282 = .ok (.lstore 9, 2) := by decide +kernel
theorem dX12_judge_284 : decode cX12_judge 284 = .ok (.iinc 11 1, 3) := by decide +kernel
theorem dX12_judge_287 : decode cX12_judge 287 = .ok (.goto (-72), 3) := by decide +kernel
theorem dX12_judge_290 : decode cX12_judge 290 = .ok (.iload 7, 2) := by decide +kernel
theorem dX12_judge_292 : decode cX12_judge 292 = .ok (.ifCond .eq 14, 3) := by decide +kernel
theorem dX12_judge_295 : decode cX12_judge 295 = .ok (.lload 9, 2) := by decide +kernel
theorem dX12_judge_297 : decode cX12_judge 297 = .ok (.lconst 0, 1) := by decide +kernel
theorem dX12_judge_298 : decode cX12_judge 298 = .ok (.lcmp, 1) := by decide +kernel
theorem dX12_judge_299 : decode cX12_judge 299 = .ok (.ifCond .ne 7, 3) := by decide +kernel
theorem dX12_judge_302 : decode cX12_judge 302 = .ok (.iconst 1, 1) := by decide +kernel
theorem dX12_judge_303 : decode cX12_judge 303 = .ok (.goto 4, 3) := by decide +kernel
theorem dX12_judge_306 : decode cX12_judge 306 = .ok (.iconst 0, 1) := by decide +kernel
theorem dX12_judge_307 : decode cX12_judge 307 = .ok (.istore 7, 2) := by decide +kernel
theorem dX12_judge_309 : decode cX12_judge 309 = .ok (.iinc 8 1, 3) := by decide +kernel
theorem dX12_judge_312 : decode cX12_judge 312 = .ok (.goto (-112), 3) := by decide +kernel
theorem dX12_judge_315 : decode cX12_judge 315 = .ok (.iload 7, 2) := by decide +kernel
theorem dX12_judge_317 : decode cX12_judge 317 = .ok (.ifCond .eq 7, 3) := by decide +kernel
theorem dX12_judge_320 : decode cX12_judge 320 = .ok (.iconst 1, 1) := by decide +kernel
theorem dX12_judge_321 : decode cX12_judge 321 = .ok (.goto 4, 3) := by decide +kernel
theorem dX12_judge_324 : decode cX12_judge 324 = .ok (.iconst 0, 1) := by decide +kernel
theorem dX12_judge_325 : decode cX12_judge 325 = .ok (.ireturn, 1) := by decide +kernel
theorem dX12_count_0 : decode cX12_count 0 = .ok (.iload_n 1, 1) := by decide +kernel
theorem dX12_count_1 : decode cX12_count 1 = .ok (.ifCond .ne 10, 3) := by decide +kernel
theorem dX12_count_4 : decode cX12_count 4 = .ok (.aload_n 0, 1) := by decide +kernel
theorem dX12_count_5 : decode cX12_count 5 = .ok (.invokevirtual 68, 3) := by decide +kernel
theorem dX12_count_8 : decode cX12_count 8 = .ok (.goto 46, 3) := by decide +kernel
theorem dX12_count_11 : decode cX12_count 11 = .ok (.iload_n 1, 1) := by decide +kernel
theorem dX12_count_12 : decode cX12_count 12 = .ok (.iconst 1, 1) := by decide +kernel
theorem dX12_count_13 : decode cX12_count 13 = .ok (.if_icmp .ne 10, 3) := by decide +kernel
theorem dX12_count_16 : decode cX12_count 16 = .ok (.aload_n 0, 1) := by decide +kernel
theorem dX12_count_17 : decode cX12_count 17 = .ok (.getfield 76, 3) := by decide +kernel
theorem dX12_count_20 : decode cX12_count 20 = .ok (.goto 34, 3) := by decide +kernel
theorem dX12_count_23 : decode cX12_count 23 = .ok (.iload_n 1, 1) := by decide +kernel
theorem dX12_count_24 : decode cX12_count 24 = .ok (.iconst 2, 1) := by decide +kernel
theorem dX12_count_25 : decode cX12_count 25 = .ok (.if_icmp .ne 28, 3) := by decide +kernel
theorem dX12_count_28 : decode cX12_count 28 = .ok (.aload_n 0, 1) := by decide +kernel
theorem dX12_count_29 : decode cX12_count 29 = .ok (.getfield 59, 3) := by decide +kernel
theorem dX12_count_32 : decode cX12_count 32 = .ok (.iconst 0, 1) := by decide +kernel
theorem dX12_count_33 : decode cX12_count 33 = .ok (.iaload, 1) := by decide +kernel
theorem dX12_count_34 : decode cX12_count 34 = .ok (.bipush (-4), 2) := by decide +kernel
theorem dX12_count_36 : decode cX12_count 36 = .ok (.if_icmp .ne 8, 3) := by decide +kernel
theorem dX12_count_39 : decode cX12_count 39 = .ok (.bipush (-4), 2) := by decide +kernel
theorem dX12_count_41 : decode cX12_count 41 = .ok (.goto 13, 3) := by decide +kernel
theorem dX12_count_44 : decode cX12_count 44 = .ok (.aload_n 0, 1) := by decide +kernel
theorem dX12_count_45 : decode cX12_count 45 = .ok (.getfield 62, 3) := by decide +kernel
theorem dX12_count_48 : decode cX12_count 48 = .ok (.iconst 0, 1) := by decide +kernel
theorem dX12_count_49 : decode cX12_count 49 = .ok (.iaload, 1) := by decide +kernel
theorem dX12_count_50 : decode cX12_count 50 = .ok (.goto 4, 3) := by decide +kernel
theorem dX12_count_53 : decode cX12_count 53 = .ok (.iconst (-1), 1) := by decide +kernel
theorem dX12_count_54 : decode cX12_count 54 = .ok (.ireturn, 1) := by decide +kernel
theorem dJ6_numberOfTrailingZeros_0f7a4_0 : decode cJ6_numberOfTrailingZeros_0f7a4 0 = .ok (.iload_n 0, 1) := by decide +kernel
theorem dJ6_numberOfTrailingZeros_0f7a4_1 : decode cJ6_numberOfTrailingZeros_0f7a4 1 = .ok (.iconst (-1), 1) := by decide +kernel
theorem dJ6_numberOfTrailingZeros_0f7a4_2 : decode cJ6_numberOfTrailingZeros_0f7a4 2 = .ok (.ixor, 1) := by decide +kernel
theorem dJ6_numberOfTrailingZeros_0f7a4_3 : decode cJ6_numberOfTrailingZeros_0f7a4 3 = .ok (.iload_n 0, 1) := by decide +kernel
theorem dJ6_numberOfTrailingZeros_0f7a4_4 : decode cJ6_numberOfTrailingZeros_0f7a4 4 = .ok (.iconst 1, 1) := by decide +kernel
theorem dJ6_numberOfTrailingZeros_0f7a4_5 : decode cJ6_numberOfTrailingZeros_0f7a4 5 = .ok (.isub, 1) := by decide +kernel
theorem dJ6_numberOfTrailingZeros_0f7a4_6 : decode cJ6_numberOfTrailingZeros_0f7a4 6 = .ok (.iand, 1) := by decide +kernel
theorem dJ6_numberOfTrailingZeros_0f7a4_7 : decode cJ6_numberOfTrailingZeros_0f7a4 7 = .ok (.istore_n 0, 1) := by decide +kernel
theorem dJ6_numberOfTrailingZeros_0f7a4_8 : decode cJ6_numberOfTrailingZeros_0f7a4 8 = .ok (.iload_n 0, 1) := by decide +kernel
theorem dJ6_numberOfTrailingZeros_0f7a4_9 : decode cJ6_numberOfTrailingZeros_0f7a4 9 = .ok (.ifCond .gt 8, 3) := by decide +kernel
theorem dJ6_numberOfTrailingZeros_0f7a4_12 : decode cJ6_numberOfTrailingZeros_0f7a4 12 = .ok (.iload_n 0, 1) := by decide +kernel
theorem dJ6_numberOfTrailingZeros_0f7a4_13 : decode cJ6_numberOfTrailingZeros_0f7a4 13 = .ok (.bipush 32, 2) := by decide +kernel
theorem dJ6_numberOfTrailingZeros_0f7a4_15 : decode cJ6_numberOfTrailingZeros_0f7a4 15 = .ok (.iand, 1) := by decide +kernel
theorem dJ6_numberOfTrailingZeros_0f7a4_16 : decode cJ6_numberOfTrailingZeros_0f7a4 16 = .ok (.ireturn, 1) := by decide +kernel
theorem dJ6_numberOfTrailingZeros_0f7a4_17 : decode cJ6_numberOfTrailingZeros_0f7a4 17 = .ok (.iconst 1, 1) := by decide +kernel
theorem dJ6_numberOfTrailingZeros_0f7a4_18 : decode cJ6_numberOfTrailingZeros_0f7a4 18 = .ok (.istore_n 1, 1) := by decide +kernel
theorem dJ6_numberOfTrailingZeros_0f7a4_19 : decode cJ6_numberOfTrailingZeros_0f7a4 19 = .ok (.iload_n 0, 1) := by decide +kernel
theorem dJ6_numberOfTrailingZeros_0f7a4_20 : decode cJ6_numberOfTrailingZeros_0f7a4 20 = .ok (.ldc_w 264, 3) := by decide +kernel
theorem dJ6_numberOfTrailingZeros_0f7a4_23 : decode cJ6_numberOfTrailingZeros_0f7a4 23 = .ok (.if_icmp .le 11, 3) := by decide +kernel
theorem dJ6_numberOfTrailingZeros_0f7a4_26 : decode cJ6_numberOfTrailingZeros_0f7a4 26 = .ok (.iinc 1 16, 3) := by decide +kernel
theorem dJ6_numberOfTrailingZeros_0f7a4_29 : decode cJ6_numberOfTrailingZeros_0f7a4 29 = .ok (.iload_n 0, 1) := by decide +kernel
theorem dJ6_numberOfTrailingZeros_0f7a4_30 : decode cJ6_numberOfTrailingZeros_0f7a4 30 = .ok (.bipush 16, 2) := by decide +kernel
theorem dJ6_numberOfTrailingZeros_0f7a4_32 : decode cJ6_numberOfTrailingZeros_0f7a4 32 = .ok (.iushr, 1) := by decide +kernel
theorem dJ6_numberOfTrailingZeros_0f7a4_33 : decode cJ6_numberOfTrailingZeros_0f7a4 33 = .ok (.istore_n 0, 1) := by decide +kernel
theorem dJ6_numberOfTrailingZeros_0f7a4_34 : decode cJ6_numberOfTrailingZeros_0f7a4 34 = .ok (.iload_n 0, 1) := by decide +kernel
theorem dJ6_numberOfTrailingZeros_0f7a4_35 : decode cJ6_numberOfTrailingZeros_0f7a4 35 = .ok (.sipush 256, 3) := by decide +kernel
theorem dJ6_numberOfTrailingZeros_0f7a4_38 : decode cJ6_numberOfTrailingZeros_0f7a4 38 = .ok (.if_icmp .le 11, 3) := by decide +kernel
theorem dJ6_numberOfTrailingZeros_0f7a4_41 : decode cJ6_numberOfTrailingZeros_0f7a4 41 = .ok (.iinc 1 8, 3) := by decide +kernel
theorem dJ6_numberOfTrailingZeros_0f7a4_44 : decode cJ6_numberOfTrailingZeros_0f7a4 44 = .ok (.iload_n 0, 1) := by decide +kernel
theorem dJ6_numberOfTrailingZeros_0f7a4_45 : decode cJ6_numberOfTrailingZeros_0f7a4 45 = .ok (.bipush 8, 2) := by decide +kernel
theorem dJ6_numberOfTrailingZeros_0f7a4_47 : decode cJ6_numberOfTrailingZeros_0f7a4 47 = .ok (.iushr, 1) := by decide +kernel
theorem dJ6_numberOfTrailingZeros_0f7a4_48 : decode cJ6_numberOfTrailingZeros_0f7a4 48 = .ok (.istore_n 0, 1) := by decide +kernel
theorem dJ6_numberOfTrailingZeros_0f7a4_49 : decode cJ6_numberOfTrailingZeros_0f7a4 49 = .ok (.iload_n 0, 1) := by decide +kernel
theorem dJ6_numberOfTrailingZeros_0f7a4_50 : decode cJ6_numberOfTrailingZeros_0f7a4 50 = .ok (.bipush 16, 2) := by decide +kernel
theorem dJ6_numberOfTrailingZeros_0f7a4_52 : decode cJ6_numberOfTrailingZeros_0f7a4 52 = .ok (.if_icmp .le 10, 3) := by decide +kernel
theorem dJ6_numberOfTrailingZeros_0f7a4_55 : decode cJ6_numberOfTrailingZeros_0f7a4 55 = .ok (.iinc 1 4, 3) := by decide +kernel
theorem dJ6_numberOfTrailingZeros_0f7a4_58 : decode cJ6_numberOfTrailingZeros_0f7a4 58 = .ok (.iload_n 0, 1) := by decide +kernel
theorem dJ6_numberOfTrailingZeros_0f7a4_59 : decode cJ6_numberOfTrailingZeros_0f7a4 59 = .ok (.iconst 4, 1) := by decide +kernel
theorem dJ6_numberOfTrailingZeros_0f7a4_60 : decode cJ6_numberOfTrailingZeros_0f7a4 60 = .ok (.iushr, 1) := by decide +kernel
theorem dJ6_numberOfTrailingZeros_0f7a4_61 : decode cJ6_numberOfTrailingZeros_0f7a4 61 = .ok (.istore_n 0, 1) := by decide +kernel
theorem dJ6_numberOfTrailingZeros_0f7a4_62 : decode cJ6_numberOfTrailingZeros_0f7a4 62 = .ok (.iload_n 0, 1) := by decide +kernel
theorem dJ6_numberOfTrailingZeros_0f7a4_63 : decode cJ6_numberOfTrailingZeros_0f7a4 63 = .ok (.iconst 4, 1) := by decide +kernel
theorem dJ6_numberOfTrailingZeros_0f7a4_64 : decode cJ6_numberOfTrailingZeros_0f7a4 64 = .ok (.if_icmp .le 10, 3) := by decide +kernel
theorem dJ6_numberOfTrailingZeros_0f7a4_67 : decode cJ6_numberOfTrailingZeros_0f7a4 67 = .ok (.iinc 1 2, 3) := by decide +kernel
theorem dJ6_numberOfTrailingZeros_0f7a4_70 : decode cJ6_numberOfTrailingZeros_0f7a4 70 = .ok (.iload_n 0, 1) := by decide +kernel
theorem dJ6_numberOfTrailingZeros_0f7a4_71 : decode cJ6_numberOfTrailingZeros_0f7a4 71 = .ok (.iconst 2, 1) := by decide +kernel
theorem dJ6_numberOfTrailingZeros_0f7a4_72 : decode cJ6_numberOfTrailingZeros_0f7a4 72 = .ok (.iushr, 1) := by decide +kernel
theorem dJ6_numberOfTrailingZeros_0f7a4_73 : decode cJ6_numberOfTrailingZeros_0f7a4 73 = .ok (.istore_n 0, 1) := by decide +kernel
theorem dJ6_numberOfTrailingZeros_0f7a4_74 : decode cJ6_numberOfTrailingZeros_0f7a4 74 = .ok (.iload_n 1, 1) := by decide +kernel
theorem dJ6_numberOfTrailingZeros_0f7a4_75 : decode cJ6_numberOfTrailingZeros_0f7a4 75 = .ok (.iload_n 0, 1) := by decide +kernel
theorem dJ6_numberOfTrailingZeros_0f7a4_76 : decode cJ6_numberOfTrailingZeros_0f7a4 76 = .ok (.iconst 1, 1) := by decide +kernel
theorem dJ6_numberOfTrailingZeros_0f7a4_77 : decode cJ6_numberOfTrailingZeros_0f7a4 77 = .ok (.iushr, 1) := by decide +kernel
theorem dJ6_numberOfTrailingZeros_0f7a4_78 : decode cJ6_numberOfTrailingZeros_0f7a4 78 = .ok (.iadd, 1) := by decide +kernel
theorem dJ6_numberOfTrailingZeros_0f7a4_79 : decode cJ6_numberOfTrailingZeros_0f7a4 79 = .ok (.ireturn, 1) := by decide +kernel
theorem dJ6_bitCount_0f7a4_0 : decode cJ6_bitCount_0f7a4 0 = .ok (.iload_n 0, 1) := by decide +kernel
theorem dJ6_bitCount_0f7a4_1 : decode cJ6_bitCount_0f7a4 1 = .ok (.iload_n 0, 1) := by decide +kernel
theorem dJ6_bitCount_0f7a4_2 : decode cJ6_bitCount_0f7a4 2 = .ok (.iconst 1, 1) := by decide +kernel
theorem dJ6_bitCount_0f7a4_3 : decode cJ6_bitCount_0f7a4 3 = .ok (.iushr, 1) := by decide +kernel
theorem dJ6_bitCount_0f7a4_4 : decode cJ6_bitCount_0f7a4 4 = .ok (.ldc_w 265, 3) := by decide +kernel
theorem dJ6_bitCount_0f7a4_7 : decode cJ6_bitCount_0f7a4 7 = .ok (.iand, 1) := by decide +kernel
theorem dJ6_bitCount_0f7a4_8 : decode cJ6_bitCount_0f7a4 8 = .ok (.isub, 1) := by decide +kernel
theorem dJ6_bitCount_0f7a4_9 : decode cJ6_bitCount_0f7a4 9 = .ok (.istore_n 0, 1) := by decide +kernel
theorem dJ6_bitCount_0f7a4_10 : decode cJ6_bitCount_0f7a4 10 = .ok (.iload_n 0, 1) := by decide +kernel
theorem dJ6_bitCount_0f7a4_11 : decode cJ6_bitCount_0f7a4 11 = .ok (.ldc_w 266, 3) := by decide +kernel
theorem dJ6_bitCount_0f7a4_14 : decode cJ6_bitCount_0f7a4 14 = .ok (.iand, 1) := by decide +kernel
theorem dJ6_bitCount_0f7a4_15 : decode cJ6_bitCount_0f7a4 15 = .ok (.iload_n 0, 1) := by decide +kernel
theorem dJ6_bitCount_0f7a4_16 : decode cJ6_bitCount_0f7a4 16 = .ok (.iconst 2, 1) := by decide +kernel
theorem dJ6_bitCount_0f7a4_17 : decode cJ6_bitCount_0f7a4 17 = .ok (.iushr, 1) := by decide +kernel
theorem dJ6_bitCount_0f7a4_18 : decode cJ6_bitCount_0f7a4 18 = .ok (.ldc_w 266, 3) := by decide +kernel
theorem dJ6_bitCount_0f7a4_21 : decode cJ6_bitCount_0f7a4 21 = .ok (.iand, 1) := by decide +kernel
theorem dJ6_bitCount_0f7a4_22 : decode cJ6_bitCount_0f7a4 22 = .ok (.iadd, 1) := by decide +kernel
theorem dJ6_bitCount_0f7a4_23 : decode cJ6_bitCount_0f7a4 23 = .ok (.istore_n 0, 1) := by decide +kernel
theorem dJ6_bitCount_0f7a4_24 : decode cJ6_bitCount_0f7a4 24 = .ok (.iload_n 0, 1) := by decide +kernel
theorem dJ6_bitCount_0f7a4_25 : decode cJ6_bitCount_0f7a4 25 = .ok (.iload_n 0, 1) := by decide +kernel
theorem dJ6_bitCount_0f7a4_26 : decode cJ6_bitCount_0f7a4 26 = .ok (.iconst 4, 1) := by decide +kernel
theorem dJ6_bitCount_0f7a4_27 : decode cJ6_bitCount_0f7a4 27 = .ok (.iushr, 1) := by decide +kernel
theorem dJ6_bitCount_0f7a4_28 : decode cJ6_bitCount_0f7a4 28 = .ok (.iadd, 1) := by decide +kernel
theorem dJ6_bitCount_0f7a4_29 : decode cJ6_bitCount_0f7a4 29 = .ok (.ldc_w 267, 3) := by decide +kernel
theorem dJ6_bitCount_0f7a4_32 : decode cJ6_bitCount_0f7a4 32 = .ok (.iand, 1) := by decide +kernel
theorem dJ6_bitCount_0f7a4_33 : decode cJ6_bitCount_0f7a4 33 = .ok (.istore_n 0, 1) := by decide +kernel
theorem dJ6_bitCount_0f7a4_34 : decode cJ6_bitCount_0f7a4 34 = .ok (.iload_n 0, 1) := by decide +kernel
theorem dJ6_bitCount_0f7a4_35 : decode cJ6_bitCount_0f7a4 35 = .ok (.iload_n 0, 1) := by decide +kernel
theorem dJ6_bitCount_0f7a4_36 : decode cJ6_bitCount_0f7a4 36 = .ok (.bipush 8, 2) := by decide +kernel
theorem dJ6_bitCount_0f7a4_38 : decode cJ6_bitCount_0f7a4 38 = .ok (.iushr, 1) := by decide +kernel
theorem dJ6_bitCount_0f7a4_39 : decode cJ6_bitCount_0f7a4 39 = .ok (.iadd, 1) := by decide +kernel
theorem dJ6_bitCount_0f7a4_40 : decode cJ6_bitCount_0f7a4 40 = .ok (.istore_n 0, 1) := by decide +kernel
theorem dJ6_bitCount_0f7a4_41 : decode cJ6_bitCount_0f7a4 41 = .ok (.iload_n 0, 1) := by decide +kernel
theorem dJ6_bitCount_0f7a4_42 : decode cJ6_bitCount_0f7a4 42 = .ok (.iload_n 0, 1) := by decide +kernel
theorem dJ6_bitCount_0f7a4_43 : decode cJ6_bitCount_0f7a4 43 = .ok (.bipush 16, 2) := by decide +kernel
theorem dJ6_bitCount_0f7a4_45 : decode cJ6_bitCount_0f7a4 45 = .ok (.iushr, 1) := by decide +kernel
theorem dJ6_bitCount_0f7a4_46 : decode cJ6_bitCount_0f7a4 46 = .ok (.iadd, 1) := by decide +kernel
theorem dJ6_bitCount_0f7a4_47 : decode cJ6_bitCount_0f7a4 47 = .ok (.istore_n 0, 1) := by decide +kernel
theorem dJ6_bitCount_0f7a4_48 : decode cJ6_bitCount_0f7a4 48 = .ok (.iload_n 0, 1) := by decide +kernel
theorem dJ6_bitCount_0f7a4_49 : decode cJ6_bitCount_0f7a4 49 = .ok (.bipush 63, 2) := by decide +kernel
theorem dJ6_bitCount_0f7a4_51 : decode cJ6_bitCount_0f7a4 51 = .ok (.iand, 1) := by decide +kernel
theorem dJ6_bitCount_0f7a4_52 : decode cJ6_bitCount_0f7a4 52 = .ok (.ireturn, 1) := by decide +kernel
theorem dJ13_numberOfTrailingZeros_95d88_0 : decode cJ13_numberOfTrailingZeros_95d88 0 = .ok (.lload_n 0, 1) := by decide +kernel
theorem dJ13_numberOfTrailingZeros_95d88_1 : decode cJ13_numberOfTrailingZeros_95d88 1 = .ok (.l2i, 1) := by decide +kernel
theorem dJ13_numberOfTrailingZeros_95d88_2 : decode cJ13_numberOfTrailingZeros_95d88 2 = .ok (.istore_n 2, 1) := by decide +kernel
theorem dJ13_numberOfTrailingZeros_95d88_3 : decode cJ13_numberOfTrailingZeros_95d88 3 = .ok (.iload_n 2, 1) := by decide +kernel
theorem dJ13_numberOfTrailingZeros_95d88_4 : decode cJ13_numberOfTrailingZeros_95d88 4 = .ok (.ifCond .ne 17, 3) := by decide +kernel
theorem dJ13_numberOfTrailingZeros_95d88_7 : decode cJ13_numberOfTrailingZeros_95d88 7 = .ok (.bipush 32, 2) := by decide +kernel
theorem dJ13_numberOfTrailingZeros_95d88_9 : decode cJ13_numberOfTrailingZeros_95d88 9 = .ok (.lload_n 0, 1) := by decide +kernel
theorem dJ13_numberOfTrailingZeros_95d88_10 : decode cJ13_numberOfTrailingZeros_95d88 10 = .ok (.bipush 32, 2) := by decide +kernel
theorem dJ13_numberOfTrailingZeros_95d88_12 : decode cJ13_numberOfTrailingZeros_95d88 12 = .ok (.lushr, 1) := by decide +kernel
theorem dJ13_numberOfTrailingZeros_95d88_13 : decode cJ13_numberOfTrailingZeros_95d88 13 = .ok (.l2i, 1) := by decide +kernel
theorem dJ13_numberOfTrailingZeros_95d88_14 : decode cJ13_numberOfTrailingZeros_95d88 14 = .ok (.invokestatic 311, 3) := by decide +kernel
theorem dJ13_numberOfTrailingZeros_95d88_17 : decode cJ13_numberOfTrailingZeros_95d88 17 = .ok (.iadd, 1) := by decide +kernel
theorem dJ13_numberOfTrailingZeros_95d88_18 : decode cJ13_numberOfTrailingZeros_95d88 18 = .ok (.goto 7, 3) := by decide +kernel
theorem dJ13_numberOfTrailingZeros_95d88_21 : decode cJ13_numberOfTrailingZeros_95d88 21 = .ok (.iload_n 2, 1) := by decide +kernel
theorem dJ13_numberOfTrailingZeros_95d88_22 : decode cJ13_numberOfTrailingZeros_95d88 22 = .ok (.invokestatic 311, 3) := by decide +kernel
theorem dJ13_numberOfTrailingZeros_95d88_25 : decode cJ13_numberOfTrailingZeros_95d88 25 = .ok (.ireturn, 1) := by decide +kernel
theorem dJ13_bitCount_95d88_0 : decode cJ13_bitCount_95d88 0 = .ok (.lload_n 0, 1) := by decide +kernel
theorem dJ13_bitCount_95d88_1 : decode cJ13_bitCount_95d88 1 = .ok (.lload_n 0, 1) := by decide +kernel
theorem dJ13_bitCount_95d88_2 : decode cJ13_bitCount_95d88 2 = .ok (.iconst 1, 1) := by decide +kernel
theorem dJ13_bitCount_95d88_3 : decode cJ13_bitCount_95d88 3 = .ok (.lushr, 1) := by decide +kernel
theorem dJ13_bitCount_95d88_4 : decode cJ13_bitCount_95d88 4 = .ok (.ldc2_w 314, 3) := by decide +kernel
theorem dJ13_bitCount_95d88_7 : decode cJ13_bitCount_95d88 7 = .ok (.land, 1) := by decide +kernel
theorem dJ13_bitCount_95d88_8 : decode cJ13_bitCount_95d88 8 = .ok (.lsub, 1) := by decide +kernel
theorem dJ13_bitCount_95d88_9 : decode cJ13_bitCount_95d88 9 = .ok (.lstore_n 0, 1) := by decide +kernel
theorem dJ13_bitCount_95d88_10 : decode cJ13_bitCount_95d88 10 = .ok (.lload_n 0, 1) := by decide +kernel
theorem dJ13_bitCount_95d88_11 : decode cJ13_bitCount_95d88 11 = .ok (.ldc2_w 316, 3) := by decide +kernel
theorem dJ13_bitCount_95d88_14 : decode cJ13_bitCount_95d88 14 = .ok (.land, 1) := by decide +kernel
theorem dJ13_bitCount_95d88_15 : decode cJ13_bitCount_95d88 15 = .ok (.lload_n 0, 1) := by decide +kernel
theorem dJ13_bitCount_95d88_16 : decode cJ13_bitCount_95d88 16 = .ok (.iconst 2, 1) := by decide +kernel
theorem dJ13_bitCount_95d88_17 : decode cJ13_bitCount_95d88 17 = .ok (.lushr, 1) := by decide +kernel
theorem dJ13_bitCount_95d88_18 : decode cJ13_bitCount_95d88 18 = .ok (.ldc2_w 316, 3) := by decide +kernel
theorem dJ13_bitCount_95d88_21 : decode cJ13_bitCount_95d88 21 = .ok (.land, 1) := by decide +kernel
theorem dJ13_bitCount_95d88_22 : decode cJ13_bitCount_95d88 22 = .ok (.ladd, 1) := by decide +kernel
theorem dJ13_bitCount_95d88_23 : decode cJ13_bitCount_95d88 23 = .ok (.lstore_n 0, 1) := by decide +kernel
theorem dJ13_bitCount_95d88_24 : decode cJ13_bitCount_95d88 24 = .ok (.lload_n 0, 1) := by decide +kernel
theorem dJ13_bitCount_95d88_25 : decode cJ13_bitCount_95d88 25 = .ok (.lload_n 0, 1) := by decide +kernel
theorem dJ13_bitCount_95d88_26 : decode cJ13_bitCount_95d88 26 = .ok (.iconst 4, 1) := by decide +kernel
theorem dJ13_bitCount_95d88_27 : decode cJ13_bitCount_95d88 27 = .ok (.lushr, 1) := by decide +kernel
theorem dJ13_bitCount_95d88_28 : decode cJ13_bitCount_95d88 28 = .ok (.ladd, 1) := by decide +kernel
theorem dJ13_bitCount_95d88_29 : decode cJ13_bitCount_95d88 29 = .ok (.ldc2_w 318, 3) := by decide +kernel
theorem dJ13_bitCount_95d88_32 : decode cJ13_bitCount_95d88 32 = .ok (.land, 1) := by decide +kernel
theorem dJ13_bitCount_95d88_33 : decode cJ13_bitCount_95d88 33 = .ok (.lstore_n 0, 1) := by decide +kernel
theorem dJ13_bitCount_95d88_34 : decode cJ13_bitCount_95d88 34 = .ok (.lload_n 0, 1) := by decide +kernel
theorem dJ13_bitCount_95d88_35 : decode cJ13_bitCount_95d88 35 = .ok (.lload_n 0, 1) := by decide +kernel
theorem dJ13_bitCount_95d88_36 : decode cJ13_bitCount_95d88 36 = .ok (.bipush 8, 2) := by decide +kernel
theorem dJ13_bitCount_95d88_38 : decode cJ13_bitCount_95d88 38 = .ok (.lushr, 1) := by decide +kernel
theorem dJ13_bitCount_95d88_39 : decode cJ13_bitCount_95d88 39 = .ok (.ladd, 1) := by decide +kernel
theorem dJ13_bitCount_95d88_40 : decode cJ13_bitCount_95d88 40 = .ok (.lstore_n 0, 1) := by decide +kernel
theorem dJ13_bitCount_95d88_41 : decode cJ13_bitCount_95d88 41 = .ok (.lload_n 0, 1) := by decide +kernel
theorem dJ13_bitCount_95d88_42 : decode cJ13_bitCount_95d88 42 = .ok (.lload_n 0, 1) := by decide +kernel
theorem dJ13_bitCount_95d88_43 : decode cJ13_bitCount_95d88 43 = .ok (.bipush 16, 2) := by decide +kernel
theorem dJ13_bitCount_95d88_45 : decode cJ13_bitCount_95d88 45 = .ok (.lushr, 1) := by decide +kernel
theorem dJ13_bitCount_95d88_46 : decode cJ13_bitCount_95d88 46 = .ok (.ladd, 1) := by decide +kernel
theorem dJ13_bitCount_95d88_47 : decode cJ13_bitCount_95d88 47 = .ok (.lstore_n 0, 1) := by decide +kernel
theorem dJ13_bitCount_95d88_48 : decode cJ13_bitCount_95d88 48 = .ok (.lload_n 0, 1) := by decide +kernel
theorem dJ13_bitCount_95d88_49 : decode cJ13_bitCount_95d88 49 = .ok (.lload_n 0, 1) := by decide +kernel
theorem dJ13_bitCount_95d88_50 : decode cJ13_bitCount_95d88 50 = .ok (.bipush 32, 2) := by decide +kernel
theorem dJ13_bitCount_95d88_52 : decode cJ13_bitCount_95d88 52 = .ok (.lushr, 1) := by decide +kernel
theorem dJ13_bitCount_95d88_53 : decode cJ13_bitCount_95d88 53 = .ok (.ladd, 1) := by decide +kernel
theorem dJ13_bitCount_95d88_54 : decode cJ13_bitCount_95d88 54 = .ok (.lstore_n 0, 1) := by decide +kernel
theorem dJ13_bitCount_95d88_55 : decode cJ13_bitCount_95d88 55 = .ok (.lload_n 0, 1) := by decide +kernel
theorem dJ13_bitCount_95d88_56 : decode cJ13_bitCount_95d88 56 = .ok (.l2i, 1) := by decide +kernel
theorem dJ13_bitCount_95d88_57 : decode cJ13_bitCount_95d88 57 = .ok (.bipush 127, 2) := by decide +kernel
theorem dJ13_bitCount_95d88_59 : decode cJ13_bitCount_95d88 59 = .ok (.iand, 1) := by decide +kernel
theorem dJ13_bitCount_95d88_60 : decode cJ13_bitCount_95d88 60 = .ok (.ireturn, 1) := by decide +kernel
theorem dJ9_abs_067f4_0 : decode cJ9_abs_067f4 0 = .ok (.lload_n 0, 1) := by decide +kernel
theorem dJ9_abs_067f4_1 : decode cJ9_abs_067f4 1 = .ok (.lconst 0, 1) := by decide +kernel
theorem dJ9_abs_067f4_2 : decode cJ9_abs_067f4 2 = .ok (.lcmp, 1) := by decide +kernel
theorem dJ9_abs_067f4_3 : decode cJ9_abs_067f4 3 = .ok (.ifCond .ge 8, 3) := by decide +kernel
theorem dJ9_abs_067f4_6 : decode cJ9_abs_067f4 6 = .ok (.lload_n 0, 1) := by decide +kernel
theorem dJ9_abs_067f4_7 : decode cJ9_abs_067f4 7 = .ok (.lneg, 1) := by decide +kernel
theorem dJ9_abs_067f4_8 : decode cJ9_abs_067f4 8 = .ok (.goto 4, 3) := by decide +kernel
theorem dJ9_abs_067f4_11 : decode cJ9_abs_067f4 11 = .ok (.lload_n 0, 1) := by decide +kernel
theorem dJ9_abs_067f4_12 : decode cJ9_abs_067f4 12 = .ok (.lreturn, 1) := by decide +kernel
theorem dJ9_max_7cf53_0 : decode cJ9_max_7cf53 0 = .ok (.iload_n 0, 1) := by decide +kernel
theorem dJ9_max_7cf53_1 : decode cJ9_max_7cf53 1 = .ok (.iload_n 1, 1) := by decide +kernel
theorem dJ9_max_7cf53_2 : decode cJ9_max_7cf53 2 = .ok (.if_icmp .lt 7, 3) := by decide +kernel
theorem dJ9_max_7cf53_5 : decode cJ9_max_7cf53 5 = .ok (.iload_n 0, 1) := by decide +kernel
theorem dJ9_max_7cf53_6 : decode cJ9_max_7cf53 6 = .ok (.goto 4, 3) := by decide +kernel
theorem dJ9_max_7cf53_9 : decode cJ9_max_7cf53 9 = .ok (.iload_n 1, 1) := by decide +kernel
theorem dJ9_max_7cf53_10 : decode cJ9_max_7cf53 10 = .ok (.ireturn, 1) := by decide +kernel
theorem dJ9_min_7cf53_0 : decode cJ9_min_7cf53 0 = .ok (.iload_n 0, 1) := by decide +kernel
theorem dJ9_min_7cf53_1 : decode cJ9_min_7cf53 1 = .ok (.iload_n 1, 1) := by decide +kernel
theorem dJ9_min_7cf53_2 : decode cJ9_min_7cf53 2 = .ok (.if_icmp .gt 7, 3) := by decide +kernel
theorem dJ9_min_7cf53_5 : decode cJ9_min_7cf53 5 = .ok (.iload_n 0, 1) := by decide +kernel
theorem dJ9_min_7cf53_6 : decode cJ9_min_7cf53 6 = .ok (.goto 4, 3) := by decide +kernel
theorem dJ9_min_7cf53_9 : decode cJ9_min_7cf53 9 = .ok (.iload_n 1, 1) := by decide +kernel
theorem dJ9_min_7cf53_10 : decode cJ9_min_7cf53 10 = .ok (.ireturn, 1) := by decide +kernel
theorem dL_law_0 : decode cL_law 0 = .ok (.new 7, 3) := by decide +kernel
theorem dL_law_3 : decode cL_law 3 = .ok (.dup, 1) := by decide +kernel
theorem dL_law_4 : decode cL_law 4 = .ok (.invokespecial 9, 3) := by decide +kernel
theorem dL_law_7 : decode cL_law 7 = .ok (.astore_n 1, 1) := by decide +kernel
theorem dL_law_8 : decode cL_law 8 = .ok (.new 10, 3) := by decide +kernel
theorem dL_law_11 : decode cL_law 11 = .ok (.dup, 1) := by decide +kernel
theorem dL_law_12 : decode cL_law 12 = .ok (.invokespecial 12, 3) := by decide +kernel
theorem dL_law_15 : decode cL_law 15 = .ok (.astore_n 2, 1) := by decide +kernel
theorem dL_law_16 : decode cL_law 16 = .ok (.iconst 0, 1) := by decide +kernel
theorem dL_law_17 : decode cL_law 17 = .ok (.istore_n 3, 1) := by decide +kernel
theorem dL_law_18 : decode cL_law 18 = .ok (.iload_n 3, 1) := by decide +kernel
theorem dL_law_19 : decode cL_law 19 = .ok (.aload_n 0, 1) := by decide +kernel
theorem dL_law_20 : decode cL_law 20 = .ok (.arraylength, 1) := by decide +kernel
theorem dL_law_21 : decode cL_law 21 = .ok (.bipush 6, 2) := by decide +kernel
theorem dL_law_23 : decode cL_law 23 = .ok (.isub, 1) := by decide +kernel
theorem dL_law_24 : decode cL_law 24 = .ok (.if_icmp .gt 1233, 3) := by decide +kernel
theorem dL_law_27 : decode cL_law 27 = .ok (.aload_n 0, 1) := by decide +kernel
theorem dL_law_28 : decode cL_law 28 = .ok (.iload_n 3, 1) := by decide +kernel
theorem dL_law_29 : decode cL_law 29 = .ok (.iaload, 1) := by decide +kernel
theorem dL_law_30 : decode cL_law 30 = .ok (.bipush 31, 2) := by decide +kernel
theorem dL_law_32 : decode cL_law 32 = .ok (.iand, 1) := by decide +kernel
theorem dL_law_33 : decode cL_law 33 = .ok (.tableswitch 1218 0 31 #[143, 196, 219, 232, 245, 268, 301, 334, 357, 391, 425, 448, 472, 496, 520, 554, 598, 631, 674, 707, 740, 793, 856, 889, 923, 967, 1000, 1023, 1056, 1099, 1142, 1195], 143) := by decide +kernel
theorem dL_law_176 : decode cL_law 176 = .ok (.aload_n 1, 1) := by decide +kernel
theorem dL_law_177 : decode cL_law 177 = .ok (.aload_n 0, 1) := by decide +kernel
theorem dL_law_178 : decode cL_law 178 = .ok (.iload_n 3, 1) := by decide +kernel
theorem dL_law_179 : decode cL_law 179 = .ok (.iconst 1, 1) := by decide +kernel
theorem dL_law_180 : decode cL_law 180 = .ok (.iadd, 1) := by decide +kernel
theorem dL_law_181 : decode cL_law 181 = .ok (.iaload, 1) := by decide +kernel
theorem dL_law_182 : decode cL_law 182 = .ok (.i2l, 1) := by decide +kernel
theorem dL_law_183 : decode cL_law 183 = .ok (.bipush 32, 2) := by decide +kernel
theorem dL_law_185 : decode cL_law 185 = .ok (.lshl, 1) := by decide +kernel
theorem dL_law_186 : decode cL_law 186 = .ok (.aload_n 0, 1) := by decide +kernel
theorem dL_law_187 : decode cL_law 187 = .ok (.iload_n 3, 1) := by decide +kernel
theorem dL_law_188 : decode cL_law 188 = .ok (.iconst 2, 1) := by decide +kernel
theorem dL_law_189 : decode cL_law 189 = .ok (.iadd, 1) := by decide +kernel
theorem dL_law_190 : decode cL_law 190 = .ok (.iaload, 1) := by decide +kernel
theorem dL_law_191 : decode cL_law 191 = .ok (.i2l, 1) := by decide +kernel
theorem dL_law_192 : decode cL_law 192 = .ok (.ldc2_w 13, 3) := by decide +kernel
theorem dL_law_195 : decode cL_law 195 = .ok (.land, 1) := by decide +kernel
theorem dL_law_196 : decode cL_law 196 = .ok (.lor, 1) := by decide +kernel
theorem dL_law_197 : decode cL_law 197 = .ok (.invokevirtual 15, 3) := by decide +kernel
theorem dL_law_200 : decode cL_law 200 = .ok (.aload_n 2, 1) := by decide +kernel
theorem dL_law_201 : decode cL_law 201 = .ok (.aload_n 0, 1) := by decide +kernel
theorem dL_law_202 : decode cL_law 202 = .ok (.iload_n 3, 1) := by decide +kernel
theorem dL_law_203 : decode cL_law 203 = .ok (.iconst 1, 1) := by decide +kernel
theorem dL_law_204 : decode cL_law 204 = .ok (.iadd, 1) := by decide +kernel
theorem dL_law_205 : decode cL_law 205 = .ok (.iaload, 1) := by decide +kernel
theorem dL_law_206 : decode cL_law 206 = .ok (.i2l, 1) := by decide +kernel
theorem dL_law_207 : decode cL_law 207 = .ok (.bipush 32, 2) := by decide +kernel
theorem dL_law_209 : decode cL_law 209 = .ok (.lshl, 1) := by decide +kernel
theorem dL_law_210 : decode cL_law 210 = .ok (.aload_n 0, 1) := by decide +kernel
theorem dL_law_211 : decode cL_law 211 = .ok (.iload_n 3, 1) := by decide +kernel
theorem dL_law_212 : decode cL_law 212 = .ok (.iconst 2, 1) := by decide +kernel
theorem dL_law_213 : decode cL_law 213 = .ok (.iadd, 1) := by decide +kernel
theorem dL_law_214 : decode cL_law 214 = .ok (.iaload, 1) := by decide +kernel
theorem dL_law_215 : decode cL_law 215 = .ok (.i2l, 1) := by decide +kernel
theorem dL_law_216 : decode cL_law 216 = .ok (.ldc2_w 13, 3) := by decide +kernel
theorem dL_law_219 : decode cL_law 219 = .ok (.land, 1) := by decide +kernel
theorem dL_law_220 : decode cL_law 220 = .ok (.lor, 1) := by decide +kernel
theorem dL_law_221 : decode cL_law 221 = .ok (.invokevirtual 19, 3) := by decide +kernel
theorem dL_law_224 : decode cL_law 224 = .ok (.if_icmp .eq 1027, 3) := by decide +kernel
theorem dL_law_227 : decode cL_law 227 = .ok (.iconst 0, 1) := by decide +kernel
theorem dL_law_228 : decode cL_law 228 = .ok (.ireturn, 1) := by decide +kernel
theorem dL_law_229 : decode cL_law 229 = .ok (.aload_n 1, 1) := by decide +kernel
theorem dL_law_230 : decode cL_law 230 = .ok (.aload_n 0, 1) := by decide +kernel
theorem dL_law_231 : decode cL_law 231 = .ok (.iload_n 3, 1) := by decide +kernel
theorem dL_law_232 : decode cL_law 232 = .ok (.iconst 1, 1) := by decide +kernel
theorem dL_law_233 : decode cL_law 233 = .ok (.iadd, 1) := by decide +kernel
theorem dL_law_234 : decode cL_law 234 = .ok (.iaload, 1) := by decide +kernel
theorem dL_law_235 : decode cL_law 235 = .ok (.invokevirtual 20, 3) := by decide +kernel
theorem dL_law_238 : decode cL_law 238 = .ok (.aload_n 2, 1) := by decide +kernel
theorem dL_law_239 : decode cL_law 239 = .ok (.aload_n 0, 1) := by decide +kernel
theorem dL_law_240 : decode cL_law 240 = .ok (.iload_n 3, 1) := by decide +kernel
theorem dL_law_241 : decode cL_law 241 = .ok (.iconst 1, 1) := by decide +kernel
theorem dL_law_242 : decode cL_law 242 = .ok (.iadd, 1) := by decide +kernel
theorem dL_law_243 : decode cL_law 243 = .ok (.iaload, 1) := by decide +kernel
theorem dL_law_244 : decode cL_law 244 = .ok (.invokevirtual 24, 3) := by decide +kernel
theorem dL_law_247 : decode cL_law 247 = .ok (.if_icmp .eq 1004, 3) := by decide +kernel
theorem dL_law_250 : decode cL_law 250 = .ok (.iconst 0, 1) := by decide +kernel
theorem dL_law_251 : decode cL_law 251 = .ok (.ireturn, 1) := by decide +kernel
theorem dL_law_252 : decode cL_law 252 = .ok (.aload_n 1, 1) := by decide +kernel
theorem dL_law_253 : decode cL_law 253 = .ok (.invokevirtual 25, 3) := by decide +kernel
theorem dL_law_256 : decode cL_law 256 = .ok (.aload_n 2, 1) := by decide +kernel
theorem dL_law_257 : decode cL_law 257 = .ok (.invokevirtual 29, 3) := by decide +kernel
theorem dL_law_260 : decode cL_law 260 = .ok (.if_icmp .eq 991, 3) := by decide +kernel
theorem dL_law_263 : decode cL_law 263 = .ok (.iconst 0, 1) := by decide +kernel
theorem dL_law_264 : decode cL_law 264 = .ok (.ireturn, 1) := by decide +kernel
theorem dL_law_265 : decode cL_law 265 = .ok (.aload_n 1, 1) := by decide +kernel
theorem dL_law_266 : decode cL_law 266 = .ok (.invokevirtual 30, 3) := by decide +kernel
theorem dL_law_269 : decode cL_law 269 = .ok (.aload_n 2, 1) := by decide +kernel
theorem dL_law_270 : decode cL_law 270 = .ok (.invokevirtual 33, 3) := by decide +kernel
theorem dL_law_273 : decode cL_law 273 = .ok (.if_icmp .eq 978, 3) := by decide +kernel
theorem dL_law_276 : decode cL_law 276 = .ok (.iconst 0, 1) := by decide +kernel
theorem dL_law_277 : decode cL_law 277 = .ok (.ireturn, 1) := by decide +kernel
theorem dL_law_278 : decode cL_law 278 = .ok (.aload_n 1, 1) := by decide +kernel
theorem dL_law_279 : decode cL_law 279 = .ok (.aload_n 0, 1) := by decide +kernel
theorem dL_law_280 : decode cL_law 280 = .ok (.iload_n 3, 1) := by decide +kernel
theorem dL_law_281 : decode cL_law 281 = .ok (.iconst 1, 1) := by decide +kernel
theorem dL_law_282 : decode cL_law 282 = .ok (.iadd, 1) := by decide +kernel
theorem dL_law_283 : decode cL_law 283 = .ok (.iaload, 1) := by decide +kernel
theorem dL_law_284 : decode cL_law 284 = .ok (.invokevirtual 34, 3) := by decide +kernel
theorem dL_law_287 : decode cL_law 287 = .ok (.aload_n 2, 1) := by decide +kernel
theorem dL_law_288 : decode cL_law 288 = .ok (.aload_n 0, 1) := by decide +kernel
theorem dL_law_289 : decode cL_law 289 = .ok (.iload_n 3, 1) := by decide +kernel
theorem dL_law_290 : decode cL_law 290 = .ok (.iconst 1, 1) := by decide +kernel
theorem dL_law_291 : decode cL_law 291 = .ok (.iadd, 1) := by decide +kernel
theorem dL_law_292 : decode cL_law 292 = .ok (.iaload, 1) := by decide +kernel
theorem dL_law_293 : decode cL_law 293 = .ok (.invokevirtual 37, 3) := by decide +kernel
theorem dL_law_296 : decode cL_law 296 = .ok (.if_icmp .eq 955, 3) := by decide +kernel
theorem dL_law_299 : decode cL_law 299 = .ok (.iconst 0, 1) := by decide +kernel
theorem dL_law_300 : decode cL_law 300 = .ok (.ireturn, 1) := by decide +kernel
theorem dL_law_301 : decode cL_law 301 = .ok (.aload_n 1, 1) := by decide +kernel
theorem dL_law_302 : decode cL_law 302 = .ok (.aload_n 0, 1) := by decide +kernel
theorem dL_law_303 : decode cL_law 303 = .ok (.iload_n 3, 1) := by decide +kernel
theorem dL_law_304 : decode cL_law 304 = .ok (.iconst 1, 1) := by decide +kernel
theorem dL_law_305 : decode cL_law 305 = .ok (.iadd, 1) := by decide +kernel
theorem dL_law_306 : decode cL_law 306 = .ok (.iaload, 1) := by decide +kernel
theorem dL_law_307 : decode cL_law 307 = .ok (.aload_n 0, 1) := by decide +kernel
theorem dL_law_308 : decode cL_law 308 = .ok (.iload_n 3, 1) := by decide +kernel
theorem dL_law_309 : decode cL_law 309 = .ok (.iconst 2, 1) := by decide +kernel
theorem dL_law_310 : decode cL_law 310 = .ok (.iadd, 1) := by decide +kernel
theorem dL_law_311 : decode cL_law 311 = .ok (.iaload, 1) := by decide +kernel
theorem dL_law_312 : decode cL_law 312 = .ok (.invokevirtual 38, 3) := by decide +kernel
theorem dL_law_315 : decode cL_law 315 = .ok (.aload_n 2, 1) := by decide +kernel
theorem dL_law_316 : decode cL_law 316 = .ok (.aload_n 0, 1) := by decide +kernel
theorem dL_law_317 : decode cL_law 317 = .ok (.iload_n 3, 1) := by decide +kernel
theorem dL_law_318 : decode cL_law 318 = .ok (.iconst 1, 1) := by decide +kernel
theorem dL_law_319 : decode cL_law 319 = .ok (.iadd, 1) := by decide +kernel
theorem dL_law_320 : decode cL_law 320 = .ok (.iaload, 1) := by decide +kernel
theorem dL_law_321 : decode cL_law 321 = .ok (.aload_n 0, 1) := by decide +kernel
theorem dL_law_322 : decode cL_law 322 = .ok (.iload_n 3, 1) := by decide +kernel
theorem dL_law_323 : decode cL_law 323 = .ok (.iconst 2, 1) := by decide +kernel
theorem dL_law_324 : decode cL_law 324 = .ok (.iadd, 1) := by decide +kernel
theorem dL_law_325 : decode cL_law 325 = .ok (.iaload, 1) := by decide +kernel
theorem dL_law_326 : decode cL_law 326 = .ok (.invokevirtual 42, 3) := by decide +kernel
theorem dL_law_329 : decode cL_law 329 = .ok (.if_icmp .eq 922, 3) := by decide +kernel
theorem dL_law_332 : decode cL_law 332 = .ok (.iconst 0, 1) := by decide +kernel
theorem dL_law_333 : decode cL_law 333 = .ok (.ireturn, 1) := by decide +kernel
theorem dL_law_334 : decode cL_law 334 = .ok (.aload_n 1, 1) := by decide +kernel
theorem dL_law_335 : decode cL_law 335 = .ok (.aload_n 0, 1) := by decide +kernel
theorem dL_law_336 : decode cL_law 336 = .ok (.iload_n 3, 1) := by decide +kernel
theorem dL_law_337 : decode cL_law 337 = .ok (.iconst 1, 1) := by decide +kernel
theorem dL_law_338 : decode cL_law 338 = .ok (.iadd, 1) := by decide +kernel
theorem dL_law_339 : decode cL_law 339 = .ok (.iaload, 1) := by decide +kernel
theorem dL_law_340 : decode cL_law 340 = .ok (.aload_n 0, 1) := by decide +kernel
theorem dL_law_341 : decode cL_law 341 = .ok (.iload_n 3, 1) := by decide +kernel
theorem dL_law_342 : decode cL_law 342 = .ok (.iconst 2, 1) := by decide +kernel
theorem dL_law_343 : decode cL_law 343 = .ok (.iadd, 1) := by decide +kernel
theorem dL_law_344 : decode cL_law 344 = .ok (.iaload, 1) := by decide +kernel
theorem dL_law_345 : decode cL_law 345 = .ok (.invokevirtual 43, 3) := by decide +kernel
theorem dL_law_348 : decode cL_law 348 = .ok (.aload_n 2, 1) := by decide +kernel
theorem dL_law_349 : decode cL_law 349 = .ok (.aload_n 0, 1) := by decide +kernel
theorem dL_law_350 : decode cL_law 350 = .ok (.iload_n 3, 1) := by decide +kernel
theorem dL_law_351 : decode cL_law 351 = .ok (.iconst 1, 1) := by decide +kernel
theorem dL_law_352 : decode cL_law 352 = .ok (.iadd, 1) := by decide +kernel
theorem dL_law_353 : decode cL_law 353 = .ok (.iaload, 1) := by decide +kernel
theorem dL_law_354 : decode cL_law 354 = .ok (.aload_n 0, 1) := by decide +kernel
theorem dL_law_355 : decode cL_law 355 = .ok (.iload_n 3, 1) := by decide +kernel
theorem dL_law_356 : decode cL_law 356 = .ok (.iconst 2, 1) := by decide +kernel
theorem dL_law_357 : decode cL_law 357 = .ok (.iadd, 1) := by decide +kernel
theorem dL_law_358 : decode cL_law 358 = .ok (.iaload, 1) := by decide +kernel
theorem dL_law_359 : decode cL_law 359 = .ok (.invokevirtual 46, 3) := by decide +kernel
theorem dL_law_362 : decode cL_law 362 = .ok (.if_icmp .eq 889, 3) := by decide +kernel
theorem dL_law_365 : decode cL_law 365 = .ok (.iconst 0, 1) := by decide +kernel
theorem dL_law_366 : decode cL_law 366 = .ok (.ireturn, 1) := by decide +kernel
theorem dL_law_367 : decode cL_law 367 = .ok (.aload_n 1, 1) := by decide +kernel
theorem dL_law_368 : decode cL_law 368 = .ok (.aload_n 0, 1) := by decide +kernel
theorem dL_law_369 : decode cL_law 369 = .ok (.iload_n 3, 1) := by decide +kernel
theorem dL_law_370 : decode cL_law 370 = .ok (.iconst 1, 1) := by decide +kernel
theorem dL_law_371 : decode cL_law 371 = .ok (.iadd, 1) := by decide +kernel
theorem dL_law_372 : decode cL_law 372 = .ok (.iaload, 1) := by decide +kernel
theorem dL_law_373 : decode cL_law 373 = .ok (.invokevirtual 47, 3) := by decide +kernel
theorem dL_law_376 : decode cL_law 376 = .ok (.aload_n 2, 1) := by decide +kernel
theorem dL_law_377 : decode cL_law 377 = .ok (.aload_n 0, 1) := by decide +kernel
theorem dL_law_378 : decode cL_law 378 = .ok (.iload_n 3, 1) := by decide +kernel
theorem dL_law_379 : decode cL_law 379 = .ok (.iconst 1, 1) := by decide +kernel
theorem dL_law_380 : decode cL_law 380 = .ok (.iadd, 1) := by decide +kernel
theorem dL_law_381 : decode cL_law 381 = .ok (.iaload, 1) := by decide +kernel
theorem dL_law_382 : decode cL_law 382 = .ok (.invokevirtual 50, 3) := by decide +kernel
theorem dL_law_385 : decode cL_law 385 = .ok (.if_icmp .eq 866, 3) := by decide +kernel
theorem dL_law_388 : decode cL_law 388 = .ok (.iconst 0, 1) := by decide +kernel
theorem dL_law_389 : decode cL_law 389 = .ok (.ireturn, 1) := by decide +kernel
theorem dL_law_390 : decode cL_law 390 = .ok (.aload_n 1, 1) := by decide +kernel
theorem dL_law_391 : decode cL_law 391 = .ok (.aload_n 0, 1) := by decide +kernel
theorem dL_law_392 : decode cL_law 392 = .ok (.iload_n 3, 1) := by decide +kernel
theorem dL_law_393 : decode cL_law 393 = .ok (.iconst 1, 1) := by decide +kernel
theorem dL_law_394 : decode cL_law 394 = .ok (.iadd, 1) := by decide +kernel
theorem dL_law_395 : decode cL_law 395 = .ok (.iaload, 1) := by decide +kernel
theorem dL_law_396 : decode cL_law 396 = .ok (.aload_n 0, 1) := by decide +kernel
theorem dL_law_397 : decode cL_law 397 = .ok (.iload_n 3, 1) := by decide +kernel
theorem dL_law_398 : decode cL_law 398 = .ok (.iconst 2, 1) := by decide +kernel
theorem dL_law_399 : decode cL_law 399 = .ok (.iadd, 1) := by decide +kernel
theorem dL_law_400 : decode cL_law 400 = .ok (.iaload, 1) := by decide +kernel
theorem dL_law_401 : decode cL_law 401 = .ok (.invokevirtual 51, 3) := by decide +kernel
theorem dL_law_404 : decode cL_law 404 = .ok (.aload_n 2, 1) := by decide +kernel
theorem dL_law_405 : decode cL_law 405 = .ok (.aload_n 0, 1) := by decide +kernel
theorem dL_law_406 : decode cL_law 406 = .ok (.iload_n 3, 1) := by decide +kernel
theorem dL_law_407 : decode cL_law 407 = .ok (.iconst 1, 1) := by decide +kernel
theorem dL_law_408 : decode cL_law 408 = .ok (.iadd, 1) := by decide +kernel
theorem dL_law_409 : decode cL_law 409 = .ok (.iaload, 1) := by decide +kernel
theorem dL_law_410 : decode cL_law 410 = .ok (.aload_n 0, 1) := by decide +kernel
theorem dL_law_411 : decode cL_law 411 = .ok (.iload_n 3, 1) := by decide +kernel
theorem dL_law_412 : decode cL_law 412 = .ok (.iconst 2, 1) := by decide +kernel
theorem dL_law_413 : decode cL_law 413 = .ok (.iadd, 1) := by decide +kernel
theorem dL_law_414 : decode cL_law 414 = .ok (.iaload, 1) := by decide +kernel
theorem dL_law_415 : decode cL_law 415 = .ok (.invokevirtual 55, 3) := by decide +kernel
theorem dL_law_418 : decode cL_law 418 = .ok (.lcmp, 1) := by decide +kernel
theorem dL_law_419 : decode cL_law 419 = .ok (.ifCond .eq 832, 3) := by decide +kernel
theorem dL_law_422 : decode cL_law 422 = .ok (.iconst 0, 1) := by decide +kernel
theorem dL_law_423 : decode cL_law 423 = .ok (.ireturn, 1) := by decide +kernel
theorem dL_law_424 : decode cL_law 424 = .ok (.aload_n 1, 1) := by decide +kernel
theorem dL_law_425 : decode cL_law 425 = .ok (.aload_n 0, 1) := by decide +kernel
theorem dL_law_426 : decode cL_law 426 = .ok (.iload_n 3, 1) := by decide +kernel
theorem dL_law_427 : decode cL_law 427 = .ok (.iconst 1, 1) := by decide +kernel
theorem dL_law_428 : decode cL_law 428 = .ok (.iadd, 1) := by decide +kernel
theorem dL_law_429 : decode cL_law 429 = .ok (.iaload, 1) := by decide +kernel
theorem dL_law_430 : decode cL_law 430 = .ok (.aload_n 0, 1) := by decide +kernel
theorem dL_law_431 : decode cL_law 431 = .ok (.iload_n 3, 1) := by decide +kernel
theorem dL_law_432 : decode cL_law 432 = .ok (.iconst 2, 1) := by decide +kernel
theorem dL_law_433 : decode cL_law 433 = .ok (.iadd, 1) := by decide +kernel
theorem dL_law_434 : decode cL_law 434 = .ok (.iaload, 1) := by decide +kernel
theorem dL_law_435 : decode cL_law 435 = .ok (.invokevirtual 56, 3) := by decide +kernel
theorem dL_law_438 : decode cL_law 438 = .ok (.aload_n 2, 1) := by decide +kernel
theorem dL_law_439 : decode cL_law 439 = .ok (.aload_n 0, 1) := by decide +kernel
theorem dL_law_440 : decode cL_law 440 = .ok (.iload_n 3, 1) := by decide +kernel
theorem dL_law_441 : decode cL_law 441 = .ok (.iconst 1, 1) := by decide +kernel
theorem dL_law_442 : decode cL_law 442 = .ok (.iadd, 1) := by decide +kernel
theorem dL_law_443 : decode cL_law 443 = .ok (.iaload, 1) := by decide +kernel
theorem dL_law_444 : decode cL_law 444 = .ok (.aload_n 0, 1) := by decide +kernel
theorem dL_law_445 : decode cL_law 445 = .ok (.iload_n 3, 1) := by decide +kernel
theorem dL_law_446 : decode cL_law 446 = .ok (.iconst 2, 1) := by decide +kernel
theorem dL_law_447 : decode cL_law 447 = .ok (.iadd, 1) := by decide +kernel
theorem dL_law_448 : decode cL_law 448 = .ok (.iaload, 1) := by decide +kernel
theorem dL_law_449 : decode cL_law 449 = .ok (.invokevirtual 59, 3) := by decide +kernel
theorem dL_law_452 : decode cL_law 452 = .ok (.lcmp, 1) := by decide +kernel
theorem dL_law_453 : decode cL_law 453 = .ok (.ifCond .eq 798, 3) := by decide +kernel
theorem dL_law_456 : decode cL_law 456 = .ok (.iconst 0, 1) := by decide +kernel
theorem dL_law_457 : decode cL_law 457 = .ok (.ireturn, 1) := by decide +kernel
theorem dL_law_458 : decode cL_law 458 = .ok (.aload_n 1, 1) := by decide +kernel
theorem dL_law_459 : decode cL_law 459 = .ok (.aload_n 0, 1) := by decide +kernel
theorem dL_law_460 : decode cL_law 460 = .ok (.iload_n 3, 1) := by decide +kernel
theorem dL_law_461 : decode cL_law 461 = .ok (.iconst 1, 1) := by decide +kernel
theorem dL_law_462 : decode cL_law 462 = .ok (.iadd, 1) := by decide +kernel
theorem dL_law_463 : decode cL_law 463 = .ok (.iaload, 1) := by decide +kernel
theorem dL_law_464 : decode cL_law 464 = .ok (.invokevirtual 60, 3) := by decide +kernel
theorem dL_law_467 : decode cL_law 467 = .ok (.aload_n 2, 1) := by decide +kernel
theorem dL_law_468 : decode cL_law 468 = .ok (.aload_n 0, 1) := by decide +kernel
theorem dL_law_469 : decode cL_law 469 = .ok (.iload_n 3, 1) := by decide +kernel
theorem dL_law_470 : decode cL_law 470 = .ok (.iconst 1, 1) := by decide +kernel
theorem dL_law_471 : decode cL_law 471 = .ok (.iadd, 1) := by decide +kernel
theorem dL_law_472 : decode cL_law 472 = .ok (.iaload, 1) := by decide +kernel
theorem dL_law_473 : decode cL_law 473 = .ok (.invokevirtual 63, 3) := by decide +kernel
theorem dL_law_476 : decode cL_law 476 = .ok (.if_icmp .eq 775, 3) := by decide +kernel
theorem dL_law_479 : decode cL_law 479 = .ok (.iconst 0, 1) := by decide +kernel
theorem dL_law_480 : decode cL_law 480 = .ok (.ireturn, 1) := by decide +kernel
theorem dL_law_481 : decode cL_law 481 = .ok (.aload_n 1, 1) := by decide +kernel
theorem dL_law_482 : decode cL_law 482 = .ok (.aload_n 0, 1) := by decide +kernel
theorem dL_law_483 : decode cL_law 483 = .ok (.iload_n 3, 1) := by decide +kernel
theorem dL_law_484 : decode cL_law 484 = .ok (.iconst 1, 1) := by decide +kernel
theorem dL_law_485 : decode cL_law 485 = .ok (.iadd, 1) := by decide +kernel
theorem dL_law_486 : decode cL_law 486 = .ok (.iaload, 1) := by decide +kernel
theorem dL_law_487 : decode cL_law 487 = .ok (.invokevirtual 64, 3) := by decide +kernel
theorem dL_law_490 : decode cL_law 490 = .ok (.aload_n 2, 1) := by decide +kernel
theorem dL_law_491 : decode cL_law 491 = .ok (.aload_n 0, 1) := by decide +kernel
theorem dL_law_492 : decode cL_law 492 = .ok (.iload_n 3, 1) := by decide +kernel
theorem dL_law_493 : decode cL_law 493 = .ok (.iconst 1, 1) := by decide +kernel
theorem dL_law_494 : decode cL_law 494 = .ok (.iadd, 1) := by decide +kernel
theorem dL_law_495 : decode cL_law 495 = .ok (.iaload, 1) := by decide +kernel
theorem dL_law_496 : decode cL_law 496 = .ok (.invokevirtual 68, 3) := by decide +kernel
theorem dL_law_499 : decode cL_law 499 = .ok (.lcmp, 1) := by decide +kernel
theorem dL_law_500 : decode cL_law 500 = .ok (.ifCond .eq 751, 3) := by decide +kernel
theorem dL_law_503 : decode cL_law 503 = .ok (.iconst 0, 1) := by decide +kernel
theorem dL_law_504 : decode cL_law 504 = .ok (.ireturn, 1) := by decide +kernel
theorem dL_law_505 : decode cL_law 505 = .ok (.aload_n 1, 1) := by decide +kernel
theorem dL_law_506 : decode cL_law 506 = .ok (.aload_n 0, 1) := by decide +kernel
theorem dL_law_507 : decode cL_law 507 = .ok (.iload_n 3, 1) := by decide +kernel
theorem dL_law_508 : decode cL_law 508 = .ok (.iconst 1, 1) := by decide +kernel
theorem dL_law_509 : decode cL_law 509 = .ok (.iadd, 1) := by decide +kernel
theorem dL_law_510 : decode cL_law 510 = .ok (.iaload, 1) := by decide +kernel
theorem dL_law_511 : decode cL_law 511 = .ok (.invokevirtual 69, 3) := by decide +kernel
theorem dL_law_514 : decode cL_law 514 = .ok (.aload_n 2, 1) := by decide +kernel
theorem dL_law_515 : decode cL_law 515 = .ok (.aload_n 0, 1) := by decide +kernel
theorem dL_law_516 : decode cL_law 516 = .ok (.iload_n 3, 1) := by decide +kernel
theorem dL_law_517 : decode cL_law 517 = .ok (.iconst 1, 1) := by decide +kernel
theorem dL_law_518 : decode cL_law 518 = .ok (.iadd, 1) := by decide +kernel
theorem dL_law_519 : decode cL_law 519 = .ok (.iaload, 1) := by decide +kernel
theorem dL_law_520 : decode cL_law 520 = .ok (.invokevirtual 72, 3) := by decide +kernel
theorem dL_law_523 : decode cL_law 523 = .ok (.lcmp, 1) := by decide +kernel
theorem dL_law_524 : decode cL_law 524 = .ok (.ifCond .eq 727, 3) := by decide +kernel
theorem dL_law_527 : decode cL_law 527 = .ok (.iconst 0, 1) := by decide +kernel
theorem dL_law_528 : decode cL_law 528 = .ok (.ireturn, 1) := by decide +kernel
theorem dL_law_529 : decode cL_law 529 = .ok (.aload_n 1, 1) := by decide +kernel
theorem dL_law_530 : decode cL_law 530 = .ok (.aload_n 0, 1) := by decide +kernel
theorem dL_law_531 : decode cL_law 531 = .ok (.iload_n 3, 1) := by decide +kernel
theorem dL_law_532 : decode cL_law 532 = .ok (.iconst 1, 1) := by decide +kernel
theorem dL_law_533 : decode cL_law 533 = .ok (.iadd, 1) := by decide +kernel
theorem dL_law_534 : decode cL_law 534 = .ok (.iaload, 1) := by decide +kernel
theorem dL_law_535 : decode cL_law 535 = .ok (.invokevirtual 73, 3) := by decide +kernel
theorem dL_law_538 : decode cL_law 538 = .ok (.aload_n 2, 1) := by decide +kernel
theorem dL_law_539 : decode cL_law 539 = .ok (.aload_n 0, 1) := by decide +kernel
theorem dL_law_540 : decode cL_law 540 = .ok (.iload_n 3, 1) := by decide +kernel
theorem dL_law_541 : decode cL_law 541 = .ok (.iconst 1, 1) := by decide +kernel
theorem dL_law_542 : decode cL_law 542 = .ok (.iadd, 1) := by decide +kernel
theorem dL_law_543 : decode cL_law 543 = .ok (.iaload, 1) := by decide +kernel
theorem dL_law_544 : decode cL_law 544 = .ok (.invokevirtual 76, 3) := by decide +kernel
theorem dL_law_547 : decode cL_law 547 = .ok (.lcmp, 1) := by decide +kernel
theorem dL_law_548 : decode cL_law 548 = .ok (.ifCond .eq 703, 3) := by decide +kernel
theorem dL_law_551 : decode cL_law 551 = .ok (.iconst 0, 1) := by decide +kernel
theorem dL_law_552 : decode cL_law 552 = .ok (.ireturn, 1) := by decide +kernel
theorem dL_law_553 : decode cL_law 553 = .ok (.aload_n 1, 1) := by decide +kernel
theorem dL_law_554 : decode cL_law 554 = .ok (.aload_n 0, 1) := by decide +kernel
theorem dL_law_555 : decode cL_law 555 = .ok (.iload_n 3, 1) := by decide +kernel
theorem dL_law_556 : decode cL_law 556 = .ok (.iconst 1, 1) := by decide +kernel
theorem dL_law_557 : decode cL_law 557 = .ok (.iadd, 1) := by decide +kernel
theorem dL_law_558 : decode cL_law 558 = .ok (.iaload, 1) := by decide +kernel
theorem dL_law_559 : decode cL_law 559 = .ok (.aload_n 0, 1) := by decide +kernel
theorem dL_law_560 : decode cL_law 560 = .ok (.iload_n 3, 1) := by decide +kernel
theorem dL_law_561 : decode cL_law 561 = .ok (.iconst 2, 1) := by decide +kernel
theorem dL_law_562 : decode cL_law 562 = .ok (.iadd, 1) := by decide +kernel
theorem dL_law_563 : decode cL_law 563 = .ok (.iaload, 1) := by decide +kernel
theorem dL_law_564 : decode cL_law 564 = .ok (.invokevirtual 77, 3) := by decide +kernel
theorem dL_law_567 : decode cL_law 567 = .ok (.aload_n 2, 1) := by decide +kernel
theorem dL_law_568 : decode cL_law 568 = .ok (.aload_n 0, 1) := by decide +kernel
theorem dL_law_569 : decode cL_law 569 = .ok (.iload_n 3, 1) := by decide +kernel
theorem dL_law_570 : decode cL_law 570 = .ok (.iconst 1, 1) := by decide +kernel
theorem dL_law_571 : decode cL_law 571 = .ok (.iadd, 1) := by decide +kernel
theorem dL_law_572 : decode cL_law 572 = .ok (.iaload, 1) := by decide +kernel
theorem dL_law_573 : decode cL_law 573 = .ok (.aload_n 0, 1) := by decide +kernel
theorem dL_law_574 : decode cL_law 574 = .ok (.iload_n 3, 1) := by decide +kernel
theorem dL_law_575 : decode cL_law 575 = .ok (.iconst 2, 1) := by decide +kernel
theorem dL_law_576 : decode cL_law 576 = .ok (.iadd, 1) := by decide +kernel
theorem dL_law_577 : decode cL_law 577 = .ok (.iaload, 1) := by decide +kernel
theorem dL_law_578 : decode cL_law 578 = .ok (.invokevirtual 80, 3) := by decide +kernel
theorem dL_law_581 : decode cL_law 581 = .ok (.lcmp, 1) := by decide +kernel
theorem dL_law_582 : decode cL_law 582 = .ok (.ifCond .eq 669, 3) := by decide +kernel
theorem dL_law_585 : decode cL_law 585 = .ok (.iconst 0, 1) := by decide +kernel
theorem dL_law_586 : decode cL_law 586 = .ok (.ireturn, 1) := by decide +kernel
theorem dL_law_587 : decode cL_law 587 = .ok (.aload_n 1, 1) := by decide +kernel
theorem dL_law_588 : decode cL_law 588 = .ok (.aload_n 0, 1) := by decide +kernel
theorem dL_law_589 : decode cL_law 589 = .ok (.iload_n 3, 1) := by decide +kernel
theorem dL_law_590 : decode cL_law 590 = .ok (.iconst 1, 1) := by decide +kernel
theorem dL_law_591 : decode cL_law 591 = .ok (.iadd, 1) := by decide +kernel
theorem dL_law_592 : decode cL_law 592 = .ok (.iaload, 1) := by decide +kernel
theorem dL_law_593 : decode cL_law 593 = .ok (.aload_n 0, 1) := by decide +kernel
theorem dL_law_594 : decode cL_law 594 = .ok (.iload_n 3, 1) := by decide +kernel
theorem dL_law_595 : decode cL_law 595 = .ok (.iconst 2, 1) := by decide +kernel
theorem dL_law_596 : decode cL_law 596 = .ok (.iadd, 1) := by decide +kernel
theorem dL_law_597 : decode cL_law 597 = .ok (.iaload, 1) := by decide +kernel
theorem dL_law_598 : decode cL_law 598 = .ok (.aload_n 0, 1) := by decide +kernel
theorem dL_law_599 : decode cL_law 599 = .ok (.iload_n 3, 1) := by decide +kernel
theorem dL_law_600 : decode cL_law 600 = .ok (.iconst 3, 1) := by decide +kernel
theorem dL_law_601 : decode cL_law 601 = .ok (.iadd, 1) := by decide +kernel
theorem dL_law_602 : decode cL_law 602 = .ok (.iaload, 1) := by decide +kernel
theorem dL_law_603 : decode cL_law 603 = .ok (.invokevirtual 81, 3) := by decide +kernel
theorem dL_law_606 : decode cL_law 606 = .ok (.aload_n 2, 1) := by decide +kernel
theorem dL_law_607 : decode cL_law 607 = .ok (.aload_n 0, 1) := by decide +kernel
theorem dL_law_608 : decode cL_law 608 = .ok (.iload_n 3, 1) := by decide +kernel
theorem dL_law_609 : decode cL_law 609 = .ok (.iconst 1, 1) := by decide +kernel
theorem dL_law_610 : decode cL_law 610 = .ok (.iadd, 1) := by decide +kernel
theorem dL_law_611 : decode cL_law 611 = .ok (.iaload, 1) := by decide +kernel
theorem dL_law_612 : decode cL_law 612 = .ok (.aload_n 0, 1) := by decide +kernel
theorem dL_law_613 : decode cL_law 613 = .ok (.iload_n 3, 1) := by decide +kernel
theorem dL_law_614 : decode cL_law 614 = .ok (.iconst 2, 1) := by decide +kernel
theorem dL_law_615 : decode cL_law 615 = .ok (.iadd, 1) := by decide +kernel
theorem dL_law_616 : decode cL_law 616 = .ok (.iaload, 1) := by decide +kernel
theorem dL_law_617 : decode cL_law 617 = .ok (.aload_n 0, 1) := by decide +kernel
theorem dL_law_618 : decode cL_law 618 = .ok (.iload_n 3, 1) := by decide +kernel
theorem dL_law_619 : decode cL_law 619 = .ok (.iconst 3, 1) := by decide +kernel
theorem dL_law_620 : decode cL_law 620 = .ok (.iadd, 1) := by decide +kernel
theorem dL_law_621 : decode cL_law 621 = .ok (.iaload, 1) := by decide +kernel
theorem dL_law_622 : decode cL_law 622 = .ok (.invokevirtual 85, 3) := by decide +kernel
theorem dL_law_625 : decode cL_law 625 = .ok (.lcmp, 1) := by decide +kernel
theorem dL_law_626 : decode cL_law 626 = .ok (.ifCond .eq 625, 3) := by decide +kernel
theorem dL_law_629 : decode cL_law 629 = .ok (.iconst 0, 1) := by decide +kernel
theorem dL_law_630 : decode cL_law 630 = .ok (.ireturn, 1) := by decide +kernel
theorem dL_law_631 : decode cL_law 631 = .ok (.aload_n 1, 1) := by decide +kernel
theorem dL_law_632 : decode cL_law 632 = .ok (.aload_n 0, 1) := by decide +kernel
theorem dL_law_633 : decode cL_law 633 = .ok (.iload_n 3, 1) := by decide +kernel
theorem dL_law_634 : decode cL_law 634 = .ok (.iconst 1, 1) := by decide +kernel
theorem dL_law_635 : decode cL_law 635 = .ok (.iadd, 1) := by decide +kernel
theorem dL_law_636 : decode cL_law 636 = .ok (.iaload, 1) := by decide +kernel
theorem dL_law_637 : decode cL_law 637 = .ok (.aload_n 0, 1) := by decide +kernel
theorem dL_law_638 : decode cL_law 638 = .ok (.iload_n 3, 1) := by decide +kernel
theorem dL_law_639 : decode cL_law 639 = .ok (.iconst 2, 1) := by decide +kernel
theorem dL_law_640 : decode cL_law 640 = .ok (.iadd, 1) := by decide +kernel
theorem dL_law_641 : decode cL_law 641 = .ok (.iaload, 1) := by decide +kernel
theorem dL_law_642 : decode cL_law 642 = .ok (.invokevirtual 86, 3) := by decide +kernel
theorem dL_law_645 : decode cL_law 645 = .ok (.aload_n 2, 1) := by decide +kernel
theorem dL_law_646 : decode cL_law 646 = .ok (.aload_n 0, 1) := by decide +kernel
theorem dL_law_647 : decode cL_law 647 = .ok (.iload_n 3, 1) := by decide +kernel
theorem dL_law_648 : decode cL_law 648 = .ok (.iconst 1, 1) := by decide +kernel
theorem dL_law_649 : decode cL_law 649 = .ok (.iadd, 1) := by decide +kernel
theorem dL_law_650 : decode cL_law 650 = .ok (.iaload, 1) := by decide +kernel
theorem dL_law_651 : decode cL_law 651 = .ok (.aload_n 0, 1) := by decide +kernel
theorem dL_law_652 : decode cL_law 652 = .ok (.iload_n 3, 1) := by decide +kernel
theorem dL_law_653 : decode cL_law 653 = .ok (.iconst 2, 1) := by decide +kernel
theorem dL_law_654 : decode cL_law 654 = .ok (.iadd, 1) := by decide +kernel
theorem dL_law_655 : decode cL_law 655 = .ok (.iaload, 1) := by decide +kernel
theorem dL_law_656 : decode cL_law 656 = .ok (.invokevirtual 89, 3) := by decide +kernel
theorem dL_law_659 : decode cL_law 659 = .ok (.if_icmp .eq 592, 3) := by decide +kernel
theorem dL_law_662 : decode cL_law 662 = .ok (.iconst 0, 1) := by decide +kernel
theorem dL_law_663 : decode cL_law 663 = .ok (.ireturn, 1) := by decide +kernel
theorem dL_law_664 : decode cL_law 664 = .ok (.aload_n 1, 1) := by decide +kernel
theorem dL_law_665 : decode cL_law 665 = .ok (.aload_n 0, 1) := by decide +kernel
theorem dL_law_666 : decode cL_law 666 = .ok (.iload_n 3, 1) := by decide +kernel
theorem dL_law_667 : decode cL_law 667 = .ok (.iconst 1, 1) := by decide +kernel
theorem dL_law_668 : decode cL_law 668 = .ok (.iadd, 1) := by decide +kernel
theorem dL_law_669 : decode cL_law 669 = .ok (.iaload, 1) := by decide +kernel
theorem dL_law_670 : decode cL_law 670 = .ok (.aload_n 0, 1) := by decide +kernel
theorem dL_law_671 : decode cL_law 671 = .ok (.iload_n 3, 1) := by decide +kernel
theorem dL_law_672 : decode cL_law 672 = .ok (.iconst 2, 1) := by decide +kernel
theorem dL_law_673 : decode cL_law 673 = .ok (.iadd, 1) := by decide +kernel
theorem dL_law_674 : decode cL_law 674 = .ok (.iaload, 1) := by decide +kernel
theorem dL_law_675 : decode cL_law 675 = .ok (.aload_n 0, 1) := by decide +kernel
theorem dL_law_676 : decode cL_law 676 = .ok (.iload_n 3, 1) := by decide +kernel
theorem dL_law_677 : decode cL_law 677 = .ok (.iconst 3, 1) := by decide +kernel
theorem dL_law_678 : decode cL_law 678 = .ok (.iadd, 1) := by decide +kernel
theorem dL_law_679 : decode cL_law 679 = .ok (.iaload, 1) := by decide +kernel
theorem dL_law_680 : decode cL_law 680 = .ok (.invokevirtual 90, 3) := by decide +kernel
theorem dL_law_683 : decode cL_law 683 = .ok (.aload_n 2, 1) := by decide +kernel
theorem dL_law_684 : decode cL_law 684 = .ok (.aload_n 0, 1) := by decide +kernel
theorem dL_law_685 : decode cL_law 685 = .ok (.iload_n 3, 1) := by decide +kernel
theorem dL_law_686 : decode cL_law 686 = .ok (.iconst 1, 1) := by decide +kernel
theorem dL_law_687 : decode cL_law 687 = .ok (.iadd, 1) := by decide +kernel
theorem dL_law_688 : decode cL_law 688 = .ok (.iaload, 1) := by decide +kernel
theorem dL_law_689 : decode cL_law 689 = .ok (.aload_n 0, 1) := by decide +kernel
theorem dL_law_690 : decode cL_law 690 = .ok (.iload_n 3, 1) := by decide +kernel
theorem dL_law_691 : decode cL_law 691 = .ok (.iconst 2, 1) := by decide +kernel
theorem dL_law_692 : decode cL_law 692 = .ok (.iadd, 1) := by decide +kernel
theorem dL_law_693 : decode cL_law 693 = .ok (.iaload, 1) := by decide +kernel
theorem dL_law_694 : decode cL_law 694 = .ok (.aload_n 0, 1) := by decide +kernel
theorem dL_law_695 : decode cL_law 695 = .ok (.iload_n 3, 1) := by decide +kernel
theorem dL_law_696 : decode cL_law 696 = .ok (.iconst 3, 1) := by decide +kernel
theorem dL_law_697 : decode cL_law 697 = .ok (.iadd, 1) := by decide +kernel
theorem dL_law_698 : decode cL_law 698 = .ok (.iaload, 1) := by decide +kernel
theorem dL_law_699 : decode cL_law 699 = .ok (.invokevirtual 94, 3) := by decide +kernel
theorem dL_law_702 : decode cL_law 702 = .ok (.if_icmp .eq 549, 3) := by decide +kernel
theorem dL_law_705 : decode cL_law 705 = .ok (.iconst 0, 1) := by decide +kernel
theorem dL_law_706 : decode cL_law 706 = .ok (.ireturn, 1) := by decide +kernel
theorem dL_law_707 : decode cL_law 707 = .ok (.aload_n 1, 1) := by decide +kernel
theorem dL_law_708 : decode cL_law 708 = .ok (.aload_n 0, 1) := by decide +kernel
theorem dL_law_709 : decode cL_law 709 = .ok (.iload_n 3, 1) := by decide +kernel
theorem dL_law_710 : decode cL_law 710 = .ok (.iconst 1, 1) := by decide +kernel
theorem dL_law_711 : decode cL_law 711 = .ok (.iadd, 1) := by decide +kernel
theorem dL_law_712 : decode cL_law 712 = .ok (.iaload, 1) := by decide +kernel
theorem dL_law_713 : decode cL_law 713 = .ok (.aload_n 0, 1) := by decide +kernel
theorem dL_law_714 : decode cL_law 714 = .ok (.iload_n 3, 1) := by decide +kernel
theorem dL_law_715 : decode cL_law 715 = .ok (.iconst 2, 1) := by decide +kernel
theorem dL_law_716 : decode cL_law 716 = .ok (.iadd, 1) := by decide +kernel
theorem dL_law_717 : decode cL_law 717 = .ok (.iaload, 1) := by decide +kernel
theorem dL_law_718 : decode cL_law 718 = .ok (.invokevirtual 95, 3) := by decide +kernel
theorem dL_law_721 : decode cL_law 721 = .ok (.aload_n 2, 1) := by decide +kernel
theorem dL_law_722 : decode cL_law 722 = .ok (.aload_n 0, 1) := by decide +kernel
theorem dL_law_723 : decode cL_law 723 = .ok (.iload_n 3, 1) := by decide +kernel
theorem dL_law_724 : decode cL_law 724 = .ok (.iconst 1, 1) := by decide +kernel
theorem dL_law_725 : decode cL_law 725 = .ok (.iadd, 1) := by decide +kernel
theorem dL_law_726 : decode cL_law 726 = .ok (.iaload, 1) := by decide +kernel
theorem dL_law_727 : decode cL_law 727 = .ok (.aload_n 0, 1) := by decide +kernel
theorem dL_law_728 : decode cL_law 728 = .ok (.iload_n 3, 1) := by decide +kernel
theorem dL_law_729 : decode cL_law 729 = .ok (.iconst 2, 1) := by decide +kernel
theorem dL_law_730 : decode cL_law 730 = .ok (.iadd, 1) := by decide +kernel
theorem dL_law_731 : decode cL_law 731 = .ok (.iaload, 1) := by decide +kernel
theorem dL_law_732 : decode cL_law 732 = .ok (.invokevirtual 98, 3) := by decide +kernel
theorem dL_law_735 : decode cL_law 735 = .ok (.if_icmp .eq 516, 3) := by decide +kernel
theorem dL_law_738 : decode cL_law 738 = .ok (.iconst 0, 1) := by decide +kernel
theorem dL_law_739 : decode cL_law 739 = .ok (.ireturn, 1) := by decide +kernel
theorem dL_law_740 : decode cL_law 740 = .ok (.aload_n 1, 1) := by decide +kernel
theorem dL_law_741 : decode cL_law 741 = .ok (.aload_n 0, 1) := by decide +kernel
theorem dL_law_742 : decode cL_law 742 = .ok (.iload_n 3, 1) := by decide +kernel
theorem dL_law_743 : decode cL_law 743 = .ok (.iconst 1, 1) := by decide +kernel
theorem dL_law_744 : decode cL_law 744 = .ok (.iadd, 1) := by decide +kernel
theorem dL_law_745 : decode cL_law 745 = .ok (.iaload, 1) := by decide +kernel
theorem dL_law_746 : decode cL_law 746 = .ok (.aload_n 0, 1) := by decide +kernel
theorem dL_law_747 : decode cL_law 747 = .ok (.iload_n 3, 1) := by decide +kernel
theorem dL_law_748 : decode cL_law 748 = .ok (.iconst 2, 1) := by decide +kernel
theorem dL_law_749 : decode cL_law 749 = .ok (.iadd, 1) := by decide +kernel
theorem dL_law_750 : decode cL_law 750 = .ok (.iaload, 1) := by decide +kernel
theorem dL_law_751 : decode cL_law 751 = .ok (.invokevirtual 99, 3) := by decide +kernel
theorem dL_law_754 : decode cL_law 754 = .ok (.aload_n 2, 1) := by decide +kernel
theorem dL_law_755 : decode cL_law 755 = .ok (.aload_n 0, 1) := by decide +kernel
theorem dL_law_756 : decode cL_law 756 = .ok (.iload_n 3, 1) := by decide +kernel
theorem dL_law_757 : decode cL_law 757 = .ok (.iconst 1, 1) := by decide +kernel
theorem dL_law_758 : decode cL_law 758 = .ok (.iadd, 1) := by decide +kernel
theorem dL_law_759 : decode cL_law 759 = .ok (.iaload, 1) := by decide +kernel
theorem dL_law_760 : decode cL_law 760 = .ok (.aload_n 0, 1) := by decide +kernel
theorem dL_law_761 : decode cL_law 761 = .ok (.iload_n 3, 1) := by decide +kernel
theorem dL_law_762 : decode cL_law 762 = .ok (.iconst 2, 1) := by decide +kernel
theorem dL_law_763 : decode cL_law 763 = .ok (.iadd, 1) := by decide +kernel
theorem dL_law_764 : decode cL_law 764 = .ok (.iaload, 1) := by decide +kernel
theorem dL_law_765 : decode cL_law 765 = .ok (.invokevirtual 102, 3) := by decide +kernel
theorem dL_law_768 : decode cL_law 768 = .ok (.if_icmp .eq 483, 3) := by decide +kernel
theorem dL_law_771 : decode cL_law 771 = .ok (.iconst 0, 1) := by decide +kernel
theorem dL_law_772 : decode cL_law 772 = .ok (.ireturn, 1) := by decide +kernel
theorem dL_law_773 : decode cL_law 773 = .ok (.aload_n 1, 1) := by decide +kernel
theorem dL_law_774 : decode cL_law 774 = .ok (.aload_n 0, 1) := by decide +kernel
theorem dL_law_775 : decode cL_law 775 = .ok (.iload_n 3, 1) := by decide +kernel
theorem dL_law_776 : decode cL_law 776 = .ok (.iconst 1, 1) := by decide +kernel
theorem dL_law_777 : decode cL_law 777 = .ok (.iadd, 1) := by decide +kernel
theorem dL_law_778 : decode cL_law 778 = .ok (.iaload, 1) := by decide +kernel
theorem dL_law_779 : decode cL_law 779 = .ok (.aload_n 0, 1) := by decide +kernel
theorem dL_law_780 : decode cL_law 780 = .ok (.iload_n 3, 1) := by decide +kernel
theorem dL_law_781 : decode cL_law 781 = .ok (.iconst 2, 1) := by decide +kernel
theorem dL_law_782 : decode cL_law 782 = .ok (.iadd, 1) := by decide +kernel
theorem dL_law_783 : decode cL_law 783 = .ok (.iaload, 1) := by decide +kernel
theorem dL_law_784 : decode cL_law 784 = .ok (.aload_n 0, 1) := by decide +kernel
theorem dL_law_785 : decode cL_law 785 = .ok (.iload_n 3, 1) := by decide +kernel
theorem dL_law_786 : decode cL_law 786 = .ok (.iconst 3, 1) := by decide +kernel
theorem dL_law_787 : decode cL_law 787 = .ok (.iadd, 1) := by decide +kernel
theorem dL_law_788 : decode cL_law 788 = .ok (.iaload, 1) := by decide +kernel
theorem dL_law_789 : decode cL_law 789 = .ok (.aload_n 0, 1) := by decide +kernel
theorem dL_law_790 : decode cL_law 790 = .ok (.iload_n 3, 1) := by decide +kernel
theorem dL_law_791 : decode cL_law 791 = .ok (.iconst 4, 1) := by decide +kernel
theorem dL_law_792 : decode cL_law 792 = .ok (.iadd, 1) := by decide +kernel
theorem dL_law_793 : decode cL_law 793 = .ok (.iaload, 1) := by decide +kernel
theorem dL_law_794 : decode cL_law 794 = .ok (.invokevirtual 103, 3) := by decide +kernel
theorem dL_law_797 : decode cL_law 797 = .ok (.aload_n 2, 1) := by decide +kernel
theorem dL_law_798 : decode cL_law 798 = .ok (.aload_n 0, 1) := by decide +kernel
theorem dL_law_799 : decode cL_law 799 = .ok (.iload_n 3, 1) := by decide +kernel
theorem dL_law_800 : decode cL_law 800 = .ok (.iconst 1, 1) := by decide +kernel
theorem dL_law_801 : decode cL_law 801 = .ok (.iadd, 1) := by decide +kernel
theorem dL_law_802 : decode cL_law 802 = .ok (.iaload, 1) := by decide +kernel
theorem dL_law_803 : decode cL_law 803 = .ok (.aload_n 0, 1) := by decide +kernel
theorem dL_law_804 : decode cL_law 804 = .ok (.iload_n 3, 1) := by decide +kernel
theorem dL_law_805 : decode cL_law 805 = .ok (.iconst 2, 1) := by decide +kernel
theorem dL_law_806 : decode cL_law 806 = .ok (.iadd, 1) := by decide +kernel
theorem dL_law_807 : decode cL_law 807 = .ok (.iaload, 1) := by decide +kernel
theorem dL_law_808 : decode cL_law 808 = .ok (.aload_n 0, 1) := by decide +kernel
theorem dL_law_809 : decode cL_law 809 = .ok (.iload_n 3, 1) := by decide +kernel
theorem dL_law_810 : decode cL_law 810 = .ok (.iconst 3, 1) := by decide +kernel
theorem dL_law_811 : decode cL_law 811 = .ok (.iadd, 1) := by decide +kernel
theorem dL_law_812 : decode cL_law 812 = .ok (.iaload, 1) := by decide +kernel
theorem dL_law_813 : decode cL_law 813 = .ok (.aload_n 0, 1) := by decide +kernel
theorem dL_law_814 : decode cL_law 814 = .ok (.iload_n 3, 1) := by decide +kernel
theorem dL_law_815 : decode cL_law 815 = .ok (.iconst 4, 1) := by decide +kernel
theorem dL_law_816 : decode cL_law 816 = .ok (.iadd, 1) := by decide +kernel
theorem dL_law_817 : decode cL_law 817 = .ok (.iaload, 1) := by decide +kernel
theorem dL_law_818 : decode cL_law 818 = .ok (.invokevirtual 107, 3) := by decide +kernel
theorem dL_law_821 : decode cL_law 821 = .ok (.if_icmp .eq 430, 3) := by decide +kernel
theorem dL_law_824 : decode cL_law 824 = .ok (.iconst 0, 1) := by decide +kernel
theorem dL_law_825 : decode cL_law 825 = .ok (.ireturn, 1) := by decide +kernel
theorem dL_law_826 : decode cL_law 826 = .ok (.aload_n 1, 1) := by decide +kernel
theorem dL_law_827 : decode cL_law 827 = .ok (.aload_n 0, 1) := by decide +kernel
theorem dL_law_828 : decode cL_law 828 = .ok (.iload_n 3, 1) := by decide +kernel
theorem dL_law_829 : decode cL_law 829 = .ok (.iconst 1, 1) := by decide +kernel
theorem dL_law_830 : decode cL_law 830 = .ok (.iadd, 1) := by decide +kernel
theorem dL_law_831 : decode cL_law 831 = .ok (.iaload, 1) := by decide +kernel
theorem dL_law_832 : decode cL_law 832 = .ok (.aload_n 0, 1) := by decide +kernel
theorem dL_law_833 : decode cL_law 833 = .ok (.iload_n 3, 1) := by decide +kernel
theorem dL_law_834 : decode cL_law 834 = .ok (.iconst 2, 1) := by decide +kernel
theorem dL_law_835 : decode cL_law 835 = .ok (.iadd, 1) := by decide +kernel
theorem dL_law_836 : decode cL_law 836 = .ok (.iaload, 1) := by decide +kernel
theorem dL_law_837 : decode cL_law 837 = .ok (.aload_n 0, 1) := by decide +kernel
theorem dL_law_838 : decode cL_law 838 = .ok (.iload_n 3, 1) := by decide +kernel
theorem dL_law_839 : decode cL_law 839 = .ok (.iconst 3, 1) := by decide +kernel
theorem dL_law_840 : decode cL_law 840 = .ok (.iadd, 1) := by decide +kernel
theorem dL_law_841 : decode cL_law 841 = .ok (.iaload, 1) := by decide +kernel
theorem dL_law_842 : decode cL_law 842 = .ok (.aload_n 0, 1) := by decide +kernel
theorem dL_law_843 : decode cL_law 843 = .ok (.iload_n 3, 1) := by decide +kernel
theorem dL_law_844 : decode cL_law 844 = .ok (.iconst 4, 1) := by decide +kernel
theorem dL_law_845 : decode cL_law 845 = .ok (.iadd, 1) := by decide +kernel
theorem dL_law_846 : decode cL_law 846 = .ok (.iaload, 1) := by decide +kernel
theorem dL_law_847 : decode cL_law 847 = .ok (.aload_n 0, 1) := by decide +kernel
theorem dL_law_848 : decode cL_law 848 = .ok (.iload_n 3, 1) := by decide +kernel
theorem dL_law_849 : decode cL_law 849 = .ok (.iconst 5, 1) := by decide +kernel
theorem dL_law_850 : decode cL_law 850 = .ok (.iadd, 1) := by decide +kernel
theorem dL_law_851 : decode cL_law 851 = .ok (.iaload, 1) := by decide +kernel
theorem dL_law_852 : decode cL_law 852 = .ok (.invokevirtual 108, 3) := by decide +kernel
theorem dL_law_855 : decode cL_law 855 = .ok (.aload_n 2, 1) := by decide +kernel
theorem dL_law_856 : decode cL_law 856 = .ok (.aload_n 0, 1) := by decide +kernel
theorem dL_law_857 : decode cL_law 857 = .ok (.iload_n 3, 1) := by decide +kernel
theorem dL_law_858 : decode cL_law 858 = .ok (.iconst 1, 1) := by decide +kernel
theorem dL_law_859 : decode cL_law 859 = .ok (.iadd, 1) := by decide +kernel
theorem dL_law_860 : decode cL_law 860 = .ok (.iaload, 1) := by decide +kernel
theorem dL_law_861 : decode cL_law 861 = .ok (.aload_n 0, 1) := by decide +kernel
theorem dL_law_862 : decode cL_law 862 = .ok (.iload_n 3, 1) := by decide +kernel
theorem dL_law_863 : decode cL_law 863 = .ok (.iconst 2, 1) := by decide +kernel
theorem dL_law_864 : decode cL_law 864 = .ok (.iadd, 1) := by decide +kernel
theorem dL_law_865 : decode cL_law 865 = .ok (.iaload, 1) := by decide +kernel
theorem dL_law_866 : decode cL_law 866 = .ok (.aload_n 0, 1) := by decide +kernel
theorem dL_law_867 : decode cL_law 867 = .ok (.iload_n 3, 1) := by decide +kernel
theorem dL_law_868 : decode cL_law 868 = .ok (.iconst 3, 1) := by decide +kernel
theorem dL_law_869 : decode cL_law 869 = .ok (.iadd, 1) := by decide +kernel
theorem dL_law_870 : decode cL_law 870 = .ok (.iaload, 1) := by decide +kernel
theorem dL_law_871 : decode cL_law 871 = .ok (.aload_n 0, 1) := by decide +kernel
theorem dL_law_872 : decode cL_law 872 = .ok (.iload_n 3, 1) := by decide +kernel
theorem dL_law_873 : decode cL_law 873 = .ok (.iconst 4, 1) := by decide +kernel
theorem dL_law_874 : decode cL_law 874 = .ok (.iadd, 1) := by decide +kernel
theorem dL_law_875 : decode cL_law 875 = .ok (.iaload, 1) := by decide +kernel
theorem dL_law_876 : decode cL_law 876 = .ok (.aload_n 0, 1) := by decide +kernel
theorem dL_law_877 : decode cL_law 877 = .ok (.iload_n 3, 1) := by decide +kernel
theorem dL_law_878 : decode cL_law 878 = .ok (.iconst 5, 1) := by decide +kernel
theorem dL_law_879 : decode cL_law 879 = .ok (.iadd, 1) := by decide +kernel
theorem dL_law_880 : decode cL_law 880 = .ok (.iaload, 1) := by decide +kernel
theorem dL_law_881 : decode cL_law 881 = .ok (.invokevirtual 112, 3) := by decide +kernel
theorem dL_law_884 : decode cL_law 884 = .ok (.if_icmp .eq 367, 3) := by decide +kernel
theorem dL_law_887 : decode cL_law 887 = .ok (.iconst 0, 1) := by decide +kernel
theorem dL_law_888 : decode cL_law 888 = .ok (.ireturn, 1) := by decide +kernel
theorem dL_law_889 : decode cL_law 889 = .ok (.aload_n 1, 1) := by decide +kernel
theorem dL_law_890 : decode cL_law 890 = .ok (.aload_n 0, 1) := by decide +kernel
theorem dL_law_891 : decode cL_law 891 = .ok (.iload_n 3, 1) := by decide +kernel
theorem dL_law_892 : decode cL_law 892 = .ok (.iconst 1, 1) := by decide +kernel
theorem dL_law_893 : decode cL_law 893 = .ok (.iadd, 1) := by decide +kernel
theorem dL_law_894 : decode cL_law 894 = .ok (.iaload, 1) := by decide +kernel
theorem dL_law_895 : decode cL_law 895 = .ok (.aload_n 0, 1) := by decide +kernel
theorem dL_law_896 : decode cL_law 896 = .ok (.iload_n 3, 1) := by decide +kernel
theorem dL_law_897 : decode cL_law 897 = .ok (.iconst 2, 1) := by decide +kernel
theorem dL_law_898 : decode cL_law 898 = .ok (.iadd, 1) := by decide +kernel
theorem dL_law_899 : decode cL_law 899 = .ok (.iaload, 1) := by decide +kernel
theorem dL_law_900 : decode cL_law 900 = .ok (.invokevirtual 113, 3) := by decide +kernel
theorem dL_law_903 : decode cL_law 903 = .ok (.aload_n 2, 1) := by decide +kernel
theorem dL_law_904 : decode cL_law 904 = .ok (.aload_n 0, 1) := by decide +kernel
theorem dL_law_905 : decode cL_law 905 = .ok (.iload_n 3, 1) := by decide +kernel
theorem dL_law_906 : decode cL_law 906 = .ok (.iconst 1, 1) := by decide +kernel
theorem dL_law_907 : decode cL_law 907 = .ok (.iadd, 1) := by decide +kernel
theorem dL_law_908 : decode cL_law 908 = .ok (.iaload, 1) := by decide +kernel
theorem dL_law_909 : decode cL_law 909 = .ok (.aload_n 0, 1) := by decide +kernel
theorem dL_law_910 : decode cL_law 910 = .ok (.iload_n 3, 1) := by decide +kernel
theorem dL_law_911 : decode cL_law 911 = .ok (.iconst 2, 1) := by decide +kernel
theorem dL_law_912 : decode cL_law 912 = .ok (.iadd, 1) := by decide +kernel
theorem dL_law_913 : decode cL_law 913 = .ok (.iaload, 1) := by decide +kernel
theorem dL_law_914 : decode cL_law 914 = .ok (.invokevirtual 116, 3) := by decide +kernel
theorem dL_law_917 : decode cL_law 917 = .ok (.if_icmp .eq 334, 3) := by decide +kernel
theorem dL_law_920 : decode cL_law 920 = .ok (.iconst 0, 1) := by decide +kernel
theorem dL_law_921 : decode cL_law 921 = .ok (.ireturn, 1) := by decide +kernel
theorem dL_law_922 : decode cL_law 922 = .ok (.aload_n 1, 1) := by decide +kernel
theorem dL_law_923 : decode cL_law 923 = .ok (.aload_n 0, 1) := by decide +kernel
theorem dL_law_924 : decode cL_law 924 = .ok (.iload_n 3, 1) := by decide +kernel
theorem dL_law_925 : decode cL_law 925 = .ok (.iconst 1, 1) := by decide +kernel
theorem dL_law_926 : decode cL_law 926 = .ok (.iadd, 1) := by decide +kernel
theorem dL_law_927 : decode cL_law 927 = .ok (.iaload, 1) := by decide +kernel
theorem dL_law_928 : decode cL_law 928 = .ok (.aload_n 0, 1) := by decide +kernel
theorem dL_law_929 : decode cL_law 929 = .ok (.iload_n 3, 1) := by decide +kernel
theorem dL_law_930 : decode cL_law 930 = .ok (.iconst 2, 1) := by decide +kernel
theorem dL_law_931 : decode cL_law 931 = .ok (.iadd, 1) := by decide +kernel
theorem dL_law_932 : decode cL_law 932 = .ok (.iaload, 1) := by decide +kernel
theorem dL_law_933 : decode cL_law 933 = .ok (.invokevirtual 117, 3) := by decide +kernel
theorem dL_law_936 : decode cL_law 936 = .ok (.aload_n 2, 1) := by decide +kernel
theorem dL_law_937 : decode cL_law 937 = .ok (.aload_n 0, 1) := by decide +kernel
theorem dL_law_938 : decode cL_law 938 = .ok (.iload_n 3, 1) := by decide +kernel
theorem dL_law_939 : decode cL_law 939 = .ok (.iconst 1, 1) := by decide +kernel
theorem dL_law_940 : decode cL_law 940 = .ok (.iadd, 1) := by decide +kernel
theorem dL_law_941 : decode cL_law 941 = .ok (.iaload, 1) := by decide +kernel
theorem dL_law_942 : decode cL_law 942 = .ok (.aload_n 0, 1) := by decide +kernel
theorem dL_law_943 : decode cL_law 943 = .ok (.iload_n 3, 1) := by decide +kernel
theorem dL_law_944 : decode cL_law 944 = .ok (.iconst 2, 1) := by decide +kernel
theorem dL_law_945 : decode cL_law 945 = .ok (.iadd, 1) := by decide +kernel
theorem dL_law_946 : decode cL_law 946 = .ok (.iaload, 1) := by decide +kernel
theorem dL_law_947 : decode cL_law 947 = .ok (.invokevirtual 120, 3) := by decide +kernel
theorem dL_law_950 : decode cL_law 950 = .ok (.lcmp, 1) := by decide +kernel
theorem dL_law_951 : decode cL_law 951 = .ok (.ifCond .eq 300, 3) := by decide +kernel
theorem dL_law_954 : decode cL_law 954 = .ok (.iconst 0, 1) := by decide +kernel
theorem dL_law_955 : decode cL_law 955 = .ok (.ireturn, 1) := by decide +kernel
theorem dL_law_956 : decode cL_law 956 = .ok (.aload_n 1, 1) := by decide +kernel
theorem dL_law_957 : decode cL_law 957 = .ok (.aload_n 0, 1) := by decide +kernel
theorem dL_law_958 : decode cL_law 958 = .ok (.iload_n 3, 1) := by decide +kernel
theorem dL_law_959 : decode cL_law 959 = .ok (.iconst 1, 1) := by decide +kernel
theorem dL_law_960 : decode cL_law 960 = .ok (.iadd, 1) := by decide +kernel
theorem dL_law_961 : decode cL_law 961 = .ok (.iaload, 1) := by decide +kernel
theorem dL_law_962 : decode cL_law 962 = .ok (.aload_n 0, 1) := by decide +kernel
theorem dL_law_963 : decode cL_law 963 = .ok (.iload_n 3, 1) := by decide +kernel
theorem dL_law_964 : decode cL_law 964 = .ok (.iconst 2, 1) := by decide +kernel
theorem dL_law_965 : decode cL_law 965 = .ok (.iadd, 1) := by decide +kernel
theorem dL_law_966 : decode cL_law 966 = .ok (.iaload, 1) := by decide +kernel
theorem dL_law_967 : decode cL_law 967 = .ok (.aload_n 0, 1) := by decide +kernel
theorem dL_law_968 : decode cL_law 968 = .ok (.iload_n 3, 1) := by decide +kernel
theorem dL_law_969 : decode cL_law 969 = .ok (.iconst 3, 1) := by decide +kernel
theorem dL_law_970 : decode cL_law 970 = .ok (.iadd, 1) := by decide +kernel
theorem dL_law_971 : decode cL_law 971 = .ok (.iaload, 1) := by decide +kernel
theorem dL_law_972 : decode cL_law 972 = .ok (.invokevirtual 121, 3) := by decide +kernel
theorem dL_law_975 : decode cL_law 975 = .ok (.aload_n 2, 1) := by decide +kernel
theorem dL_law_976 : decode cL_law 976 = .ok (.aload_n 0, 1) := by decide +kernel
theorem dL_law_977 : decode cL_law 977 = .ok (.iload_n 3, 1) := by decide +kernel
theorem dL_law_978 : decode cL_law 978 = .ok (.iconst 1, 1) := by decide +kernel
theorem dL_law_979 : decode cL_law 979 = .ok (.iadd, 1) := by decide +kernel
theorem dL_law_980 : decode cL_law 980 = .ok (.iaload, 1) := by decide +kernel
theorem dL_law_981 : decode cL_law 981 = .ok (.aload_n 0, 1) := by decide +kernel
theorem dL_law_982 : decode cL_law 982 = .ok (.iload_n 3, 1) := by decide +kernel
theorem dL_law_983 : decode cL_law 983 = .ok (.iconst 2, 1) := by decide +kernel
theorem dL_law_984 : decode cL_law 984 = .ok (.iadd, 1) := by decide +kernel
theorem dL_law_985 : decode cL_law 985 = .ok (.iaload, 1) := by decide +kernel
theorem dL_law_986 : decode cL_law 986 = .ok (.aload_n 0, 1) := by decide +kernel
theorem dL_law_987 : decode cL_law 987 = .ok (.iload_n 3, 1) := by decide +kernel
theorem dL_law_988 : decode cL_law 988 = .ok (.iconst 3, 1) := by decide +kernel
theorem dL_law_989 : decode cL_law 989 = .ok (.iadd, 1) := by decide +kernel
theorem dL_law_990 : decode cL_law 990 = .ok (.iaload, 1) := by decide +kernel
theorem dL_law_991 : decode cL_law 991 = .ok (.invokevirtual 124, 3) := by decide +kernel
theorem dL_law_994 : decode cL_law 994 = .ok (.lcmp, 1) := by decide +kernel
theorem dL_law_995 : decode cL_law 995 = .ok (.ifCond .eq 256, 3) := by decide +kernel
theorem dL_law_998 : decode cL_law 998 = .ok (.iconst 0, 1) := by decide +kernel
theorem dL_law_999 : decode cL_law 999 = .ok (.ireturn, 1) := by decide +kernel
theorem dL_law_1000 : decode cL_law 1000 = .ok (.aload_n 1, 1) := by decide +kernel
theorem dL_law_1001 : decode cL_law 1001 = .ok (.aload_n 0, 1) := by decide +kernel
theorem dL_law_1002 : decode cL_law 1002 = .ok (.iload_n 3, 1) := by decide +kernel
theorem dL_law_1003 : decode cL_law 1003 = .ok (.iconst 1, 1) := by decide +kernel
theorem dL_law_1004 : decode cL_law 1004 = .ok (.iadd, 1) := by decide +kernel
theorem dL_law_1005 : decode cL_law 1005 = .ok (.iaload, 1) := by decide +kernel
theorem dL_law_1006 : decode cL_law 1006 = .ok (.aload_n 0, 1) := by decide +kernel
theorem dL_law_1007 : decode cL_law 1007 = .ok (.iload_n 3, 1) := by decide +kernel
theorem dL_law_1008 : decode cL_law 1008 = .ok (.iconst 2, 1) := by decide +kernel
theorem dL_law_1009 : decode cL_law 1009 = .ok (.iadd, 1) := by decide +kernel
theorem dL_law_1010 : decode cL_law 1010 = .ok (.iaload, 1) := by decide +kernel
theorem dL_law_1011 : decode cL_law 1011 = .ok (.invokevirtual 125, 3) := by decide +kernel
theorem dL_law_1014 : decode cL_law 1014 = .ok (.aload_n 2, 1) := by decide +kernel
theorem dL_law_1015 : decode cL_law 1015 = .ok (.aload_n 0, 1) := by decide +kernel
theorem dL_law_1016 : decode cL_law 1016 = .ok (.iload_n 3, 1) := by decide +kernel
theorem dL_law_1017 : decode cL_law 1017 = .ok (.iconst 1, 1) := by decide +kernel
theorem dL_law_1018 : decode cL_law 1018 = .ok (.iadd, 1) := by decide +kernel
theorem dL_law_1019 : decode cL_law 1019 = .ok (.iaload, 1) := by decide +kernel
theorem dL_law_1020 : decode cL_law 1020 = .ok (.aload_n 0, 1) := by decide +kernel
theorem dL_law_1021 : decode cL_law 1021 = .ok (.iload_n 3, 1) := by decide +kernel
theorem dL_law_1022 : decode cL_law 1022 = .ok (.iconst 2, 1) := by decide +kernel
theorem dL_law_1023 : decode cL_law 1023 = .ok (.iadd, 1) := by decide +kernel
theorem dL_law_1024 : decode cL_law 1024 = .ok (.iaload, 1) := by decide +kernel
theorem dL_law_1025 : decode cL_law 1025 = .ok (.invokevirtual 128, 3) := by decide +kernel
theorem dL_law_1028 : decode cL_law 1028 = .ok (.if_icmp .eq 223, 3) := by decide +kernel
theorem dL_law_1031 : decode cL_law 1031 = .ok (.iconst 0, 1) := by decide +kernel
theorem dL_law_1032 : decode cL_law 1032 = .ok (.ireturn, 1) := by decide +kernel
theorem dL_law_1033 : decode cL_law 1033 = .ok (.aload_n 1, 1) := by decide +kernel
theorem dL_law_1034 : decode cL_law 1034 = .ok (.aload_n 0, 1) := by decide +kernel
theorem dL_law_1035 : decode cL_law 1035 = .ok (.iload_n 3, 1) := by decide +kernel
theorem dL_law_1036 : decode cL_law 1036 = .ok (.iconst 1, 1) := by decide +kernel
theorem dL_law_1037 : decode cL_law 1037 = .ok (.iadd, 1) := by decide +kernel
theorem dL_law_1038 : decode cL_law 1038 = .ok (.iaload, 1) := by decide +kernel
theorem dL_law_1039 : decode cL_law 1039 = .ok (.invokevirtual 129, 3) := by decide +kernel
theorem dL_law_1042 : decode cL_law 1042 = .ok (.aload_n 2, 1) := by decide +kernel
theorem dL_law_1043 : decode cL_law 1043 = .ok (.aload_n 0, 1) := by decide +kernel
theorem dL_law_1044 : decode cL_law 1044 = .ok (.iload_n 3, 1) := by decide +kernel
theorem dL_law_1045 : decode cL_law 1045 = .ok (.iconst 1, 1) := by decide +kernel
theorem dL_law_1046 : decode cL_law 1046 = .ok (.iadd, 1) := by decide +kernel
theorem dL_law_1047 : decode cL_law 1047 = .ok (.iaload, 1) := by decide +kernel
theorem dL_law_1048 : decode cL_law 1048 = .ok (.invokevirtual 132, 3) := by decide +kernel
theorem dL_law_1051 : decode cL_law 1051 = .ok (.if_icmp .eq 200, 3) := by decide +kernel
theorem dL_law_1054 : decode cL_law 1054 = .ok (.iconst 0, 1) := by decide +kernel
theorem dL_law_1055 : decode cL_law 1055 = .ok (.ireturn, 1) := by decide +kernel
theorem dL_law_1056 : decode cL_law 1056 = .ok (.aload_n 1, 1) := by decide +kernel
theorem dL_law_1057 : decode cL_law 1057 = .ok (.aload_n 0, 1) := by decide +kernel
theorem dL_law_1058 : decode cL_law 1058 = .ok (.iload_n 3, 1) := by decide +kernel
theorem dL_law_1059 : decode cL_law 1059 = .ok (.iconst 1, 1) := by decide +kernel
theorem dL_law_1060 : decode cL_law 1060 = .ok (.iadd, 1) := by decide +kernel
theorem dL_law_1061 : decode cL_law 1061 = .ok (.iaload, 1) := by decide +kernel
theorem dL_law_1062 : decode cL_law 1062 = .ok (.aload_n 0, 1) := by decide +kernel
theorem dL_law_1063 : decode cL_law 1063 = .ok (.iload_n 3, 1) := by decide +kernel
theorem dL_law_1064 : decode cL_law 1064 = .ok (.iconst 2, 1) := by decide +kernel
theorem dL_law_1065 : decode cL_law 1065 = .ok (.iadd, 1) := by decide +kernel
theorem dL_law_1066 : decode cL_law 1066 = .ok (.iaload, 1) := by decide +kernel
theorem dL_law_1067 : decode cL_law 1067 = .ok (.invokevirtual 133, 3) := by decide +kernel
theorem dL_law_1070 : decode cL_law 1070 = .ok (.aload_n 2, 1) := by decide +kernel
theorem dL_law_1071 : decode cL_law 1071 = .ok (.aload_n 0, 1) := by decide +kernel
theorem dL_law_1072 : decode cL_law 1072 = .ok (.iload_n 3, 1) := by decide +kernel
theorem dL_law_1073 : decode cL_law 1073 = .ok (.iconst 1, 1) := by decide +kernel
theorem dL_law_1074 : decode cL_law 1074 = .ok (.iadd, 1) := by decide +kernel
theorem dL_law_1075 : decode cL_law 1075 = .ok (.iaload, 1) := by decide +kernel
theorem dL_law_1076 : decode cL_law 1076 = .ok (.aload_n 0, 1) := by decide +kernel
theorem dL_law_1077 : decode cL_law 1077 = .ok (.iload_n 3, 1) := by decide +kernel
theorem dL_law_1078 : decode cL_law 1078 = .ok (.iconst 2, 1) := by decide +kernel
theorem dL_law_1079 : decode cL_law 1079 = .ok (.iadd, 1) := by decide +kernel
theorem dL_law_1080 : decode cL_law 1080 = .ok (.iaload, 1) := by decide +kernel
theorem dL_law_1081 : decode cL_law 1081 = .ok (.invokevirtual 136, 3) := by decide +kernel
theorem dL_law_1084 : decode cL_law 1084 = .ok (.if_icmp .eq 167, 3) := by decide +kernel
theorem dL_law_1087 : decode cL_law 1087 = .ok (.iconst 0, 1) := by decide +kernel
theorem dL_law_1088 : decode cL_law 1088 = .ok (.ireturn, 1) := by decide +kernel
theorem dL_law_1089 : decode cL_law 1089 = .ok (.aload_n 1, 1) := by decide +kernel
theorem dL_law_1090 : decode cL_law 1090 = .ok (.aload_n 0, 1) := by decide +kernel
theorem dL_law_1091 : decode cL_law 1091 = .ok (.iload_n 3, 1) := by decide +kernel
theorem dL_law_1092 : decode cL_law 1092 = .ok (.iconst 1, 1) := by decide +kernel
theorem dL_law_1093 : decode cL_law 1093 = .ok (.iadd, 1) := by decide +kernel
theorem dL_law_1094 : decode cL_law 1094 = .ok (.iaload, 1) := by decide +kernel
theorem dL_law_1095 : decode cL_law 1095 = .ok (.aload_n 0, 1) := by decide +kernel
theorem dL_law_1096 : decode cL_law 1096 = .ok (.iload_n 3, 1) := by decide +kernel
theorem dL_law_1097 : decode cL_law 1097 = .ok (.iconst 2, 1) := by decide +kernel
theorem dL_law_1098 : decode cL_law 1098 = .ok (.iadd, 1) := by decide +kernel
theorem dL_law_1099 : decode cL_law 1099 = .ok (.iaload, 1) := by decide +kernel
theorem dL_law_1100 : decode cL_law 1100 = .ok (.aload_n 0, 1) := by decide +kernel
theorem dL_law_1101 : decode cL_law 1101 = .ok (.iload_n 3, 1) := by decide +kernel
theorem dL_law_1102 : decode cL_law 1102 = .ok (.iconst 3, 1) := by decide +kernel
theorem dL_law_1103 : decode cL_law 1103 = .ok (.iadd, 1) := by decide +kernel
theorem dL_law_1104 : decode cL_law 1104 = .ok (.iaload, 1) := by decide +kernel
theorem dL_law_1105 : decode cL_law 1105 = .ok (.invokevirtual 137, 3) := by decide +kernel
theorem dL_law_1108 : decode cL_law 1108 = .ok (.aload_n 2, 1) := by decide +kernel
theorem dL_law_1109 : decode cL_law 1109 = .ok (.aload_n 0, 1) := by decide +kernel
theorem dL_law_1110 : decode cL_law 1110 = .ok (.iload_n 3, 1) := by decide +kernel
theorem dL_law_1111 : decode cL_law 1111 = .ok (.iconst 1, 1) := by decide +kernel
theorem dL_law_1112 : decode cL_law 1112 = .ok (.iadd, 1) := by decide +kernel
theorem dL_law_1113 : decode cL_law 1113 = .ok (.iaload, 1) := by decide +kernel
theorem dL_law_1114 : decode cL_law 1114 = .ok (.aload_n 0, 1) := by decide +kernel
theorem dL_law_1115 : decode cL_law 1115 = .ok (.iload_n 3, 1) := by decide +kernel
theorem dL_law_1116 : decode cL_law 1116 = .ok (.iconst 2, 1) := by decide +kernel
theorem dL_law_1117 : decode cL_law 1117 = .ok (.iadd, 1) := by decide +kernel
theorem dL_law_1118 : decode cL_law 1118 = .ok (.iaload, 1) := by decide +kernel
theorem dL_law_1119 : decode cL_law 1119 = .ok (.aload_n 0, 1) := by decide +kernel
theorem dL_law_1120 : decode cL_law 1120 = .ok (.iload_n 3, 1) := by decide +kernel
theorem dL_law_1121 : decode cL_law 1121 = .ok (.iconst 3, 1) := by decide +kernel
theorem dL_law_1122 : decode cL_law 1122 = .ok (.iadd, 1) := by decide +kernel
theorem dL_law_1123 : decode cL_law 1123 = .ok (.iaload, 1) := by decide +kernel
theorem dL_law_1124 : decode cL_law 1124 = .ok (.invokevirtual 140, 3) := by decide +kernel
theorem dL_law_1127 : decode cL_law 1127 = .ok (.if_icmp .eq 124, 3) := by decide +kernel
theorem dL_law_1130 : decode cL_law 1130 = .ok (.iconst 0, 1) := by decide +kernel
theorem dL_law_1131 : decode cL_law 1131 = .ok (.ireturn, 1) := by decide +kernel
theorem dL_law_1132 : decode cL_law 1132 = .ok (.aload_n 1, 1) := by decide +kernel
theorem dL_law_1133 : decode cL_law 1133 = .ok (.aload_n 0, 1) := by decide +kernel
theorem dL_law_1134 : decode cL_law 1134 = .ok (.iload_n 3, 1) := by decide +kernel
theorem dL_law_1135 : decode cL_law 1135 = .ok (.iconst 1, 1) := by decide +kernel
theorem dL_law_1136 : decode cL_law 1136 = .ok (.iadd, 1) := by decide +kernel
theorem dL_law_1137 : decode cL_law 1137 = .ok (.iaload, 1) := by decide +kernel
theorem dL_law_1138 : decode cL_law 1138 = .ok (.aload_n 0, 1) := by decide +kernel
theorem dL_law_1139 : decode cL_law 1139 = .ok (.iload_n 3, 1) := by decide +kernel
theorem dL_law_1140 : decode cL_law 1140 = .ok (.iconst 2, 1) := by decide +kernel
theorem dL_law_1141 : decode cL_law 1141 = .ok (.iadd, 1) := by decide +kernel
theorem dL_law_1142 : decode cL_law 1142 = .ok (.iaload, 1) := by decide +kernel
theorem dL_law_1143 : decode cL_law 1143 = .ok (.aload_n 0, 1) := by decide +kernel
theorem dL_law_1144 : decode cL_law 1144 = .ok (.iload_n 3, 1) := by decide +kernel
theorem dL_law_1145 : decode cL_law 1145 = .ok (.iconst 3, 1) := by decide +kernel
theorem dL_law_1146 : decode cL_law 1146 = .ok (.iadd, 1) := by decide +kernel
theorem dL_law_1147 : decode cL_law 1147 = .ok (.iaload, 1) := by decide +kernel
theorem dL_law_1148 : decode cL_law 1148 = .ok (.invokevirtual 141, 3) := by decide +kernel
theorem dL_law_1151 : decode cL_law 1151 = .ok (.aload_n 2, 1) := by decide +kernel
theorem dL_law_1152 : decode cL_law 1152 = .ok (.aload_n 0, 1) := by decide +kernel
theorem dL_law_1153 : decode cL_law 1153 = .ok (.iload_n 3, 1) := by decide +kernel
theorem dL_law_1154 : decode cL_law 1154 = .ok (.iconst 1, 1) := by decide +kernel
theorem dL_law_1155 : decode cL_law 1155 = .ok (.iadd, 1) := by decide +kernel
theorem dL_law_1156 : decode cL_law 1156 = .ok (.iaload, 1) := by decide +kernel
theorem dL_law_1157 : decode cL_law 1157 = .ok (.aload_n 0, 1) := by decide +kernel
theorem dL_law_1158 : decode cL_law 1158 = .ok (.iload_n 3, 1) := by decide +kernel
theorem dL_law_1159 : decode cL_law 1159 = .ok (.iconst 2, 1) := by decide +kernel
theorem dL_law_1160 : decode cL_law 1160 = .ok (.iadd, 1) := by decide +kernel
theorem dL_law_1161 : decode cL_law 1161 = .ok (.iaload, 1) := by decide +kernel
theorem dL_law_1162 : decode cL_law 1162 = .ok (.aload_n 0, 1) := by decide +kernel
theorem dL_law_1163 : decode cL_law 1163 = .ok (.iload_n 3, 1) := by decide +kernel
theorem dL_law_1164 : decode cL_law 1164 = .ok (.iconst 3, 1) := by decide +kernel
theorem dL_law_1165 : decode cL_law 1165 = .ok (.iadd, 1) := by decide +kernel
theorem dL_law_1166 : decode cL_law 1166 = .ok (.iaload, 1) := by decide +kernel
theorem dL_law_1167 : decode cL_law 1167 = .ok (.invokevirtual 144, 3) := by decide +kernel
theorem dL_law_1170 : decode cL_law 1170 = .ok (.if_icmp .eq 81, 3) := by decide +kernel
theorem dL_law_1173 : decode cL_law 1173 = .ok (.iconst 0, 1) := by decide +kernel
theorem dL_law_1174 : decode cL_law 1174 = .ok (.ireturn, 1) := by decide +kernel
theorem dL_law_1175 : decode cL_law 1175 = .ok (.aload_n 1, 1) := by decide +kernel
theorem dL_law_1176 : decode cL_law 1176 = .ok (.aload_n 0, 1) := by decide +kernel
theorem dL_law_1177 : decode cL_law 1177 = .ok (.iload_n 3, 1) := by decide +kernel
theorem dL_law_1178 : decode cL_law 1178 = .ok (.iconst 1, 1) := by decide +kernel
theorem dL_law_1179 : decode cL_law 1179 = .ok (.iadd, 1) := by decide +kernel
theorem dL_law_1180 : decode cL_law 1180 = .ok (.iaload, 1) := by decide +kernel
theorem dL_law_1181 : decode cL_law 1181 = .ok (.aload_n 0, 1) := by decide +kernel
theorem dL_law_1182 : decode cL_law 1182 = .ok (.iload_n 3, 1) := by decide +kernel
theorem dL_law_1183 : decode cL_law 1183 = .ok (.iconst 2, 1) := by decide +kernel
theorem dL_law_1184 : decode cL_law 1184 = .ok (.iadd, 1) := by decide +kernel
theorem dL_law_1185 : decode cL_law 1185 = .ok (.iaload, 1) := by decide +kernel
theorem dL_law_1186 : decode cL_law 1186 = .ok (.aload_n 0, 1) := by decide +kernel
theorem dL_law_1187 : decode cL_law 1187 = .ok (.iload_n 3, 1) := by decide +kernel
theorem dL_law_1188 : decode cL_law 1188 = .ok (.iconst 3, 1) := by decide +kernel
theorem dL_law_1189 : decode cL_law 1189 = .ok (.iadd, 1) := by decide +kernel
theorem dL_law_1190 : decode cL_law 1190 = .ok (.iaload, 1) := by decide +kernel
theorem dL_law_1191 : decode cL_law 1191 = .ok (.aload_n 0, 1) := by decide +kernel
theorem dL_law_1192 : decode cL_law 1192 = .ok (.iload_n 3, 1) := by decide +kernel
theorem dL_law_1193 : decode cL_law 1193 = .ok (.iconst 4, 1) := by decide +kernel
theorem dL_law_1194 : decode cL_law 1194 = .ok (.iadd, 1) := by decide +kernel
theorem dL_law_1195 : decode cL_law 1195 = .ok (.iaload, 1) := by decide +kernel
theorem dL_law_1196 : decode cL_law 1196 = .ok (.invokevirtual 145, 3) := by decide +kernel
theorem dL_law_1199 : decode cL_law 1199 = .ok (.aload_n 2, 1) := by decide +kernel
theorem dL_law_1200 : decode cL_law 1200 = .ok (.aload_n 0, 1) := by decide +kernel
theorem dL_law_1201 : decode cL_law 1201 = .ok (.iload_n 3, 1) := by decide +kernel
theorem dL_law_1202 : decode cL_law 1202 = .ok (.iconst 1, 1) := by decide +kernel
theorem dL_law_1203 : decode cL_law 1203 = .ok (.iadd, 1) := by decide +kernel
theorem dL_law_1204 : decode cL_law 1204 = .ok (.iaload, 1) := by decide +kernel
theorem dL_law_1205 : decode cL_law 1205 = .ok (.aload_n 0, 1) := by decide +kernel
theorem dL_law_1206 : decode cL_law 1206 = .ok (.iload_n 3, 1) := by decide +kernel
theorem dL_law_1207 : decode cL_law 1207 = .ok (.iconst 2, 1) := by decide +kernel
theorem dL_law_1208 : decode cL_law 1208 = .ok (.iadd, 1) := by decide +kernel
theorem dL_law_1209 : decode cL_law 1209 = .ok (.iaload, 1) := by decide +kernel
theorem dL_law_1210 : decode cL_law 1210 = .ok (.aload_n 0, 1) := by decide +kernel
theorem dL_law_1211 : decode cL_law 1211 = .ok (.iload_n 3, 1) := by decide +kernel
theorem dL_law_1212 : decode cL_law 1212 = .ok (.iconst 3, 1) := by decide +kernel
theorem dL_law_1213 : decode cL_law 1213 = .ok (.iadd, 1) := by decide +kernel
theorem dL_law_1214 : decode cL_law 1214 = .ok (.iaload, 1) := by decide +kernel
theorem dL_law_1215 : decode cL_law 1215 = .ok (.aload_n 0, 1) := by decide +kernel
theorem dL_law_1216 : decode cL_law 1216 = .ok (.iload_n 3, 1) := by decide +kernel
theorem dL_law_1217 : decode cL_law 1217 = .ok (.iconst 4, 1) := by decide +kernel
theorem dL_law_1218 : decode cL_law 1218 = .ok (.iadd, 1) := by decide +kernel
theorem dL_law_1219 : decode cL_law 1219 = .ok (.iaload, 1) := by decide +kernel
theorem dL_law_1220 : decode cL_law 1220 = .ok (.invokevirtual 148, 3) := by decide +kernel
theorem dL_law_1223 : decode cL_law 1223 = .ok (.if_icmp .eq 28, 3) := by decide +kernel
theorem dL_law_1226 : decode cL_law 1226 = .ok (.iconst 0, 1) := by decide +kernel
theorem dL_law_1227 : decode cL_law 1227 = .ok (.ireturn, 1) := by decide +kernel
theorem dL_law_1228 : decode cL_law 1228 = .ok (.aload_n 1, 1) := by decide +kernel
theorem dL_law_1229 : decode cL_law 1229 = .ok (.aload_n 0, 1) := by decide +kernel
theorem dL_law_1230 : decode cL_law 1230 = .ok (.iload_n 3, 1) := by decide +kernel
theorem dL_law_1231 : decode cL_law 1231 = .ok (.iconst 1, 1) := by decide +kernel
theorem dL_law_1232 : decode cL_law 1232 = .ok (.iadd, 1) := by decide +kernel
theorem dL_law_1233 : decode cL_law 1233 = .ok (.iaload, 1) := by decide +kernel
theorem dL_law_1234 : decode cL_law 1234 = .ok (.invokevirtual 149, 3) := by decide +kernel
theorem dL_law_1237 : decode cL_law 1237 = .ok (.aload_n 2, 1) := by decide +kernel
theorem dL_law_1238 : decode cL_law 1238 = .ok (.aload_n 0, 1) := by decide +kernel
theorem dL_law_1239 : decode cL_law 1239 = .ok (.iload_n 3, 1) := by decide +kernel
theorem dL_law_1240 : decode cL_law 1240 = .ok (.iconst 1, 1) := by decide +kernel
theorem dL_law_1241 : decode cL_law 1241 = .ok (.iadd, 1) := by decide +kernel
theorem dL_law_1242 : decode cL_law 1242 = .ok (.iaload, 1) := by decide +kernel
theorem dL_law_1243 : decode cL_law 1243 = .ok (.invokevirtual 152, 3) := by decide +kernel
theorem dL_law_1246 : decode cL_law 1246 = .ok (.if_icmp .eq 5, 3) := by decide +kernel
theorem dL_law_1249 : decode cL_law 1249 = .ok (.iconst 0, 1) := by decide +kernel
theorem dL_law_1250 : decode cL_law 1250 = .ok (.ireturn, 1) := by decide +kernel
theorem dL_law_1251 : decode cL_law 1251 = .ok (.iinc 3 6, 3) := by decide +kernel
theorem dL_law_1254 : decode cL_law 1254 = .ok (.goto (-1236), 3) := by decide +kernel
theorem dL_law_1257 : decode cL_law 1257 = .ok (.iconst 1, 1) := by decide +kernel
theorem dL_law_1258 : decode cL_law 1258 = .ok (.ireturn, 1) := by decide +kernel
end
section
/-! THE MACHINE LAYER: one world of 49 cells at the addresses B, B + 1, ..; what they hold is two tables of numbers (ints, longs) and a table of references. -/
def hz_tbl : List Cond := lw_tbl.filter goodWord
abbrev hz_H : Type := (Nat → Nat → Int32) × (Nat → Nat → Int64)
abbrev hz_R : Type := Nat → Nat → Nat
def hz_sI (σ : hz_H) (q j : Nat) (v : Int32) : hz_H := (fun a b => if a = q ∧ b = j then v else σ.1 a b, σ.2)
def hz_sL (σ : hz_H) (q j : Nat) (v : Int64) : hz_H := (σ.1, fun a b => if a = q ∧ b = j then v else σ.2 a b)
def hz_sR (R : hz_R) (q j v : Nat) : hz_R := fun a b => if a = q ∧ b = j then v else R a b
def hz_zr (σ : hz_H) (q : Nat) : hz_H := (fun a b => if a = q then 0 else σ.1 a b, fun a b => if a = q then 0 else σ.2 a b)
def hz_zR (R : hz_R) (q : Nat) : hz_R := fun a b => if a = q then 0 else R a b
/-- launch; class numbers and slots; the classes of int, byte and long arrays; B; the script: its cell, its length, its ints -/
abbrev hz_G : Type := Launch × va_G × (Nat → ClassId) × Nat × (Nat × Nat × (Nat → Int32))
abbrev hz_B (G : hz_G) : Nat := G.2.2.2.1
abbrev hz_A (G : hz_G) : Nat → Prop := fun q => hz_B G ≤ q
def hz_shL : List (Nat × Nat) := [(8, 8), (6, 2), (21, 120), (0, 1), (20, 8), (3, 9), (20, 8), (2, 4), (22, 64), (22, 64), (4, 10), (20, 8), (22, 8), (22, 64), (22, 49), (22, 64), (7, 3), (22, 128), (1, 6), (22, 256), (22, 12), (22, 12), (20, 4), (20, 4), (22, 16), (5, 3), (20, 4), (20, 4), (20, 256), (9, 31), (20, 8), (20, 8), (20, 120), (20, 6), (20, 16), (22, 64), (20, 64), (22, 64), (22, 64), (22, 128), (20, 64), (22, 256), (22, 4096), (22, 4096), (20, 4), (20, 6), (20, 4), (20, 4), (20, 256)]
def hz_sh (q : Nat) : Nat × Nat := hz_shL.getD q (0, 0)
def hz_fkL : List (List Nat) := [[2], [2, 2, 2, 2, 2, 2], [2, 2, 2, 0], [2, 2, 0, 0, 0, 0, 0, 0, 0], [2, 2, 2, 2, 2, 2, 1, 0, 1, 1], [2, 2, 2], [2, 0], [2, 2, 0], [2, 2, 2, 2, 2, 2, 2, 2], [2, 2, 2, 0, 0, 0, 0, 0, 0, 0, 0, 0, 2, 2, 2, 0, 2, 2, 2, 2, 0, 2, 0, 2, 2, 2, 2, 2, 2, 2, 2]]
def hz_fk (ci : Nat) : List Nat := hz_fkL.getD ci []
def hz_S (N : Nat) : Nat := ((List.range N).map (fun q => (hz_sh q).2)).sum
def hz_up (G : hz_G) : Value → Value
  | .ref k => .ref (hz_B G + k)
  | .retAddr _ => .ref G.2.2.2.2.1
  | v => v
def hz_u2 (G : hz_G) (q : Nat × Value) : Nat × Value := (q.1, hz_up G q.2)
def hz_rf (B n : Nat) : Value := match n with
  | 0 => .null
  | k + 1 => .ref (B + k)
def hz_fv (B : Nat) (R : hz_R) (σ : hz_H) (q kd j : Nat) : Value := match kd with
  | 0 => .int (σ.1 q j)
  | 1 => .long (σ.2 q j)
  | _ => hz_rf B (R q j)
def hz_fs (B : Nat) (R : hz_R) (σ : hz_H) (q ci : Nat) : List Value := (List.range (hz_fk ci).length).map (fun j => hz_fv B R σ q ((hz_fk ci).getD j 0) j)
def hz_cell (G : hz_G) (R : hz_R) (σ : hz_H) (q : Nat) : va_E :=
  if (hz_sh q).1 = 20 then .inl (G.2.2.1 0, (hz_sh q).2, .inl (σ.1 q))
  else if (hz_sh q).1 = 21 then .inl (G.2.2.1 1, (hz_sh q).2, .inl (σ.1 q))
  else if (hz_sh q).1 = 22 then .inl (G.2.2.1 2, (hz_sh q).2, .inr (.inl (σ.2 q)))
  else .inr ((hz_sh q).1, hz_fs (hz_B G) R σ q (hz_sh q).1)
def hz_ws (G : hz_G) (R : hz_R) (N : Nat) (σ : hz_H) : va_W := (List.range N).map (fun q => (hz_B G + q, hz_cell G R σ q))
def hz_tys (G : hz_G) : List (ClassId × FieldType) := [(G.2.2.1 0, .int), (G.2.2.1 1, .byte), (G.2.2.1 2, .long)]
def hz_X (G : hz_G) (U : State) : Prop := va_X G.2.2.2.2.1 G.2.2.2.2.2.1 G.2.2.2.2.2.2 U U.heap ∧ G.2.2.2.2.1 < hz_B G
def hz_W (G : hz_G) (N : Nat) (R : hz_R) (σ : hz_H) (U : State) : Prop := U.heap.size = hz_B G + N ∧ va_P G.2.1 vwCl (hz_ws G R N σ) U.heap ∧ va_K G.2.1 vwCl (hz_tys G) U ∧ hz_X G U
abbrev hz_P : Type := Option Value → hz_R → hz_H → Prop
def hz_Q (G : hz_G) (N' : Nat) (post : hz_P) : Array Value → State → Outcome → State → Prop := fun _ st oc t => (∃ (r : Option Value) (R' : hz_R) (σ' : hz_H), oc = .returned (r.map (hz_up G)) ∧ post r R' σ' ∧ hz_W G N' R' σ' t) ∧ va_F (hz_A G) st t
def hz_rm (M : hz_M) (N N' : Nat) : Room := { frames := M.2.2.2.2.1, cells := N' - N, slots := hz_S N' - hz_S N, locals := M.2.2.2.2.2 }
def hz_wd (M : hz_M) : List Cond := Cond.code M.1 M.2.1 M.2.2.1 M.2.2.2.1 :: hz_tbl
/-- a call: in any heap that holds the world N, R, σ method M comes back from the arguments av with an answer, a world N', R', σ' that post says of -/
def hz_Call (G : hz_G) (N N' : Nat) (M : hz_M) (R : hz_R) (av : List Value) (σ : hz_H) (post : hz_P) : Prop :=
  Met G.1 M.1 (hz_wd M) (hz_rm M N N') (va_Pc (av.map (hz_up G)) (hz_W G N R σ)) (hz_Q G N' post) (N' - N) (hz_S N' - hz_S N) (hz_A G)
def hz_C (G : hz_G) (M : hz_M) (p : Program) (s : State) (m : MethodId) (args : Array Value) (meth : Method) (c : Code) : Prop :=
  p.tables.exec = Jvm.exec ∧ c.code = M.2.1 ∧ c.maxLocals = M.2.2.1 ∧ meth.sig.returnType = M.2.2.2.1 ∧ s.vm.findClass M.1.cls = some m.cls ∧ (∀ w ∈ hz_tbl, w.before args s = true) ∧ meth.locks = false ∧ meth.name = M.1.name ∧ va_K G.2.1 vwCl (hz_tys G) s ∧ hz_B G ≤ s.heap.size ∧ hz_X G s
/-- a place in a method: from there it comes to its end as post says -/
def hz_Run (G : hz_G) (N N' : Nat) (M : hz_M) (R : hz_R) (pc : Nat) (lv : List (Nat × Value)) (st : List Value) (σ : hz_H) (post : hz_P) : Prop :=
  ∀ (N0 : Nat) (p : Program) (e : Env) (s : State) (m : MethodId) (args : Array Value) (below : List Frame) (meth : Method) (c : Code) (H : Heap) (locs : List Loc) (ls : Array Slot), N0 ≤ N → hz_C G M p s m args meth c → va_S (hz_A G) s.heap H locs → H.size = hz_B G + N → va_P G.2.1 vwCl (hz_ws G R N σ) H → lv_has ls M.2.2.1 (lv.map (hz_u2 G)) →
    W p G.1 e (hz_rm M N0 N') s m args below meth c H locs (N - N0) (hz_S N - hz_S N0) (MQ below (hz_Q G N' post) args s (N' - N0) (hz_S N' - hz_S N0) (hz_A G)) (F0 m pc ls (st.map (hz_up G)))
theorem hz_goodIn : GoodIn hz_tbl hz_tbl := fun w hw => ⟨hw, good_of_word (List.mem_filter.mp hw).2⟩
theorem hz_mem {w : Cond} (i : Nat) (h : (decide (lw_tbl[i]? = some w) && goodWord w) = true) : w ∈ hz_tbl := by
  simp only [Bool.and_eq_true, decide_eq_true_eq] at h
  exact List.mem_filter.mpr ⟨List.mem_of_getElem? h.1, h.2⟩
theorem hz_allIn {ws : List Cond} (h : ∀ w ∈ ws, w ∈ lw_tbl) (hg : ws.all goodWord = true) : ∀ w ∈ ws, w ∈ hz_tbl := fun w hw => List.mem_filter.mpr ⟨h w hw, List.all_eq_true.mp hg w hw⟩
theorem hz_goodM {M : hz_M} (h : Cond.code M.1 M.2.1 M.2.2.1 M.2.2.2.1 ∈ hz_tbl) : GoodIn hz_tbl (hz_wd M) := fun w hw => (List.mem_cons.mp hw).elim (fun q => q ▸ hz_goodIn _ h) (hz_goodIn w)
theorem hz_S_succ (N : Nat) : hz_S (N + 1) = hz_S N + (hz_sh N).2 := by simp [hz_S, List.range_succ]
theorem hz_S_mono {a b : Nat} (h : a ≤ b) : hz_S a ≤ hz_S b := by
  induction b with
  | zero => have : a = 0 := by omega
            subst this; exact Nat.le_refl _
  | succ n ih =>
    by_cases hn : a = n + 1
    · subst hn; exact Nat.le_refl _
    · exact Nat.le_trans (ih (by omega)) (by rw [hz_S_succ]; exact Nat.le_add_right _ _)
theorem hz_ws_at (G : hz_G) (R : hz_R) {N q : Nat} (σ : hz_H) (h : q < N) : (hz_ws G R N σ)[q]? = some (hz_B G + q, hz_cell G R σ q) := by simp [hz_ws, h]
theorem hz_ws_some {G : hz_G} {R : hz_R} {N k : Nat} {σ : hz_H} {x : Nat × va_E} (h : (hz_ws G R N σ)[k]? = some x) : k < N ∧ x = (hz_B G + k, hz_cell G R σ k) := by
  by_cases hk : k < N
  · rw [hz_ws_at G R σ hk] at h
    exact ⟨hk, (Option.some.inj h).symm⟩
  · simp [hz_ws, hk] at h
theorem hz_ws_D (G : hz_G) (R : hz_R) (N : Nat) (σ : hz_H) : va_D (hz_A G) (hz_ws G R N σ) := by
  refine ⟨fun i j p q hi hj hpq => ?_, fun k q hk => ?_⟩
  · obtain ⟨_, rfl⟩ := hz_ws_some hi
    obtain ⟨_, rfl⟩ := hz_ws_some hj
    dsimp only at hpq
    omega
  · obtain ⟨_, rfl⟩ := hz_ws_some hk
    exact Nat.le_add_right _ _
theorem hz_ws_set {G : hz_G} {R R' : hz_R} {N q : Nat} {σ σ' : hz_H} {e : va_E} (he : hz_cell G R' σ' q = e) (ho : ∀ k, k ≠ q → hz_cell G R' σ' k = hz_cell G R σ k) : (hz_ws G R N σ).set q (hz_B G + q, e) = hz_ws G R' N σ' := by
  apply List.ext_getElem?
  intro k
  rw [List.getElem?_set]
  by_cases hk : q = k
  · subst hk
    by_cases hN : q < N
    · rw [if_pos rfl, if_pos (by simpa [hz_ws] using hN), hz_ws_at G R' σ' hN, he]
    · rw [if_pos rfl, if_neg (by simpa [hz_ws] using hN)]
      simp [hz_ws, hN]
  · rw [if_neg hk]
    by_cases hN : k < N
    · rw [hz_ws_at G R σ hN, hz_ws_at G R' σ' hN, ho k (fun h => hk h.symm)]
    · simp [hz_ws, hN]
theorem hz_ws_app {G : hz_G} {R R' : hz_R} {N : Nat} {σ σ' : hz_H} (ho : ∀ k, k < N → hz_cell G R' σ' k = hz_cell G R σ k) : hz_ws G R N σ ++ [(hz_B G + N, hz_cell G R' σ' N)] = hz_ws G R' (N + 1) σ' := by
  simp only [hz_ws, List.range_succ, List.map_append, List.map_cons, List.map_nil]
  congr 1
  apply List.map_congr_left
  intro k hk
  rw [ho k (List.mem_range.mp hk)]
theorem hz_cell_o {G : hz_G} {R : hz_R} {σ : hz_H} {q ci n : Nat} (h : hz_sh q = (ci, n)) (hc : ci < 20) : hz_cell G R σ q = .inr (ci, hz_fs (hz_B G) R σ q ci) := by
  simp only [hz_cell, h]
  rw [if_neg (by omega), if_neg (by omega), if_neg (by omega)]
theorem hz_cell_i {G : hz_G} {R : hz_R} {σ : hz_H} {q n : Nat} (h : hz_sh q = (20, n)) : hz_cell G R σ q = .inl (G.2.2.1 0, n, .inl (σ.1 q)) := by
  simp only [hz_cell, h, if_true]
theorem hz_cell_b {G : hz_G} {R : hz_R} {σ : hz_H} {q n : Nat} (h : hz_sh q = (21, n)) : hz_cell G R σ q = .inl (G.2.2.1 1, n, .inl (σ.1 q)) := by
  simp only [hz_cell, h, if_true]
  rfl
theorem hz_cell_l {G : hz_G} {R : hz_R} {σ : hz_H} {q n : Nat} (h : hz_sh q = (22, n)) : hz_cell G R σ q = .inl (G.2.2.1 2, n, .inr (.inl (σ.2 q))) := by
  simp only [hz_cell, h, if_true]
  rfl
theorem hz_cell_eq {G : hz_G} {R R' : hz_R} {σ σ' : hz_H} {k : Nat} (h1 : σ'.1 k = σ.1 k) (h2 : σ'.2 k = σ.2 k) (h3 : R' k = R k) : hz_cell G R' σ' k = hz_cell G R σ k := by
  have hf : ∀ ci, hz_fs (hz_B G) R' σ' k ci = hz_fs (hz_B G) R σ k ci := by
    intro ci
    simp only [hz_fs]
    apply List.map_congr_left
    intro j _
    simp only [hz_fv, h1, h2, h3]
  simp only [hz_cell, h1, h2, hf]
theorem hz_up_cat (G : hz_G) (v : Value) : (hz_up G v).category = v.category := by cases v <;> rfl
theorem hz_fs_at {B : Nat} {R : hz_R} {σ : hz_H} {q ci j kd : Nat} (h : (hz_fk ci)[j]? = some kd) : (hz_fs B R σ q ci)[j]? = some (hz_fv B R σ q kd j) := by
  have hj : j < (hz_fk ci).length := (List.getElem?_eq_some_iff.mp h).1
  simp only [hz_fs, List.getElem?_map, List.getElem?_range hj, Option.map_some]
  rw [List.getD_eq_getElem?_getD, h]
  rfl
theorem hz_fs_set {B : Nat} {R R' : hz_R} {σ σ' : hz_H} {q ci j kd : Nat} {v : Value} (h : (hz_fk ci)[j]? = some kd) (hv : hz_fv B R' σ' q kd j = v) (ho : ∀ i kd, i ≠ j → hz_fv B R' σ' q kd i = hz_fv B R σ q kd i) : (hz_fs B R σ q ci).set j v = hz_fs B R' σ' q ci := by
  apply List.ext_getElem?
  intro i
  rw [List.getElem?_set]
  have hj : j < (hz_fk ci).length := (List.getElem?_eq_some_iff.mp h).1
  by_cases hi : j = i
  · subst hi
    rw [if_pos rfl, if_pos (by simpa [hz_fs] using hj), hz_fs_at h, hv]
  · rw [if_neg hi]
    cases hk : (hz_fk ci)[i]? with
    | none =>
      have hl : (hz_fk ci).length ≤ i := by simpa using hk
      simp [hz_fs, hl]
    | some kd' => rw [hz_fs_at hk, hz_fs_at hk, ho i kd' (fun h => hi h.symm)]
theorem hz_fs_len {B : Nat} {R : hz_R} {σ : hz_H} {q ci : Nat} : (hz_fs B R σ q ci).length = (hz_fk ci).length := by simp [hz_fs]
end
section
section HZ
variable {G : hz_G} {N N' : Nat} {M : hz_M} {R : hz_R} {pc : Nat} {lv : List (Nat × Value)} {st : List Value} {σ : hz_H} {post : hz_P}
theorem hz_filter (G : hz_G) (f : Nat → Nat → Bool) (lv : List (Nat × Value)) : (lv.map (hz_u2 G)).filter (fun q => f q.1 q.2.category) = (lv.filter (fun q => f q.1 q.2.category)).map (hz_u2 G) := by
  rw [List.filter_map]
  congr 1
  apply List.filter_congr
  intro q _
  simp only [Function.comp, hz_u2, hz_up_cat]
theorem hz_pick (G : hz_G) (lv : List (Nat × Value)) (ks : List Nat) : lv_pick (lv.map (hz_u2 G)) ks = (lv_pick lv ks).map (hz_u2 G) := by
  simp only [lv_pick, List.map_filterMap, List.getElem?_map]
theorem hz_lvat {G : hz_G} {ls : Array Slot} {nL : Nat} {lv : List (Nat × Value)} (h : lv_has ls nL (lv.map (hz_u2 G))) {i : Nat} {v : Value} (hk : lv.lookup i = some v) : ls[i]? = some (.val (hz_up G v)) := by
  have hm : ∀ (l : List (Nat × Value)), l.lookup i = some v → (i, v) ∈ l := by
    intro l
    induction l with
    | nil => intro h; cases h
    | cons a l ih =>
      intro h
      obtain ⟨a1, a2⟩ := a
      rw [List.lookup_cons] at h
      split at h
      · next e =>
        have : i = a1 := by simpa using e
        subst this
        cases h
        exact List.mem_cons_self
      · exact List.mem_cons_of_mem _ (ih h)
  exact h.2.2 (i, hz_up G v) (List.mem_map.mpr ⟨(i, v), hm lv hk, rfl⟩)
/-- local i becomes v (by places in order); what shared its two places is gone -/
def hz_put : List (Nat × Value) → Nat → Value → List (Nat × Value)
  | [], i, v => [(i, v)]
  | (k, u) :: r, i, v => match Nat.blt k i with
    | true => (match (Nat.beq (k + 1) i && Nat.beq u.category 2) with
      | true => hz_put r i v
      | false => (k, u) :: hz_put r i v)
    | false => (i, v) :: ((k, u) :: r).filter (fun q => !(Nat.beq q.1 i) && !(Nat.beq q.1 (i + 1) && Nat.beq v.category 2) && !(Nat.beq (q.1 + 1) i && Nat.beq q.2.category 2))
theorem hz_put_mem {i : Nat} {v : Value} : ∀ (lv : List (Nat × Value)) (q : Nat × Value), q ∈ hz_put lv i v → q = (i, v) ∨ (q ∈ lv ∧ q.1 ≠ i ∧ ¬ (q.1 = i + 1 ∧ v.category = 2) ∧ ¬ (q.1 + 1 = i ∧ q.2.category = 2)) := by
  intro lv
  induction lv with
  | nil => intro q h; exact Or.inl (by simpa [hz_put] using h)
  | cons a r ih =>
    obtain ⟨k, u⟩ := a
    intro q h
    unfold hz_put at h
    split at h
    · next hb =>
      have hlt : k < i := by simpa [Nat.blt_eq] using hb
      split at h
      · rcases ih q h with h1 | h1
        · exact Or.inl h1
        · exact Or.inr ⟨List.mem_cons_of_mem _ h1.1, h1.2⟩
      · next hn =>
        rcases List.mem_cons.mp h with h1 | h1
        · subst h1
          refine Or.inr ⟨List.mem_cons_self, by dsimp only; omega, by dsimp only; omega, ?_⟩
          dsimp only
          intro hh
          have : (Nat.beq (k + 1) i && Nat.beq u.category 2) = true := by rw [hh.1, hh.2]; simp
          rw [this] at hn
          cases hn
        · rcases ih q h1 with h2 | h2
          · exact Or.inl h2
          · exact Or.inr ⟨List.mem_cons_of_mem _ h2.1, h2.2⟩
    · rcases List.mem_cons.mp h with h1 | h1
      · exact Or.inl h1
      · obtain ⟨h2, h3⟩ := List.mem_filter.mp h1
        simp only [Bool.and_eq_true, Bool.not_eq_true', Bool.and_eq_false_iff] at h3
        refine Or.inr ⟨h2, fun e => ?_, fun e => ?_, fun e => ?_⟩
        · rw [e] at h3; simp at h3
        · rw [e.1, e.2] at h3; simp at h3
        · rw [e.1, e.2] at h3; simp at h3
theorem hz_put1 {G : hz_G} {ls : Array Slot} {nL i : Nat} {v : Value} {lv lv' : List (Nat × Value)} (hl : hz_put lv i v = lv') (hc : v.category = 1) (h : lv_has ls nL ((i, hz_up G v) :: (lv.map (hz_u2 G)).filter (fun q => !(q.1 == i) && !(q.1 + 1 == i && q.2.category == 2)))) : lv_has ls nL (lv'.map (hz_u2 G)) := by
  refine ⟨h.1, h.2.1, fun q hq => ?_⟩
  obtain ⟨q0, h0, rfl⟩ := List.mem_map.mp hq
  rw [← hl] at h0
  apply h.2.2
  rcases hz_put_mem lv q0 h0 with h1 | ⟨h1, h2, h3, h4⟩
  · subst h1; exact List.mem_cons_self
  · refine List.mem_cons_of_mem _ (List.mem_filter.mpr ⟨List.mem_map.mpr ⟨q0, h1, rfl⟩, ?_⟩)
    have e1 : (hz_u2 G q0).1 = q0.1 := rfl
    have e2 : (hz_u2 G q0).2.category = q0.2.category := hz_up_cat G q0.2
    rw [e1, e2]
    have e3 : (q0.1 == i) = false := by simpa using h2
    have e4 : (q0.1 + 1 == i && q0.2.category == 2) = false := by
      cases hh : (q0.1 + 1 == i && q0.2.category == 2) with
      | false => rfl
      | true => exact absurd (by simpa using hh) h4
    rw [e3, e4]; rfl
theorem hz_put2 {G : hz_G} {ls : Array Slot} {nL i : Nat} {v : Value} {lv lv' : List (Nat × Value)} (hl : hz_put lv i v = lv') (hc : v.category = 2) (h : lv_has ls nL ((i, hz_up G v) :: (lv.map (hz_u2 G)).filter (fun q => !(q.1 == i) && (!(q.1 == i + 1) && !(q.1 + 1 == i && q.2.category == 2))))) : lv_has ls nL (lv'.map (hz_u2 G)) := by
  refine ⟨h.1, h.2.1, fun q hq => ?_⟩
  obtain ⟨q0, h0, rfl⟩ := List.mem_map.mp hq
  rw [← hl] at h0
  apply h.2.2
  rcases hz_put_mem lv q0 h0 with h1 | ⟨h1, h2, h3, h4⟩
  · subst h1; exact List.mem_cons_self
  · refine List.mem_cons_of_mem _ (List.mem_filter.mpr ⟨List.mem_map.mpr ⟨q0, h1, rfl⟩, ?_⟩)
    have e1 : (hz_u2 G q0).1 = q0.1 := rfl
    have e2 : (hz_u2 G q0).2.category = q0.2.category := hz_up_cat G q0.2
    rw [e1, e2]
    have e3 : (q0.1 == i) = false := by simpa using h2
    have e5 : (q0.1 == i + 1) = false := by
      have : ¬ q0.1 = i + 1 := fun e => h3 ⟨e, hc⟩
      simpa using this
    have e4 : (q0.1 + 1 == i && q0.2.category == 2) = false := by
      cases hh : (q0.1 + 1 == i && q0.2.category == 2) with
      | false => rfl
      | true => exact absurd (by simpa using hh) h4
    rw [e3, e4, e5]; rfl
/-- fewer locals -/
theorem o_sub (ks : List Nat) {lv' : List (Nat × Value)} (hl : lv_pick lv ks = lv') (h : hz_Run G N N' M R pc lv' st σ post) : hz_Run G N N' M R pc lv st σ post := by
  intro N0 p e s m args below meth c H locs ls h0 C hS hz hP hlv
  exact h N0 p e s m args below meth c H locs ls h0 C hS hz hP (lv_sub hlv ks (by rw [hz_pick, hl]))
theorem o_st {st' : List Value} (hs : st = st') (h : hz_Run G N N' M R pc lv st' σ post) : hz_Run G N N' M R pc lv st σ post := by subst hs; exact h
theorem o_at {pc' : Nat} {lv' : List (Nat × Value)} {st' : List Value} {σ' : hz_H} (hp : pc = pc') (hl : lv = lv') (hs : st = st') (hσ : σ = σ') (h : hz_Run G N N' M R pc' lv' st' σ' post) : hz_Run G N N' M R pc lv st σ post := by subst hp; subst hl; subst hs; subst hσ; exact h

theorem o_iconst {n : Int} {v : Int32} (hd : decode M.2.1 pc = .ok (.iconst n, 1)) (hv : Int32.ofInt n = v) (h : hz_Run G N N' M R (pc + 1) lv (.int v :: st) σ post) : hz_Run G N N' M R pc lv (st) σ post := by
  intro N0 p e s m args below meth c H locs ls h0 C hS hz hP hlv
  exact lv_iconst C.1 C.2.1 hd hv (h N0 p e s m args below meth c H locs ls h0 C hS hz hP hlv)
theorem o_bipush {n : Int} {v : Int32} (hd : decode M.2.1 pc = .ok (.bipush n, 2)) (hv : (Int8.ofInt n).toInt32 = v) (h : hz_Run G N N' M R (pc + 2) lv (.int v :: st) σ post) : hz_Run G N N' M R pc lv (st) σ post := by
  intro N0 p e s m args below meth c H locs ls h0 C hS hz hP hlv
  exact lv_bipush C.1 C.2.1 hd hv (h N0 p e s m args below meth c H locs ls h0 C hS hz hP hlv)
theorem o_sipush {n : Int} {v : Int32} (hd : decode M.2.1 pc = .ok (.sipush n, 3)) (hv : (Int16.ofInt n).toInt32 = v) (h : hz_Run G N N' M R (pc + 3) lv (.int v :: st) σ post) : hz_Run G N N' M R pc lv (st) σ post := by
  intro N0 p e s m args below meth c H locs ls h0 C hS hz hP hlv
  exact lv_sipush C.1 C.2.1 hd hv (h N0 p e s m args below meth c H locs ls h0 C hS hz hP hlv)
theorem o_lconst {n : Fin 2} {v : Int64} (hd : decode M.2.1 pc = .ok (.lconst n, 1)) (hv : Int64.ofNat (n : Nat) = v) (h : hz_Run G N N' M R (pc + 1) lv (.long v :: st) σ post) : hz_Run G N N' M R pc lv (st) σ post := by
  intro N0 p e s m args below meth c H locs ls h0 C hS hz hP hlv
  exact lv_lconst C.1 C.2.1 hd hv (h N0 p e s m args below meth c H locs ls h0 C hS hz hP hlv)
theorem o_ldc {idx : Nat} {v : Int32} (hd : decode M.2.1 pc = .ok (.ldc idx, 2)) (hc : Cond.constant M.1.cls idx v ∈ hz_tbl) (h : hz_Run G N N' M R (pc + 2) lv (.int v :: st) σ post) : hz_Run G N N' M R pc lv (st) σ post := by
  intro N0 p e s m args below meth c H locs ls h0 C hS hz hP hlv
  exact lv_ldc C.1 C.2.1 C.2.2.2.2.1 (C.2.2.2.2.2.1 _ hc) hd (h N0 p e s m args below meth c H locs ls h0 C hS hz hP hlv)
theorem o_ldcw {idx : Nat} {v : Int32} (hd : decode M.2.1 pc = .ok (.ldc_w idx, 3)) (hc : Cond.constant M.1.cls idx v ∈ hz_tbl) (h : hz_Run G N N' M R (pc + 3) lv (.int v :: st) σ post) : hz_Run G N N' M R pc lv (st) σ post := by
  intro N0 p e s m args below meth c H locs ls h0 C hS hz hP hlv
  exact lv_ldcw C.1 C.2.1 C.2.2.2.2.1 (C.2.2.2.2.2.1 _ hc) hd (h N0 p e s m args below meth c H locs ls h0 C hS hz hP hlv)
theorem o_ldc2 {idx : Nat} {v : Int64} (hd : decode M.2.1 pc = .ok (.ldc2_w idx, 3)) (hc : Cond.constantLong M.1.cls idx v ∈ hz_tbl) (h : hz_Run G N N' M R (pc + 3) lv (.long v :: st) σ post) : hz_Run G N N' M R pc lv (st) σ post := by
  intro N0 p e s m args below meth c H locs ls h0 C hS hz hP hlv
  exact lv_ldc2 C.1 C.2.1 C.2.2.2.2.1 (C.2.2.2.2.2.1 _ hc) hd (h N0 p e s m args below meth c H locs ls h0 C hS hz hP hlv)
theorem o_iload_n {k : Fin 4} {x : Int32} (hd : decode M.2.1 pc = .ok (.iload_n k, 1)) (hl : lv.lookup (k : Nat) = some (.int x)) (h : hz_Run G N N' M R (pc + 1) lv (.int x :: st) σ post) : hz_Run G N N' M R pc lv (st) σ post := by
  intro N0 p e s m args below meth c H locs ls h0 C hS hz hP hlv
  exact lv_iload_n C.1 C.2.1 hd rfl (hz_lvat hlv hl) (h N0 p e s m args below meth c H locs ls h0 C hS hz hP hlv)
theorem o_iload {k : Nat} {x : Int32} (hd : decode M.2.1 pc = .ok (.iload k, 2)) (hl : lv.lookup k = some (.int x)) (h : hz_Run G N N' M R (pc + 2) lv (.int x :: st) σ post) : hz_Run G N N' M R pc lv (st) σ post := by
  intro N0 p e s m args below meth c H locs ls h0 C hS hz hP hlv
  exact lv_iload C.1 C.2.1 hd (hz_lvat hlv hl) (h N0 p e s m args below meth c H locs ls h0 C hS hz hP hlv)
theorem o_lload_n {k : Fin 4} {x : Int64} (hd : decode M.2.1 pc = .ok (.lload_n k, 1)) (hl : lv.lookup (k : Nat) = some (.long x)) (h : hz_Run G N N' M R (pc + 1) lv (.long x :: st) σ post) : hz_Run G N N' M R pc lv (st) σ post := by
  intro N0 p e s m args below meth c H locs ls h0 C hS hz hP hlv
  exact lv_lload_n C.1 C.2.1 hd rfl (hz_lvat hlv hl) (h N0 p e s m args below meth c H locs ls h0 C hS hz hP hlv)
theorem o_lload {k : Nat} {x : Int64} (hd : decode M.2.1 pc = .ok (.lload k, 2)) (hl : lv.lookup k = some (.long x)) (h : hz_Run G N N' M R (pc + 2) lv (.long x :: st) σ post) : hz_Run G N N' M R pc lv (st) σ post := by
  intro N0 p e s m args below meth c H locs ls h0 C hS hz hP hlv
  exact lv_lload C.1 C.2.1 hd (hz_lvat hlv hl) (h N0 p e s m args below meth c H locs ls h0 C hS hz hP hlv)
theorem o_aload_n {k : Fin 4} {x : Nat} (hd : decode M.2.1 pc = .ok (.aload_n k, 1)) (hl : lv.lookup (k : Nat) = some (.ref x)) (h : hz_Run G N N' M R (pc + 1) lv (.ref x :: st) σ post) : hz_Run G N N' M R pc lv (st) σ post := by
  intro N0 p e s m args below meth c H locs ls h0 C hS hz hP hlv
  exact lv_aload_n C.1 C.2.1 hd rfl (hz_lvat hlv hl) (h N0 p e s m args below meth c H locs ls h0 C hS hz hP hlv)
theorem o_aload {k : Nat} {x : Nat} (hd : decode M.2.1 pc = .ok (.aload k, 2)) (hl : lv.lookup k = some (.ref x)) (h : hz_Run G N N' M R (pc + 2) lv (.ref x :: st) σ post) : hz_Run G N N' M R pc lv (st) σ post := by
  intro N0 p e s m args below meth c H locs ls h0 C hS hz hP hlv
  exact lv_aload C.1 C.2.1 hd (hz_lvat hlv hl) (h N0 p e s m args below meth c H locs ls h0 C hS hz hP hlv)
theorem o_sload_n {k : Fin 4} {x : Nat} (hd : decode M.2.1 pc = .ok (.aload_n k, 1)) (hl : lv.lookup (k : Nat) = some (.retAddr x)) (h : hz_Run G N N' M R (pc + 1) lv (.retAddr x :: st) σ post) : hz_Run G N N' M R pc lv (st) σ post := by
  intro N0 p e s m args below meth c H locs ls h0 C hS hz hP hlv
  exact lv_aload_n C.1 C.2.1 hd rfl (hz_lvat hlv hl) (h N0 p e s m args below meth c H locs ls h0 C hS hz hP hlv)
theorem o_istore_n {k : Fin 4} {x : Int32} {lv' : List (Nat × Value)} (hd : decode M.2.1 pc = .ok (.istore_n k, 1)) (hn : (k : Nat) < M.2.2.1) (hl : hz_put lv (k : Nat) (.int x) = lv') (h : hz_Run G N N' M R (pc + 1) lv' (st) σ post) : hz_Run G N N' M R pc lv (.int x :: st) σ post := by
  intro N0 p e s m args below meth c H locs ls h0 C hS hz hP hlv
  exact lv_istore_n C.1 C.2.1 hd rfl hlv hn rfl (fun ls hlv => h N0 p e s m args below meth c H locs ls h0 C hS hz hP (hz_put1 (v := .int x) hl rfl hlv))
theorem o_istore {k : Nat} {x : Int32} {lv' : List (Nat × Value)} (hd : decode M.2.1 pc = .ok (.istore k, 2)) (hn : (k : Nat) < M.2.2.1) (hl : hz_put lv (k : Nat) (.int x) = lv') (h : hz_Run G N N' M R (pc + 2) lv' (st) σ post) : hz_Run G N N' M R pc lv (.int x :: st) σ post := by
  intro N0 p e s m args below meth c H locs ls h0 C hS hz hP hlv
  exact lv_istore C.1 C.2.1 hd hlv hn rfl (fun ls hlv => h N0 p e s m args below meth c H locs ls h0 C hS hz hP (hz_put1 (v := .int x) hl rfl hlv))
theorem o_lstore_n {k : Fin 4} {x : Int64} {lv' : List (Nat × Value)} (hd : decode M.2.1 pc = .ok (.lstore_n k, 1)) (hn : (k : Nat) + 1 < M.2.2.1) (hl : hz_put lv (k : Nat) (.long x) = lv') (h : hz_Run G N N' M R (pc + 1) lv' (st) σ post) : hz_Run G N N' M R pc lv (.long x :: st) σ post := by
  intro N0 p e s m args below meth c H locs ls h0 C hS hz hP hlv
  exact lv_lstore_n C.1 C.2.1 hd rfl hlv hn rfl (fun ls hlv => h N0 p e s m args below meth c H locs ls h0 C hS hz hP (hz_put2 (v := .long x) hl rfl hlv))
theorem o_lstore {k : Nat} {x : Int64} {lv' : List (Nat × Value)} (hd : decode M.2.1 pc = .ok (.lstore k, 2)) (hn : (k : Nat) + 1 < M.2.2.1) (hl : hz_put lv (k : Nat) (.long x) = lv') (h : hz_Run G N N' M R (pc + 2) lv' (st) σ post) : hz_Run G N N' M R pc lv (.long x :: st) σ post := by
  intro N0 p e s m args below meth c H locs ls h0 C hS hz hP hlv
  exact lv_lstore C.1 C.2.1 hd hlv hn rfl (fun ls hlv => h N0 p e s m args below meth c H locs ls h0 C hS hz hP (hz_put2 (v := .long x) hl rfl hlv))
theorem o_astore_n {k : Fin 4} {x : Nat} {lv' : List (Nat × Value)} (hd : decode M.2.1 pc = .ok (.astore_n k, 1)) (hn : (k : Nat) < M.2.2.1) (hl : hz_put lv (k : Nat) (.ref x) = lv') (h : hz_Run G N N' M R (pc + 1) lv' (st) σ post) : hz_Run G N N' M R pc lv (.ref x :: st) σ post := by
  intro N0 p e s m args below meth c H locs ls h0 C hS hz hP hlv
  exact lv_astore_n C.1 C.2.1 hd rfl hlv hn rfl (fun ls hlv => h N0 p e s m args below meth c H locs ls h0 C hS hz hP (hz_put1 (v := .ref x) hl rfl hlv))
theorem o_astore {k : Nat} {x : Nat} {lv' : List (Nat × Value)} (hd : decode M.2.1 pc = .ok (.astore k, 2)) (hn : (k : Nat) < M.2.2.1) (hl : hz_put lv (k : Nat) (.ref x) = lv') (h : hz_Run G N N' M R (pc + 2) lv' (st) σ post) : hz_Run G N N' M R pc lv (.ref x :: st) σ post := by
  intro N0 p e s m args below meth c H locs ls h0 C hS hz hP hlv
  exact lv_astore C.1 C.2.1 hd hlv hn rfl (fun ls hlv => h N0 p e s m args below meth c H locs ls h0 C hS hz hP (hz_put1 (v := .ref x) hl rfl hlv))
theorem o_iinc {k : Nat} {n : Int} {x v : Int32} {lv' : List (Nat × Value)} (hd : decode M.2.1 pc = .ok (.iinc k n, 3)) (hl : lv.lookup k = some (.int x)) (hv : x + Int32.ofInt n = v) (hn : k < M.2.2.1) (hp : hz_put lv k (.int v) = lv') (h : hz_Run G N N' M R (pc + 3) lv' st σ post) : hz_Run G N N' M R pc lv st σ post := by
  intro N0 p e s m args below meth c H locs ls h0 C hS hz hP hlv
  have hm : ∀ (l : List (Nat × Value)), l.lookup k = some (.int x) → ∃ j : Nat, (l.map (hz_u2 G))[j]? = some (k, .int x) := by
    intro l
    induction l with
    | nil => intro h; cases h
    | cons a l ih =>
      intro h
      obtain ⟨a1, a2⟩ := a
      rw [List.lookup_cons] at h
      split at h
      · next e =>
        have : k = a1 := by simpa using e
        subst this
        cases h
        exact ⟨0, rfl⟩
      · obtain ⟨j, hj⟩ := ih h
        exact ⟨j + 1, hj⟩
  obtain ⟨j, hj⟩ := hm lv hl
  exact lv_iinc (k := j) C.1 C.2.1 hd hlv hj hv hn rfl (fun ls hlv => h N0 p e s m args below meth c H locs ls h0 C hS hz hP (hz_put1 (v := .int v) hp rfl hlv))
theorem o_iadd {x y : Int32} (hd : decode M.2.1 pc = .ok (.iadd, 1)) (h : hz_Run G N N' M R (pc + 1) lv (.int (x + y) :: st) σ post) : hz_Run G N N' M R pc lv (.int y :: .int x :: st) σ post := by
  intro N0 p e s m args below meth c H locs ls h0 C hS hz hP hlv
  exact lv_iadd C.1 C.2.1 hd (h N0 p e s m args below meth c H locs ls h0 C hS hz hP hlv)
theorem o_isub {x y : Int32} (hd : decode M.2.1 pc = .ok (.isub, 1)) (h : hz_Run G N N' M R (pc + 1) lv (.int (x - y) :: st) σ post) : hz_Run G N N' M R pc lv (.int y :: .int x :: st) σ post := by
  intro N0 p e s m args below meth c H locs ls h0 C hS hz hP hlv
  exact lv_isub C.1 C.2.1 hd (h N0 p e s m args below meth c H locs ls h0 C hS hz hP hlv)
theorem o_imul {x y : Int32} (hd : decode M.2.1 pc = .ok (.imul, 1)) (h : hz_Run G N N' M R (pc + 1) lv (.int (x * y) :: st) σ post) : hz_Run G N N' M R pc lv (.int y :: .int x :: st) σ post := by
  intro N0 p e s m args below meth c H locs ls h0 C hS hz hP hlv
  exact lv_imul C.1 C.2.1 hd (h N0 p e s m args below meth c H locs ls h0 C hS hz hP hlv)
theorem o_iand {x y : Int32} (hd : decode M.2.1 pc = .ok (.iand, 1)) (h : hz_Run G N N' M R (pc + 1) lv (.int (x &&& y) :: st) σ post) : hz_Run G N N' M R pc lv (.int y :: .int x :: st) σ post := by
  intro N0 p e s m args below meth c H locs ls h0 C hS hz hP hlv
  exact lv_iand C.1 C.2.1 hd (h N0 p e s m args below meth c H locs ls h0 C hS hz hP hlv)
theorem o_ior {x y : Int32} (hd : decode M.2.1 pc = .ok (.ior, 1)) (h : hz_Run G N N' M R (pc + 1) lv (.int (x ||| y) :: st) σ post) : hz_Run G N N' M R pc lv (.int y :: .int x :: st) σ post := by
  intro N0 p e s m args below meth c H locs ls h0 C hS hz hP hlv
  exact lv_ior C.1 C.2.1 hd (h N0 p e s m args below meth c H locs ls h0 C hS hz hP hlv)
theorem o_ixor {x y : Int32} (hd : decode M.2.1 pc = .ok (.ixor, 1)) (h : hz_Run G N N' M R (pc + 1) lv (.int (x ^^^ y) :: st) σ post) : hz_Run G N N' M R pc lv (.int y :: .int x :: st) σ post := by
  intro N0 p e s m args below meth c H locs ls h0 C hS hz hP hlv
  exact lv_ixor C.1 C.2.1 hd (h N0 p e s m args below meth c H locs ls h0 C hS hz hP hlv)
theorem o_ishl {x y : Int32} (hd : decode M.2.1 pc = .ok (.ishl, 1)) (h : hz_Run G N N' M R (pc + 1) lv (.int (x <<< (y &&& 31)) :: st) σ post) : hz_Run G N N' M R pc lv (.int y :: .int x :: st) σ post := by
  intro N0 p e s m args below meth c H locs ls h0 C hS hz hP hlv
  exact lv_ishl C.1 C.2.1 hd (h N0 p e s m args below meth c H locs ls h0 C hS hz hP hlv)
theorem o_ishr {x y : Int32} (hd : decode M.2.1 pc = .ok (.ishr, 1)) (h : hz_Run G N N' M R (pc + 1) lv (.int (x >>> (y &&& 31)) :: st) σ post) : hz_Run G N N' M R pc lv (.int y :: .int x :: st) σ post := by
  intro N0 p e s m args below meth c H locs ls h0 C hS hz hP hlv
  exact lv_ishr C.1 C.2.1 hd (h N0 p e s m args below meth c H locs ls h0 C hS hz hP hlv)
theorem o_iushr {x y : Int32} (hd : decode M.2.1 pc = .ok (.iushr, 1)) (h : hz_Run G N N' M R (pc + 1) lv (.int (x.toUInt32 >>> (y.toUInt32 &&& Int32.toUInt32 31)).toInt32 :: st) σ post) : hz_Run G N N' M R pc lv (.int y :: .int x :: st) σ post := by
  intro N0 p e s m args below meth c H locs ls h0 C hS hz hP hlv
  exact lv_iushr C.1 C.2.1 hd rfl (h N0 p e s m args below meth c H locs ls h0 C hS hz hP hlv)
theorem o_idiv {x y : Int32} (hd : decode M.2.1 pc = .ok (.idiv, 1)) (hy : ¬ y = 0) (h : hz_Run G N N' M R (pc + 1) lv (.int (x / y) :: st) σ post) : hz_Run G N N' M R pc lv (.int y :: .int x :: st) σ post := by
  intro N0 p e s m args below meth c H locs ls h0 C hS hz hP hlv
  exact lv_idiv C.1 C.2.1 hd hy (h N0 p e s m args below meth c H locs ls h0 C hS hz hP hlv)
theorem o_irem {x y : Int32} (hd : decode M.2.1 pc = .ok (.irem, 1)) (hy : ¬ y = 0) (h : hz_Run G N N' M R (pc + 1) lv (.int (x - x / y * y) :: st) σ post) : hz_Run G N N' M R pc lv (.int y :: .int x :: st) σ post := by
  intro N0 p e s m args below meth c H locs ls h0 C hS hz hP hlv
  exact lv_irem C.1 C.2.1 hd hy (h N0 p e s m args below meth c H locs ls h0 C hS hz hP hlv)
theorem o_ldiv {x y : Int64} (hd : decode M.2.1 pc = .ok (.ldiv, 1)) (hy : ¬ y = 0) (h : hz_Run G N N' M R (pc + 1) lv (.long (x / y) :: st) σ post) : hz_Run G N N' M R pc lv (.long y :: .long x :: st) σ post := by
  intro N0 p e s m args below meth c H locs ls h0 C hS hz hP hlv
  exact lv_ldiv C.1 C.2.1 hd hy (h N0 p e s m args below meth c H locs ls h0 C hS hz hP hlv)
theorem o_lrem {x y : Int64} (hd : decode M.2.1 pc = .ok (.lrem, 1)) (hy : ¬ y = 0) (h : hz_Run G N N' M R (pc + 1) lv (.long (x - x / y * y) :: st) σ post) : hz_Run G N N' M R pc lv (.long y :: .long x :: st) σ post := by
  intro N0 p e s m args below meth c H locs ls h0 C hS hz hP hlv
  exact lv_lrem C.1 C.2.1 hd hy (h N0 p e s m args below meth c H locs ls h0 C hS hz hP hlv)
theorem o_ladd {x y : Int64} (hd : decode M.2.1 pc = .ok (.ladd, 1)) (h : hz_Run G N N' M R (pc + 1) lv (.long (x + y) :: st) σ post) : hz_Run G N N' M R pc lv (.long y :: .long x :: st) σ post := by
  intro N0 p e s m args below meth c H locs ls h0 C hS hz hP hlv
  exact lv_ladd C.1 C.2.1 hd (h N0 p e s m args below meth c H locs ls h0 C hS hz hP hlv)
theorem o_lsub {x y : Int64} (hd : decode M.2.1 pc = .ok (.lsub, 1)) (h : hz_Run G N N' M R (pc + 1) lv (.long (x - y) :: st) σ post) : hz_Run G N N' M R pc lv (.long y :: .long x :: st) σ post := by
  intro N0 p e s m args below meth c H locs ls h0 C hS hz hP hlv
  exact lv_lsub C.1 C.2.1 hd (h N0 p e s m args below meth c H locs ls h0 C hS hz hP hlv)
theorem o_lmul {x y : Int64} (hd : decode M.2.1 pc = .ok (.lmul, 1)) (h : hz_Run G N N' M R (pc + 1) lv (.long (x * y) :: st) σ post) : hz_Run G N N' M R pc lv (.long y :: .long x :: st) σ post := by
  intro N0 p e s m args below meth c H locs ls h0 C hS hz hP hlv
  exact lv_lmul C.1 C.2.1 hd (h N0 p e s m args below meth c H locs ls h0 C hS hz hP hlv)
theorem o_land {x y : Int64} (hd : decode M.2.1 pc = .ok (.land, 1)) (h : hz_Run G N N' M R (pc + 1) lv (.long (x &&& y) :: st) σ post) : hz_Run G N N' M R pc lv (.long y :: .long x :: st) σ post := by
  intro N0 p e s m args below meth c H locs ls h0 C hS hz hP hlv
  exact lv_land C.1 C.2.1 hd (h N0 p e s m args below meth c H locs ls h0 C hS hz hP hlv)
theorem o_lor {x y : Int64} (hd : decode M.2.1 pc = .ok (.lor, 1)) (h : hz_Run G N N' M R (pc + 1) lv (.long (x ||| y) :: st) σ post) : hz_Run G N N' M R pc lv (.long y :: .long x :: st) σ post := by
  intro N0 p e s m args below meth c H locs ls h0 C hS hz hP hlv
  exact lv_lor C.1 C.2.1 hd (h N0 p e s m args below meth c H locs ls h0 C hS hz hP hlv)
theorem o_lxor {x y : Int64} (hd : decode M.2.1 pc = .ok (.lxor, 1)) (h : hz_Run G N N' M R (pc + 1) lv (.long (x ^^^ y) :: st) σ post) : hz_Run G N N' M R pc lv (.long y :: .long x :: st) σ post := by
  intro N0 p e s m args below meth c H locs ls h0 C hS hz hP hlv
  exact lv_lxor C.1 C.2.1 hd (h N0 p e s m args below meth c H locs ls h0 C hS hz hP hlv)
theorem o_lushr {x : Int64} {y : Int32} (hd : decode M.2.1 pc = .ok (.lushr, 1)) (h : hz_Run G N N' M R (pc + 1) lv (.long ((x.toUInt64 >>> (y.toInt64.toUInt64 &&& Int64.toUInt64 63)).toInt64) :: st) σ post) : hz_Run G N N' M R pc lv (.int y :: .long x :: st) σ post := by
  intro N0 p e s m args below meth c H locs ls h0 C hS hz hP hlv
  exact lv_lushr C.1 C.2.1 hd rfl (h N0 p e s m args below meth c H locs ls h0 C hS hz hP hlv)
theorem o_lshl {x : Int64} {y : Int32} (hd : decode M.2.1 pc = .ok (.lshl, 1)) (h : hz_Run G N N' M R (pc + 1) lv (.long (x <<< (y.toInt64 &&& 63)) :: st) σ post) : hz_Run G N N' M R pc lv (.int y :: .long x :: st) σ post := by
  intro N0 p e s m args below meth c H locs ls h0 C hS hz hP hlv
  exact lv_lshl C.1 C.2.1 hd rfl (h N0 p e s m args below meth c H locs ls h0 C hS hz hP hlv)
theorem o_lshr {x : Int64} {y : Int32} (hd : decode M.2.1 pc = .ok (.lshr, 1)) (h : hz_Run G N N' M R (pc + 1) lv (.long (x >>> (y.toInt64 &&& 63)) :: st) σ post) : hz_Run G N N' M R pc lv (.int y :: .long x :: st) σ post := by
  intro N0 p e s m args below meth c H locs ls h0 C hS hz hP hlv
  exact lv_lshr C.1 C.2.1 hd rfl (h N0 p e s m args below meth c H locs ls h0 C hS hz hP hlv)
theorem o_ineg {x : Int32} (hd : decode M.2.1 pc = .ok (.ineg, 1)) (h : hz_Run G N N' M R (pc + 1) lv (.int (-x) :: st) σ post) : hz_Run G N N' M R pc lv (.int x :: st) σ post := by
  intro N0 p e s m args below meth c H locs ls h0 C hS hz hP hlv
  exact lv_ineg C.1 C.2.1 hd (h N0 p e s m args below meth c H locs ls h0 C hS hz hP hlv)
theorem o_lneg {x : Int64} (hd : decode M.2.1 pc = .ok (.lneg, 1)) (h : hz_Run G N N' M R (pc + 1) lv (.long (-x) :: st) σ post) : hz_Run G N N' M R pc lv (.long x :: st) σ post := by
  intro N0 p e s m args below meth c H locs ls h0 C hS hz hP hlv
  exact lv_lneg C.1 C.2.1 hd (h N0 p e s m args below meth c H locs ls h0 C hS hz hP hlv)
theorem o_i2l {x : Int32} (hd : decode M.2.1 pc = .ok (.i2l, 1)) (h : hz_Run G N N' M R (pc + 1) lv (.long x.toInt64 :: st) σ post) : hz_Run G N N' M R pc lv (.int x :: st) σ post := by
  intro N0 p e s m args below meth c H locs ls h0 C hS hz hP hlv
  exact lv_i2l C.1 C.2.1 hd rfl (h N0 p e s m args below meth c H locs ls h0 C hS hz hP hlv)
theorem o_l2i {x : Int64} (hd : decode M.2.1 pc = .ok (.l2i, 1)) (h : hz_Run G N N' M R (pc + 1) lv (.int x.toInt32 :: st) σ post) : hz_Run G N N' M R pc lv (.long x :: st) σ post := by
  intro N0 p e s m args below meth c H locs ls h0 C hS hz hP hlv
  exact lv_l2i C.1 C.2.1 hd rfl (h N0 p e s m args below meth c H locs ls h0 C hS hz hP hlv)
theorem o_i2b {x : Int32} (hd : decode M.2.1 pc = .ok (.i2b, 1)) (h : hz_Run G N N' M R (pc + 1) lv (.int x.toInt8.toInt32 :: st) σ post) : hz_Run G N N' M R pc lv (.int x :: st) σ post := by
  intro N0 p e s m args below meth c H locs ls h0 C hS hz hP hlv
  exact lv_i2b C.1 C.2.1 hd rfl (h N0 p e s m args below meth c H locs ls h0 C hS hz hP hlv)
theorem o_i2s {x : Int32} (hd : decode M.2.1 pc = .ok (.i2s, 1)) (h : hz_Run G N N' M R (pc + 1) lv (.int x.toInt16.toInt32 :: st) σ post) : hz_Run G N N' M R pc lv (.int x :: st) σ post := by
  intro N0 p e s m args below meth c H locs ls h0 C hS hz hP hlv
  exact lv_i2s C.1 C.2.1 hd rfl (h N0 p e s m args below meth c H locs ls h0 C hS hz hP hlv)
theorem o_lcmp {x y : Int64} (hd : decode M.2.1 pc = .ok (.lcmp, 1)) (h : hz_Run G N N' M R (pc + 1) lv (.int (lg_cmp x y) :: st) σ post) : hz_Run G N N' M R pc lv (.long y :: .long x :: st) σ post := by
  intro N0 p e s m args below meth c H locs ls h0 C hS hz hP hlv
  exact W.lcmp C.1 C.2.1 hd (h N0 p e s m args below meth c H locs ls h0 C hS hz hP hlv)
theorem o_dup {v : Value} (hd : decode M.2.1 pc = .ok (.dup, 1)) (hv : v.category = 1) (h : hz_Run G N N' M R (pc + 1) lv (v :: v :: st) σ post) : hz_Run G N N' M R pc lv (v :: st) σ post := by
  intro N0 p e s m args below meth c H locs ls h0 C hS hz hP hlv
  exact lv_dup C.1 C.2.1 hd (by rw [hz_up_cat]; exact hv) (h N0 p e s m args below meth c H locs ls h0 C hS hz hP hlv)
theorem o_pop {v : Value} (hd : decode M.2.1 pc = .ok (.pop, 1)) (hv : v.category = 1) (h : hz_Run G N N' M R (pc + 1) lv (st) σ post) : hz_Run G N N' M R pc lv (v :: st) σ post := by
  intro N0 p e s m args below meth c H locs ls h0 C hS hz hP hlv
  exact lv_pop C.1 C.2.1 hd (by rw [hz_up_cat]; exact hv) (h N0 p e s m args below meth c H locs ls h0 C hS hz hP hlv)
theorem o_dup2 {u v : Value} (hd : decode M.2.1 pc = .ok (.dup2, 1)) (hu : u.category = 1) (hv : v.category = 1) (h : hz_Run G N N' M R (pc + 1) lv (u :: v :: u :: v :: st) σ post) : hz_Run G N N' M R pc lv (u :: v :: st) σ post := by
  intro N0 p e s m args below meth c H locs ls h0 C hS hz hP hlv
  exact lv_dup2_11 C.1 C.2.1 hd (by rw [hz_up_cat]; exact hu) (by rw [hz_up_cat]; exact hv) (h N0 p e s m args below meth c H locs ls h0 C hS hz hP hlv)
theorem o_if_eq {x : Int32} {off : Int} {tgt : Nat} (hd : decode M.2.1 pc = .ok (.ifCond .eq off, 3)) (ht : (pc : Int) + off = (tgt : Int)) (h1 : x = 0 → hz_Run G N N' M R (tgt) lv (st) σ post) (h2 : ¬ x = 0 → hz_Run G N N' M R (pc + 3) lv (st) σ post) : hz_Run G N N' M R pc lv (.int x :: st) σ post := by
  intro N0 p e s m args below meth c H locs ls h0 C hS hz hP hlv
  exact lv_if_eq C.1 C.2.1 hd ht (fun q => h1 q N0 p e s m args below meth c H locs ls h0 C hS hz hP hlv) (fun q => h2 q N0 p e s m args below meth c H locs ls h0 C hS hz hP hlv)
theorem o_icmp_eq {x y : Int32} {off : Int} {tgt : Nat} (hd : decode M.2.1 pc = .ok (.if_icmp .eq off, 3)) (ht : (pc : Int) + off = (tgt : Int)) (h1 : x = y → hz_Run G N N' M R (tgt) lv (st) σ post) (h2 : ¬ x = y → hz_Run G N N' M R (pc + 3) lv (st) σ post) : hz_Run G N N' M R pc lv (.int y :: .int x :: st) σ post := by
  intro N0 p e s m args below meth c H locs ls h0 C hS hz hP hlv
  exact lv_icmp_eq C.1 C.2.1 hd ht (fun q => h1 q N0 p e s m args below meth c H locs ls h0 C hS hz hP hlv) (fun q => h2 q N0 p e s m args below meth c H locs ls h0 C hS hz hP hlv)
theorem o_if_ne {x : Int32} {off : Int} {tgt : Nat} (hd : decode M.2.1 pc = .ok (.ifCond .ne off, 3)) (ht : (pc : Int) + off = (tgt : Int)) (h1 : ¬ x = 0 → hz_Run G N N' M R (tgt) lv (st) σ post) (h2 : x = 0 → hz_Run G N N' M R (pc + 3) lv (st) σ post) : hz_Run G N N' M R pc lv (.int x :: st) σ post := by
  intro N0 p e s m args below meth c H locs ls h0 C hS hz hP hlv
  exact lv_if_ne C.1 C.2.1 hd ht (fun q => h1 q N0 p e s m args below meth c H locs ls h0 C hS hz hP hlv) (fun q => h2 q N0 p e s m args below meth c H locs ls h0 C hS hz hP hlv)
theorem o_icmp_ne {x y : Int32} {off : Int} {tgt : Nat} (hd : decode M.2.1 pc = .ok (.if_icmp .ne off, 3)) (ht : (pc : Int) + off = (tgt : Int)) (h1 : ¬ x = y → hz_Run G N N' M R (tgt) lv (st) σ post) (h2 : x = y → hz_Run G N N' M R (pc + 3) lv (st) σ post) : hz_Run G N N' M R pc lv (.int y :: .int x :: st) σ post := by
  intro N0 p e s m args below meth c H locs ls h0 C hS hz hP hlv
  exact lv_icmp_ne C.1 C.2.1 hd ht (fun q => h1 q N0 p e s m args below meth c H locs ls h0 C hS hz hP hlv) (fun q => h2 q N0 p e s m args below meth c H locs ls h0 C hS hz hP hlv)
theorem o_if_lt {x : Int32} {off : Int} {tgt : Nat} (hd : decode M.2.1 pc = .ok (.ifCond .lt off, 3)) (ht : (pc : Int) + off = (tgt : Int)) (h1 : x < 0 → hz_Run G N N' M R (tgt) lv (st) σ post) (h2 : ¬ x < 0 → hz_Run G N N' M R (pc + 3) lv (st) σ post) : hz_Run G N N' M R pc lv (.int x :: st) σ post := by
  intro N0 p e s m args below meth c H locs ls h0 C hS hz hP hlv
  exact lv_if_lt C.1 C.2.1 hd ht (fun q => h1 q N0 p e s m args below meth c H locs ls h0 C hS hz hP hlv) (fun q => h2 q N0 p e s m args below meth c H locs ls h0 C hS hz hP hlv)
theorem o_icmp_lt {x y : Int32} {off : Int} {tgt : Nat} (hd : decode M.2.1 pc = .ok (.if_icmp .lt off, 3)) (ht : (pc : Int) + off = (tgt : Int)) (h1 : x < y → hz_Run G N N' M R (tgt) lv (st) σ post) (h2 : ¬ x < y → hz_Run G N N' M R (pc + 3) lv (st) σ post) : hz_Run G N N' M R pc lv (.int y :: .int x :: st) σ post := by
  intro N0 p e s m args below meth c H locs ls h0 C hS hz hP hlv
  exact lv_icmp_lt C.1 C.2.1 hd ht (fun q => h1 q N0 p e s m args below meth c H locs ls h0 C hS hz hP hlv) (fun q => h2 q N0 p e s m args below meth c H locs ls h0 C hS hz hP hlv)
theorem o_if_ge {x : Int32} {off : Int} {tgt : Nat} (hd : decode M.2.1 pc = .ok (.ifCond .ge off, 3)) (ht : (pc : Int) + off = (tgt : Int)) (h1 : 0 ≤ x → hz_Run G N N' M R (tgt) lv (st) σ post) (h2 : ¬ 0 ≤ x → hz_Run G N N' M R (pc + 3) lv (st) σ post) : hz_Run G N N' M R pc lv (.int x :: st) σ post := by
  intro N0 p e s m args below meth c H locs ls h0 C hS hz hP hlv
  exact lv_if_ge C.1 C.2.1 hd ht (fun q => h1 q N0 p e s m args below meth c H locs ls h0 C hS hz hP hlv) (fun q => h2 q N0 p e s m args below meth c H locs ls h0 C hS hz hP hlv)
theorem o_icmp_ge {x y : Int32} {off : Int} {tgt : Nat} (hd : decode M.2.1 pc = .ok (.if_icmp .ge off, 3)) (ht : (pc : Int) + off = (tgt : Int)) (h1 : y ≤ x → hz_Run G N N' M R (tgt) lv (st) σ post) (h2 : ¬ y ≤ x → hz_Run G N N' M R (pc + 3) lv (st) σ post) : hz_Run G N N' M R pc lv (.int y :: .int x :: st) σ post := by
  intro N0 p e s m args below meth c H locs ls h0 C hS hz hP hlv
  exact lv_icmp_ge C.1 C.2.1 hd ht (fun q => h1 q N0 p e s m args below meth c H locs ls h0 C hS hz hP hlv) (fun q => h2 q N0 p e s m args below meth c H locs ls h0 C hS hz hP hlv)
theorem o_if_gt {x : Int32} {off : Int} {tgt : Nat} (hd : decode M.2.1 pc = .ok (.ifCond .gt off, 3)) (ht : (pc : Int) + off = (tgt : Int)) (h1 : 0 < x → hz_Run G N N' M R (tgt) lv (st) σ post) (h2 : ¬ 0 < x → hz_Run G N N' M R (pc + 3) lv (st) σ post) : hz_Run G N N' M R pc lv (.int x :: st) σ post := by
  intro N0 p e s m args below meth c H locs ls h0 C hS hz hP hlv
  exact lv_if_gt C.1 C.2.1 hd ht (fun q => h1 q N0 p e s m args below meth c H locs ls h0 C hS hz hP hlv) (fun q => h2 q N0 p e s m args below meth c H locs ls h0 C hS hz hP hlv)
theorem o_icmp_gt {x y : Int32} {off : Int} {tgt : Nat} (hd : decode M.2.1 pc = .ok (.if_icmp .gt off, 3)) (ht : (pc : Int) + off = (tgt : Int)) (h1 : y < x → hz_Run G N N' M R (tgt) lv (st) σ post) (h2 : ¬ y < x → hz_Run G N N' M R (pc + 3) lv (st) σ post) : hz_Run G N N' M R pc lv (.int y :: .int x :: st) σ post := by
  intro N0 p e s m args below meth c H locs ls h0 C hS hz hP hlv
  exact lv_icmp_gt C.1 C.2.1 hd ht (fun q => h1 q N0 p e s m args below meth c H locs ls h0 C hS hz hP hlv) (fun q => h2 q N0 p e s m args below meth c H locs ls h0 C hS hz hP hlv)
theorem o_if_le {x : Int32} {off : Int} {tgt : Nat} (hd : decode M.2.1 pc = .ok (.ifCond .le off, 3)) (ht : (pc : Int) + off = (tgt : Int)) (h1 : x ≤ 0 → hz_Run G N N' M R (tgt) lv (st) σ post) (h2 : ¬ x ≤ 0 → hz_Run G N N' M R (pc + 3) lv (st) σ post) : hz_Run G N N' M R pc lv (.int x :: st) σ post := by
  intro N0 p e s m args below meth c H locs ls h0 C hS hz hP hlv
  exact lv_if_le C.1 C.2.1 hd ht (fun q => h1 q N0 p e s m args below meth c H locs ls h0 C hS hz hP hlv) (fun q => h2 q N0 p e s m args below meth c H locs ls h0 C hS hz hP hlv)
theorem o_icmp_le {x y : Int32} {off : Int} {tgt : Nat} (hd : decode M.2.1 pc = .ok (.if_icmp .le off, 3)) (ht : (pc : Int) + off = (tgt : Int)) (h1 : x ≤ y → hz_Run G N N' M R (tgt) lv (st) σ post) (h2 : ¬ x ≤ y → hz_Run G N N' M R (pc + 3) lv (st) σ post) : hz_Run G N N' M R pc lv (.int y :: .int x :: st) σ post := by
  intro N0 p e s m args below meth c H locs ls h0 C hS hz hP hlv
  exact lv_icmp_le C.1 C.2.1 hd ht (fun q => h1 q N0 p e s m args below meth c H locs ls h0 C hS hz hP hlv) (fun q => h2 q N0 p e s m args below meth c H locs ls h0 C hS hz hP hlv)
theorem o_goto {off : Int} {tgt : Nat} (hd : decode M.2.1 pc = .ok (.goto off, 3)) (ht : (pc : Int) + off = (tgt : Int)) (h : hz_Run G N N' M R (tgt) lv (st) σ post) : hz_Run G N N' M R pc lv (st) σ post := by
  intro N0 p e s m args below meth c H locs ls h0 C hS hz hP hlv
  exact lv_goto C.1 C.2.1 hd ht (h N0 p e s m args below meth c H locs ls h0 C hS hz hP hlv)
theorem o_lookup {dflt : Int} {ps : Array (Int × Int)} {len : Nat} {x : Int32} {off : Int} {tgt : Nat} (hd : decode M.2.1 pc = .ok (.lookupswitch dflt ps, len)) (hp : (ps.toList.zip (ps.toList.drop 1)).all (fun (a, next) => a.1 < next.1) = true) (ho : Op.lookupswitch.offset ps.toList dflt x.toInt = off) (ht : (pc : Int) + off = (tgt : Int)) (h : hz_Run G N N' M R (tgt) lv (st) σ post) : hz_Run G N N' M R pc lv (.int x :: st) σ post := by
  intro N0 p e s m args below meth c H locs ls h0 C hS hz hP hlv
  exact lv_lookup C.1 C.2.1 hd hp ho ht (h N0 p e s m args below meth c H locs ls h0 C hS hz hP hlv)
theorem o_tableOut {dflt lo hi : Int} {offs : Array Int} {len : Nat} {x : Int32} {tgt : Nat} (hd : decode M.2.1 pc = .ok (.tableswitch dflt lo hi offs, len)) (hx : x.toInt < lo ∨ hi < x.toInt) (ht : (pc : Int) + dflt = (tgt : Int)) (h : hz_Run G N N' M R (tgt) lv (st) σ post) : hz_Run G N N' M R pc lv (.int x :: st) σ post := by
  intro N0 p e s m args below meth c H locs ls h0 C hS hz hP hlv
  exact lv_tableOut C.1 C.2.1 hd hx ht (h N0 p e s m args below meth c H locs ls h0 C hS hz hP hlv)
theorem o_tableIn {dflt lo hi : Int} {offs : Array Int} {len : Nat} {x : Int32} {off : Int} {tgt : Nat} (hd : decode M.2.1 pc = .ok (.tableswitch dflt lo hi offs, len)) (h1 : ¬ x.toInt < lo) (h2 : ¬ hi < x.toInt) (ho : offs[(x.toInt - lo).toNat]? = some off) (ht : (pc : Int) + off = (tgt : Int)) (h : hz_Run G N N' M R (tgt) lv (st) σ post) : hz_Run G N N' M R pc lv (.int x :: st) σ post := by
  intro N0 p e s m args below meth c H locs ls h0 C hS hz hP hlv
  exact lv_tableIn C.1 C.2.1 hd h1 h2 ho ht (h N0 p e s m args below meth c H locs ls h0 C hS hz hP hlv)
end HZ
end
section
section HZ2
variable {G : hz_G} {N N' : Nat} {M : hz_M} {R : hz_R} {pc : Nat} {lv : List (Nat × Value)} {st : List Value} {σ : hz_H} {post : hz_P}
/-- field k of class ci, as class own's pool has it at idx -/
def hz_F (own : String) (idx ci k : Nat) : Prop := ∃ (C : String) (T : u_T) (NN : Nat), vwCl[ci]? = some (C, T, NN) ∧ k < NN ∧ (∀ w ∈ u_ws C T NN, w ∈ hz_tbl) ∧ Cond.fieldLink own idx (T k).1 (T k).2.1 (T k).2.2.1 ∈ hz_tbl
def hz_FP (own : String) (idx ci k : Nat) (fin : Bool) (ty : FieldType) : Prop := ∃ (C : String) (T : u_T) (NN : Nat) (ty0 : Nat → FieldType), vwCl[ci]? = some (C, T, NN) ∧ k < NN ∧ (∀ w ∈ u_ws C T NN, w ∈ hz_tbl) ∧ Cond.fieldLink own idx (T k).1 (T k).2.1 (T k).2.2.1 ∈ hz_tbl ∧
  (∀ k, k < NN → parseFieldDescriptor (T k).2.2.1 = some (ty0 k)) ∧ (∀ a, a < NN → ∀ b, b < NN → a ≠ b → (T a).2.1 ≠ (T b).2.1) ∧ (T k).2.2.2 = fin ∧ (T k).1 = own ∧ parseFieldDescriptor (T k).2.2.1 = some ty
theorem hz_get {q ci n k kd idx : Nat} (hd : decode M.2.1 pc = .ok (.getfield idx, 3)) (hq : q < N) (hsh : hz_sh q = (ci, n)) (hci : ci < 20) (hF : hz_F M.1.cls idx ci k) (hk : (hz_fk ci)[k]? = some kd)
    {v : Value} (hv : hz_up G v = hz_fv (hz_B G) R σ q kd k) (h : hz_Run G N N' M R (pc + 3) lv (v :: st) σ post) : hz_Run G N N' M R pc lv (.ref q :: st) σ post := by
  intro N0 p e s m args below meth c H locs ls h0 C hS hz hP hlv
  obtain ⟨Cn, T, NN, h1, h2, h3, h4⟩ := hF
  refine va_get (D := G.2.1) (v := hz_up G v) C.1 C.2.1 C.2.2.2.2.2.1 h3 C.2.2.2.2.1 C.2.2.2.2.2.2.2.2.1 hP q (by rw [hz_ws_at G R σ hq, hz_cell_o hsh hci]) h1 k h2 (C.2.2.2.2.2.1 _ h4) (fun _ h9 => h9) (by rw [hz_fs_at hk, hv]) hd ?_
  exact h N0 p e s m args below meth c H locs ls h0 C hS hz hP hlv
theorem o_getI {q ci n k idx : Nat} (hd : decode M.2.1 pc = .ok (.getfield idx, 3)) (hF : hz_F M.1.cls idx ci k) (hq : q < N) (hsh : hz_sh q = (ci, n)) (hci : ci < 20) (hk : (hz_fk ci)[k]? = some 0)
    (h : hz_Run G N N' M R (pc + 3) lv (.int (σ.1 q k) :: st) σ post) : hz_Run G N N' M R pc lv (.ref q :: st) σ post := hz_get hd hq hsh hci hF hk rfl h
theorem o_getL {q ci n k idx : Nat} (hd : decode M.2.1 pc = .ok (.getfield idx, 3)) (hF : hz_F M.1.cls idx ci k) (hq : q < N) (hsh : hz_sh q = (ci, n)) (hci : ci < 20) (hk : (hz_fk ci)[k]? = some 1)
    (h : hz_Run G N N' M R (pc + 3) lv (.long (σ.2 q k) :: st) σ post) : hz_Run G N N' M R pc lv (.ref q :: st) σ post := hz_get hd hq hsh hci hF hk rfl h
theorem o_getR {q ci n k idx a : Nat} (hd : decode M.2.1 pc = .ok (.getfield idx, 3)) (hF : hz_F M.1.cls idx ci k) (hq : q < N) (hsh : hz_sh q = (ci, n)) (hci : ci < 20) (hk : (hz_fk ci)[k]? = some 2) (hR : R q k = a + 1)
    (h : hz_Run G N N' M R (pc + 3) lv (.ref a :: st) σ post) : hz_Run G N N' M R pc lv (.ref q :: st) σ post := hz_get hd hq hsh hci hF hk (by simp only [hz_fv, hR, hz_rf, hz_up]) h
/-- a field becomes v: by its kind the world behind it -/
theorem hz_putf {q ci n k kd idx : Nat} {ty : FieldType} {fin : Bool} (hd : decode M.2.1 pc = .ok (.putfield idx, 3)) (hF : hz_FP M.1.cls idx ci k fin ty) (hfin : fin = true → M.1.name = "<init>") (hq : q < N) (hsh : hz_sh q = (ci, n)) (hci : ci < 20) (hk : (hz_fk ci)[k]? = some kd)
    {v : Value} (hn : narrow ty (hz_up G v) = hz_up G v) (hfit : fits ty (hz_up G v) = true) {R' : hz_R} {σ' : hz_H} (hv : hz_fv (hz_B G) R' σ' q kd k = hz_up G v) (ho : ∀ i kd, i ≠ k → hz_fv (hz_B G) R' σ' q kd i = hz_fv (hz_B G) R σ q kd i)
    (hoc : ∀ j, j ≠ q → σ'.1 j = σ.1 j ∧ σ'.2 j = σ.2 j ∧ R' j = R j) (h : hz_Run G N N' M R' (pc + 3) lv st σ' post) : hz_Run G N N' M R pc lv (v :: .ref q :: st) σ post := by
  intro N0 p e s m args below meth c H locs ls h0 C hS hz hP hlv
  obtain ⟨Cn, T, NN, ty0, h1, h2, h3, h4, h5, h6, h7, h8, h9⟩ := hF
  have hts := C.2.2.2.2.2.1
  have hown := C.2.2.2.2.1
  have hK := C.2.2.2.2.2.2.2.2.1
  have hD := hz_ws_D G R N σ
  have he : (hz_ws G R N σ)[q]? = some (hz_B G + q, .inr (ci, hz_fs (hz_B G) R σ q ci)) := by rw [hz_ws_at G R σ hq, hz_cell_o hsh hci]
  have hap := va_apart (own := M.1.cls) hts h3 ty0 h5 h6 hK h1
  obtain ⟨r, g1, cell, q1, q2, q3, q4⟩ := hP q _ he
  have hr : r = (Cn, T, NN) := Option.some.inj (g1.symm.trans h1)
  subst hr
  obtain ⟨hSl, hfc, kC, hkC, hkind⟩ := hK.1 ci _ h1
  obtain ⟨cf, kf, fi, f, hi, hsl⟩ := hSl k h2
  have hlay := hts _ (h3 _ (u_in_lay h2))
  have hst := (u_facts hfc hkC (u_lays hts h3 h2) hi).1
  have hkl : k < (hz_fs (hz_B G) R σ q ci).length := by rw [hz_fs_len]; exact (List.getElem?_eq_some_iff.mp hk).1
  have fin' : ∀ H' : Heap, H'[hz_B G + q]? = some (cell.setSlot f.slot (hz_up G v)) → H'.size = H.size → (∀ x, x ≠ hz_B G + q → H'[x]? = H[x]?) → W p G.1 e (hz_rm M N0 N') s m args below meth c H' (locs ++ [⟨hz_B G + q, f.slot⟩]) (N - N0) (hz_S N - hz_S N0) (MQ below (hz_Q G N' post) args s (N' - N0) (hz_S N' - hz_S N0) (hz_A G)) (F0 m (pc + 3) ls (st.map (hz_up G))) := by
    intro H' e1 e2 e3
    rw [hsl] at e1
    refine h N0 p e s m args below meth c H' _ ls h0 C (hS.put e2 e3 (Nat.le_add_right _ _)) (by rw [e2]; exact hz) ?_ hlv
    have hP' := hP.set hD he (e := .inr (ci, (hz_fs (hz_B G) R σ q ci).set k (hz_up G v))) ⟨_, h1, t_OB.to (V := updV (vp_V (hz_fs (hz_B G) R σ q ci)) k (hz_up G v)) ⟨_, e1, q2, q3, t_set q4 hap h2 (hz_up G v)⟩ (fun j _ => vp_updV_set hkl (hz_up G v) j)⟩ e3
    rw [hz_ws_set (R' := R') (σ' := σ') (by rw [hz_cell_o hsh hci, hz_fs_set hk hv ho]) (fun j hj => hz_cell_eq (hoc j hj).1 (hoc j hj).2.1 (hoc j hj).2.2)] at hP'
    exact hP'
  cases hfb : fin with
  | false =>
    unfold u_lay at hlay
    rw [if_neg (by rw [h7, hfb]; decide)] at hlay
    have h10 := u_store hfc hkC hkind hlay hi h9 hn hfit
    exact W.putK C.1 C.2.1 (f := f) ⟨hown, hts _ h4, ⟨_, _, _, hi⟩, hst⟩ (by rw [q2]; exact h10) q1 q3 (by rw [hsl]; exact k2_hasslot (q4 k h2)) rfl rfl hd fin'
  | true =>
    unfold u_lay at hlay
    rw [if_pos (by rw [h7, hfb])] at hlay
    have hcf : m.cls = cf := by
      obtain ⟨_, _, c', _, _, _, -, -, hf', -, -, -, hown2, -⟩ := Cond.laysFinal_spec hlay
      have e1 : c' = cf := by have := hi.symm.trans hf'; simp at this; exact this.1.symm
      rw [h8] at hown2
      rw [← e1]; exact Option.some.inj (hown.symm.trans hown2)
    have h10 := u_fits hfc hkC hkind (Or.inr hlay) hi h9 hn hfit
    exact W.putFinK C.1 C.2.1 hown (hts _ h4) hi hst hcf (by rw [C.2.2.2.2.2.2.2.1]; exact hfin hfb) (by rw [q2]; exact h10) q1 q3 (by rw [hsl]; exact k2_hasslot (q4 k h2)) rfl rfl hd fin'
theorem hz_sI_row (σ : hz_H) (q k : Nat) (x : Int32) {j : Nat} (h : j ≠ q) : (hz_sI σ q k x).1 j = σ.1 j := by funext b; simp [hz_sI, h]
theorem hz_sL_row (σ : hz_H) (q k : Nat) (x : Int64) {j : Nat} (h : j ≠ q) : (hz_sL σ q k x).2 j = σ.2 j := by funext b; simp [hz_sL, h]
theorem hz_sR_row (R : hz_R) (q k a : Nat) {j : Nat} (h : j ≠ q) : hz_sR R q k a j = R j := by funext b; simp [hz_sR, h]
theorem o_putI {q ci n k idx : Nat} {ty : FieldType} {x : Int32} (hd : decode M.2.1 pc = .ok (.putfield idx, 3)) (hF : hz_FP M.1.cls idx ci k false ty) (hq : q < N) (hsh : hz_sh q = (ci, n)) (hci : ci < 20) (hk : (hz_fk ci)[k]? = some 0) (hn : narrow ty (.int x) = .int x) (hfit : fits ty (.int x) = true)
    (h : hz_Run G N N' M R (pc + 3) lv st (hz_sI σ q k x) post) : hz_Run G N N' M R pc lv (.int x :: .ref q :: st) σ post := by
  refine hz_putf (R' := R) (σ' := hz_sI σ q k x) hd hF (fun h => by cases h) hq hsh hci hk hn hfit (by simp [hz_fv, hz_sI, hz_up]) (fun i kd hi => ?_) (fun j hj => ⟨hz_sI_row σ q k x hj, rfl, rfl⟩) h
  simp [hz_fv, hz_sI, hi]
theorem o_putL {q ci n k idx : Nat} {ty : FieldType} {x : Int64} (hd : decode M.2.1 pc = .ok (.putfield idx, 3)) (hF : hz_FP M.1.cls idx ci k false ty) (hq : q < N) (hsh : hz_sh q = (ci, n)) (hci : ci < 20) (hk : (hz_fk ci)[k]? = some 1) (hn : narrow ty (.long x) = .long x) (hfit : fits ty (.long x) = true)
    (h : hz_Run G N N' M R (pc + 3) lv st (hz_sL σ q k x) post) : hz_Run G N N' M R pc lv (.long x :: .ref q :: st) σ post := by
  refine hz_putf (R' := R) (σ' := hz_sL σ q k x) hd hF (fun h => by cases h) hq hsh hci hk hn hfit (by simp [hz_fv, hz_sL, hz_up]) (fun i kd hi => ?_) (fun j hj => ⟨rfl, hz_sL_row σ q k x hj, rfl⟩) h
  simp [hz_fv, hz_sL, hi]
theorem o_putR {q ci n k idx a : Nat} {ty : FieldType} {fin : Bool} (hd : decode M.2.1 pc = .ok (.putfield idx, 3)) (hF : hz_FP M.1.cls idx ci k fin ty) (hfin : fin = true → M.1.name = "<init>") (hq : q < N) (hsh : hz_sh q = (ci, n)) (hci : ci < 20) (hk : (hz_fk ci)[k]? = some 2) (hn : ∀ b : Nat, narrow ty (.ref b) = .ref b) (hfit : ∀ b : Nat, fits ty (.ref b) = true)
    (h : hz_Run G N N' M (hz_sR R q k (a + 1)) (pc + 3) lv st σ post) : hz_Run G N N' M R pc lv (.ref a :: .ref q :: st) σ post := by
  refine hz_putf (R' := hz_sR R q k (a + 1)) (σ' := σ) hd hF hfin hq hsh hci hk (hn _) (hfit _) (by simp [hz_fv, hz_sR, hz_up, hz_rf]) (fun i kd hi => ?_) (fun j hj => ⟨rfl, rfl, hz_sR_row R q k (a + 1) hj⟩) h
  simp [hz_fv, hz_sR, hi]
/-! arrays -/
theorem hz_in {i : Int32} {j n : Nat} (hi : i = nI j) (hj : j < n) (hn : n < 2 ^ 31) : vp_in i n := by rw [hi]; exact vp_in_nI hj hn
theorem hz_cl {i : Int32} {j n : Nat} (hi : i = nI j) (hj : j < n) (hn : n < 2 ^ 31) : i.toNatClampNeg = j := by rw [hi]; exact nI_clamp (Nat.lt_trans hj hn)
theorem o_iald {q n j : Nat} {i : Int32} (hd : decode M.2.1 pc = .ok (.iaload, 1)) (hq : q < N) (hsh : hz_sh q = (20, n)) (hn : n < 2 ^ 31) (hi : i = nI j) (hj : j < n)
    (h : hz_Run G N N' M R (pc + 1) lv (.int (σ.1 q j) :: st) σ post) : hz_Run G N N' M R pc lv (.int i :: .ref q :: st) σ post := by
  intro N0 p e s m args below meth c H locs ls h0 C hS hz hP hlv
  refine va_iald (D := G.2.1) C.1 C.2.1 C.2.2.2.2.2.2.2.2.1 hP q 0 (by rw [hz_ws_at G R σ hq, hz_cell_i hsh]) rfl (hz_in hi hj hn) hd ?_
  rw [hz_cl hi hj hn]
  exact h N0 p e s m args below meth c H locs ls h0 C hS hz hP hlv
theorem o_bald {q n j : Nat} {i : Int32} (hd : decode M.2.1 pc = .ok (.baload, 1)) (hq : q < N) (hsh : hz_sh q = (21, n)) (hn : n < 2 ^ 31) (hi : i = nI j) (hj : j < n)
    (h : hz_Run G N N' M R (pc + 1) lv (.int (σ.1 q j) :: st) σ post) : hz_Run G N N' M R pc lv (.int i :: .ref q :: st) σ post := by
  intro N0 p e s m args below meth c H locs ls h0 C hS hz hP hlv
  refine va_bald (D := G.2.1) C.1 C.2.1 C.2.2.2.2.2.2.2.2.1 hP q 1 (by rw [hz_ws_at G R σ hq, hz_cell_b hsh]) rfl (hz_in hi hj hn) hd ?_
  rw [hz_cl hi hj hn]
  exact h N0 p e s m args below meth c H locs ls h0 C hS hz hP hlv
theorem o_lald {q n j : Nat} {i : Int32} (hd : decode M.2.1 pc = .ok (.laload, 1)) (hq : q < N) (hsh : hz_sh q = (22, n)) (hn : n < 2 ^ 31) (hi : i = nI j) (hj : j < n)
    (h : hz_Run G N N' M R (pc + 1) lv (.long (σ.2 q j) :: st) σ post) : hz_Run G N N' M R pc lv (.int i :: .ref q :: st) σ post := by
  intro N0 p e s m args below meth c H locs ls h0 C hS hz hP hlv
  refine va_lald (D := G.2.1) C.1 C.2.1 C.2.2.2.2.2.2.2.2.1 hP q 2 (by rw [hz_ws_at G R σ hq, hz_cell_l hsh]) rfl (hz_in hi hj hn) hd ?_
  rw [hz_cl hi hj hn]
  exact h N0 p e s m args below meth c H locs ls h0 C hS hz hP hlv
theorem o_alen {q tg n : Nat} (hd : decode M.2.1 pc = .ok (.arraylength, 1)) (hq : q < N) (hsh : hz_sh q = (tg, n)) (ht : tg = 20 ∨ tg = 21 ∨ tg = 22)
    (h : hz_Run G N N' M R (pc + 1) lv (.int (nI n) :: st) σ post) : hz_Run G N N' M R pc lv (.ref q :: st) σ post := by
  intro N0 p e s m args below meth c H locs ls h0 C hS hz hP hlv
  rcases ht with rfl | rfl | rfl
  · exact va_alen (D := G.2.1) C.1 C.2.1 C.2.2.2.2.2.2.2.2.1 hP q 0 (by rw [hz_ws_at G R σ hq, hz_cell_i hsh]) rfl (v := nI n) rfl hd (h N0 p e s m args below meth c H locs ls h0 C hS hz hP hlv)
  · exact va_alen (D := G.2.1) C.1 C.2.1 C.2.2.2.2.2.2.2.2.1 hP q 1 (by rw [hz_ws_at G R σ hq, hz_cell_b hsh]) rfl (v := nI n) rfl hd (h N0 p e s m args below meth c H locs ls h0 C hS hz hP hlv)
  · exact va_alen (D := G.2.1) C.1 C.2.1 C.2.2.2.2.2.2.2.2.1 hP q 2 (by rw [hz_ws_at G R σ hq, hz_cell_l hsh]) rfl (v := nI n) rfl hd (h N0 p e s m args below meth c H locs ls h0 C hS hz hP hlv)
theorem hz_updI (σ : hz_H) (q j : Nat) (x : Int32) : (hz_sI σ q j x).1 q = upd (σ.1 q) j x := by funext b; simp [hz_sI, upd]
theorem hz_updL (σ : hz_H) (q j : Nat) (x : Int64) : (hz_sL σ q j x).2 q = vp_updL (σ.2 q) j x := by funext b; simp [hz_sL, vp_updL]
theorem o_iast {q n j : Nat} {i x : Int32} (hd : decode M.2.1 pc = .ok (.iastore, 1)) (hq : q < N) (hsh : hz_sh q = (20, n)) (hn : n < 2 ^ 31) (hi : i = nI j) (hj : j < n)
    (h : hz_Run G N N' M R (pc + 1) lv st (hz_sI σ q j x) post) : hz_Run G N N' M R pc lv (.int x :: .int i :: .ref q :: st) σ post := by
  intro N0 p e s m args below meth c H locs ls h0 C hS hz hP hlv
  have hK := C.2.2.2.2.2.2.2.2.1
  have ha : (hz_ws G R N σ)[q]? = some (hz_B G + q, .inl (G.2.2.1 0, n, .inl (σ.1 q))) := by rw [hz_ws_at G R σ hq, hz_cell_i hsh]
  have hin := hz_in hi hj hn
  refine W.iast C.1 C.2.1 (hP q _ ha) ((hK.2 0 _ rfl).1 n (fun j => .int (σ.1 q j))) (fun q => by cases q) (by show ¬ (i < 0 ∨ (arrV _ _ _).slots.size ≤ _); rw [arrV_size]; exact hin) rfl rfl hd fun H1 e1 z oq => ?_
  refine h N0 p e s m args below meth c H1 _ ls h0 C (hS.put z oq (Nat.le_add_right _ _)) (by rw [z]; exact hz) ?_ hlv
  have hP' := hP.set (hz_ws_D G R N σ) ha (e := .inl (G.2.2.1 0, n, .inl (upd (σ.1 q) j x))) (H1 := H1) (by
    show H1[_]? = some (vp_cell _ _)
    rw [e1, hz_cl hi hj hn, vp_cell_i, vp_cell_i, arrV_store]
    congr 2
    funext b
    by_cases hb : b = j
    · subst hb; simp [updV, upd]
    · simp [updV, upd, hb]) oq
  rw [hz_ws_set (R' := R) (σ' := hz_sI σ q j x) (by rw [hz_cell_i hsh, hz_updI]) (fun k hk => hz_cell_eq (hz_sI_row σ q j x hk) rfl rfl)] at hP'
  exact hP'
theorem o_bast {q n j : Nat} {i x : Int32} (hd : decode M.2.1 pc = .ok (.bastore, 1)) (hq : q < N) (hsh : hz_sh q = (21, n)) (hn : n < 2 ^ 31) (hi : i = nI j) (hj : j < n)
    (h : hz_Run G N N' M R (pc + 1) lv st (hz_sI σ q j x.toInt8.toInt32) post) : hz_Run G N N' M R pc lv (.int x :: .int i :: .ref q :: st) σ post := by
  intro N0 p e s m args below meth c H locs ls h0 C hS hz hP hlv
  have hK := C.2.2.2.2.2.2.2.2.1
  have ha : (hz_ws G R N σ)[q]? = some (hz_B G + q, .inl (G.2.2.1 1, n, .inl (σ.1 q))) := by rw [hz_ws_at G R σ hq, hz_cell_b hsh]
  have hin := hz_in hi hj hn
  refine W.bast C.1 C.2.1 (hP q _ ha) ((hK.2 1 _ rfl).1 n (fun j => .int (σ.1 q j))) (fun q => by cases q) (by show ¬ (i < 0 ∨ (arrV _ _ _).slots.size ≤ _); rw [arrV_size]; exact hin) rfl rfl hd fun H1 e1 z oq => ?_
  refine h N0 p e s m args below meth c H1 _ ls h0 C (hS.put z oq (Nat.le_add_right _ _)) (by rw [z]; exact hz) ?_ hlv
  have hP' := hP.set (hz_ws_D G R N σ) ha (e := .inl (G.2.2.1 1, n, .inl (upd (σ.1 q) j x.toInt8.toInt32))) (H1 := H1) (by
    show H1[_]? = some (vp_cell _ _)
    rw [e1, hz_cl hi hj hn, vp_cell_i, vp_cell_i, arrV_store]
    congr 2
    funext b
    by_cases hb : b = j
    · subst hb; simp [updV, upd]; rfl
    · simp [updV, upd, hb]) oq
  rw [hz_ws_set (R' := R) (σ' := hz_sI σ q j x.toInt8.toInt32) (by rw [hz_cell_b hsh, hz_updI]) (fun k hk => hz_cell_eq (hz_sI_row σ q j _ hk) rfl rfl)] at hP'
  exact hP'
theorem o_last {q n j : Nat} {i : Int32} {x : Int64} (hd : decode M.2.1 pc = .ok (.lastore, 1)) (hq : q < N) (hsh : hz_sh q = (22, n)) (hn : n < 2 ^ 31) (hi : i = nI j) (hj : j < n)
    (h : hz_Run G N N' M R (pc + 1) lv st (hz_sL σ q j x) post) : hz_Run G N N' M R pc lv (.long x :: .int i :: .ref q :: st) σ post := by
  intro N0 p e s m args below meth c H locs ls h0 C hS hz hP hlv
  have hK := C.2.2.2.2.2.2.2.2.1
  have ha : (hz_ws G R N σ)[q]? = some (hz_B G + q, .inl (G.2.2.1 2, n, .inr (.inl (σ.2 q)))) := by rw [hz_ws_at G R σ hq, hz_cell_l hsh]
  have hin := hz_in hi hj hn
  refine W.last C.1 C.2.1 (hP q _ ha) ((hK.2 2 _ rfl).1 n (fun j => .long (σ.2 q j))) (fun q => by cases q) (by show ¬ (i < 0 ∨ (arrV _ _ _).slots.size ≤ _); rw [arrV_size]; exact hin) rfl rfl hd fun H1 e1 z oq => ?_
  refine h N0 p e s m args below meth c H1 _ ls h0 C (hS.put z oq (Nat.le_add_right _ _)) (by rw [z]; exact hz) ?_ hlv
  have hP' := hP.set (hz_ws_D G R N σ) ha (e := .inl (G.2.2.1 2, n, .inr (.inl (vp_updL (σ.2 q) j x)))) (H1 := H1) (by
    show H1[_]? = some (vp_cell _ _)
    rw [e1, hz_cl hi hj hn, vp_cell_l, vp_cell_l, arrV_store]
    congr 2
    funext b
    by_cases hb : b = j
    · subst hb; simp [updV, vp_updL]
    · simp [updV, vp_updL, hb]) oq
  rw [hz_ws_set (R' := R) (σ' := hz_sL σ q j x) (by rw [hz_cell_l hsh, hz_updL]) (fun k hk => hz_cell_eq (σ := σ) rfl (hz_sL_row σ q j x hk) rfl)] at hP'
  exact hP'
/-! the script -/
theorem o_sld {x j : Nat} {i : Int32} (hd : decode M.2.1 pc = .ok (.iaload, 1)) (hn : G.2.2.2.2.2.1 < 2 ^ 31) (hi : i = nI j) (hj : j < G.2.2.2.2.2.1)
    (h : hz_Run G N N' M R (pc + 1) lv (.int (G.2.2.2.2.2.2 j) :: st) σ post) : hz_Run G N N' M R pc lv (.int i :: .retAddr x :: st) σ post := by
  intro N0 p e s m args below meth c H locs ls h0 C hS hz hP hlv
  have hX := C.2.2.2.2.2.2.2.2.2.2
  refine va_sld (A := hz_A G) C.1 C.2.1 hX.1 (Nat.lt_of_lt_of_le hX.2 C.2.2.2.2.2.2.2.2.2.1) (Nat.not_le.mpr hX.2) hS (hz_in hi hj hn) hd ?_
  rw [hz_cl hi hj hn]
  exact h N0 p e s m args below meth c H locs ls h0 C hS hz hP hlv
theorem o_slen {x : Nat} (hd : decode M.2.1 pc = .ok (.arraylength, 1))
    (h : hz_Run G N N' M R (pc + 1) lv (.int (nI G.2.2.2.2.2.1) :: st) σ post) : hz_Run G N N' M R pc lv (.retAddr x :: st) σ post := by
  intro N0 p e s m args below meth c H locs ls h0 C hS hz hP hlv
  have hX := C.2.2.2.2.2.2.2.2.2.2
  exact va_slen (A := hz_A G) C.1 C.2.1 hX.1 (Nat.lt_of_lt_of_le hX.2 C.2.2.2.2.2.2.2.2.2.1) (Nat.not_le.mpr hX.2) hS hd (h N0 p e s m args below meth c H locs ls h0 C hS hz hP hlv)
end HZ2
end
section
section HZ3
variable {G : hz_G} {N N' : Nat} {M : hz_M} {R : hz_R} {pc : Nat} {lv : List (Nat × Value)} {st : List Value} {σ : hz_H} {post : hz_P}
theorem hz_Wend {p : Program} {s : State} {m : MethodId} {args : Array Value} {meth : Method} {c : Code} {H : Heap} {locs : List Loc} {t : State} (C : hz_C G M p s m args meth c) (hS : va_S (hz_A G) s.heap H locs) (hz : H.size = hz_B G + N) (hP : va_P G.2.1 vwCl (hz_ws G R N σ) H) (ht : t.heap = H) (hW : s.vm.Alike t.vm) : hz_W G N R σ t := by
  have hX := C.2.2.2.2.2.2.2.2.2.2
  refine ⟨by rw [ht]; exact hz, by rw [ht]; exact hP, va_K.moved hW C.2.2.2.2.2.2.2.2.1, (hX.1.moved hW).kept ?_, hX.2⟩
  rw [ht]
  exact hS.2.1 _ (Nat.lt_of_lt_of_le hX.2 C.2.2.2.2.2.2.2.2.2.1) (Nat.not_le.mpr hX.2)
theorem o_iret {x : Int32} {ty : FieldType} (hd : decode M.2.1 pc = .ok (.ireturn, 1)) (hr : M.2.2.2.1 = some ty) (hn : narrow ty (.int x) = .int x) (h : post (some (.int x)) R σ) : hz_Run G N N M R pc lv [.int x] σ post := by
  intro N0 p e s m args below meth c H locs ls h0 C hS hz hP hlv
  have hlocks := C.2.2.2.2.2.2.1
  exact W.zret C.1 C.2.1 (by rw [C.2.2.2.1]; exact hr) hn (fun t ht hW => ⟨⟨some (.int x), R, σ, rfl, h, hz_Wend C hS hz hP ht hW.alike⟩, hS.F ht⟩) hS.2.2 hd hlocks
theorem o_lret {x : Int64} (hd : decode M.2.1 pc = .ok (.lreturn, 1)) (hr : M.2.2.2.1 = some .long) (h : post (some (.long x)) R σ) : hz_Run G N N M R pc lv [.long x] σ post := by
  intro N0 p e s m args below meth c H locs ls h0 C hS hz hP hlv
  have hlocks := C.2.2.2.2.2.2.1
  exact W.lret C.1 C.2.1 (by rw [C.2.2.2.1]; exact hr) (fun t ht hW => ⟨⟨some (.long x), R, σ, rfl, h, hz_Wend C hS hz hP ht hW.alike⟩, hS.F ht⟩) hS.2.2 hd hlocks
theorem o_vret (hd : decode M.2.1 pc = .ok (.return_, 1)) (hr : M.2.2.2.1 = none) (h : post none R σ) : hz_Run G N N M R pc lv [] σ post := by
  intro N0 p e s m args below meth c H locs ls h0 C hS hz hP hlv
  have hlocks := C.2.2.2.2.2.2.1
  exact W.vret C.1 C.2.1 (by rw [C.2.2.2.1]; exact hr) (fun t ht hW => ⟨⟨none, R, σ, rfl, h, hz_Wend C hS hz hP ht hW.alike⟩, hS.F ht⟩) hS.2.2 hd hlocks
theorem o_aret {x : Nat} {rt : FieldType} (hd : decode M.2.1 pc = .ok (.areturn, 1)) (hr : M.2.2.2.1 = some rt) (hrt : (∃ n, rt = .object n) ∨ ∃ t, rt = .array t) (h : post (some (.ref x)) R σ) : hz_Run G N N M R pc lv [.ref x] σ post := by
  intro N0 p e s m args below meth c H locs ls h0 C hS hz hP hlv
  have hlocks := C.2.2.2.2.2.2.1
  exact W.aret C.1 C.2.1 (by rw [C.2.2.2.1]; exact hr) hrt (Or.inr ⟨_, rfl⟩) (fun t ht hW => ⟨⟨some (.ref x), R, σ, rfl, h, hz_Wend C hS hz hP ht hW.alike⟩, hS.F ht⟩) hS.2.2 hd hlocks
/-! calls -/
def hz_MB (M : hz_M) (n : Nat) : Prop := Cond.code M.1 M.2.1 M.2.2.1 M.2.2.2.1 ∈ hz_tbl ∧ Cond.initialized M.1.cls ∈ hz_tbl ∧ (M.1.cls ≠ "java/lang/invoke/MethodHandle" ∧ M.1.cls ≠ "java/lang/invoke/VarHandle" ∧ (parseMethodDescriptor M.1.desc).map (fun d => d.parameters.length) = some n)
def hz_MV (M : hz_M) (n : Nat) : Prop := hz_MB M n ∧ Cond.instanceMethod M.1 ∈ hz_tbl ∧ Cond.selects M.1.cls M.1 M.1 ∈ hz_tbl
def hz_MS (M : hz_M) (n : Nat) : Prop := hz_MB M n ∧ Cond.static M.1 ∈ hz_tbl
def hz_MI (M : hz_M) (n : Nat) : Prop := hz_MB M n ∧ Cond.instanceMethod M.1 ∈ hz_tbl ∧ M.1.name = "<init>" ∧ M.2.2.2.1 = none
def hz_fit (M M2 : hz_M) : Prop := M2.2.2.2.2.1 + 1 ≤ M.2.2.2.2.1 ∧ 8 + (M2.2.2.1 + 11) + M2.2.2.2.2.2 ≤ M.2.2.2.2.2
theorem hz_blind (av : List Value) : FrameBlind (va_Pc av (hz_W G N R σ)) := by
  intro a U g mk h
  exact ⟨h.1, h.2.1, h.2.2.1, va_K.moved (u := U) (U := U.calling g mk a) (Vm.Alike.refl U.vm) h.2.2.2.1, (h.2.2.2.2.1.moved (Vm.Alike.refl U.vm)).kept rfl, h.2.2.2.2.2⟩
theorem hz_callB {p : Program} {s : State} {m : MethodId} {args : Array Value} {meth : Method} {c : Code} {M2 : hz_M} {N0 N1 idx n : Nat} (C : hz_C G M p s m args meth c) (hL : Cond.methodLink M.1.cls idx M2.1 ∈ hz_tbl) (hB : hz_MB M2 n) (hf : hz_fit M M2) :
    CallB (hz_rm M N0 N') s args M.1.cls idx M2.1 M2.2.1 M2.2.2.1 M2.2.2.2.1 (hz_wd M2) (hz_rm M2 N N1) (N1 - N) (hz_S N1 - hz_S N) n := by
  have hts := C.2.2.2.2.2.1
  exact callB_of n hts (hz_goodM hB.1) rfl rfl rfl (hts _ hB.2.1) (hts _ hL) hB.2.2 hf
theorem hz_call {p : Program} {e : Env} {s : State} {m : MethodId} {args : Array Value} {below : List Frame} {meth : Method} {c : Code} {H : Heap} {locs : List Loc} {ls : Array Slot} {N0 N1 : Nat} {rest : List Value} {a : Array Value}
    (h0 : N0 ≤ N) (h1 : N ≤ N1) (C : hz_C G M p s m args meth c) (hS : va_S (hz_A G) s.heap H locs) (hlv : lv_has ls M.2.2.1 (lv.map (hz_u2 G))) {st0 : List Value}
    (hr : va_Run p G.1 e (hz_rm M N0 N') s m args below meth c H locs (N - N0) (hz_S N - hz_S N0) (N1 - N) (hz_S N1 - hz_S N) (F0 m pc ls st0) (rest.map (hz_up G)) (hz_Q G N1 (fun r R' σ' => hz_Run G N1 N' M R' (pc + 3) lv (r.toList ++ rest) σ' post) a) (hz_A G)) :
    W p G.1 e (hz_rm M N0 N') s m args below meth c H locs (N - N0) (hz_S N - hz_S N0) (MQ below (hz_Q G N' post) args s (N' - N0) (hz_S N' - hz_S N0) (hz_A G)) (F0 m pc ls st0) := by
  intro T hT X
  obtain ⟨v, st₀, t, T', L, g0, X', hL, e1, e2, ⟨⟨r, R', σ', hv, hp, hw⟩, hz, hk⟩, go⟩ := hr T hT X
  have hv : v = r.map (hz_up G) := by injection hv
  subst hv
  rw [g0] at hz hk
  have i1 : N - N0 + (N1 - N) = N1 - N0 := by omega
  have m1 := hz_S_mono h0
  have m2 := hz_S_mono h1
  have i2 : hz_S N - hz_S N0 + (hz_S N1 - hz_S N) = hz_S N1 - hz_S N0 := by omega
  rw [i1, i2] at X'
  have hS' : va_S (hz_A G) s.heap T'.heap (locs ++ L) := by
    refine ⟨Nat.le_trans hS.1 (by rw [e1]; exact hz), fun q q1 q2 => ?_, fun q hq => ?_⟩
    · rw [e1, hk q (Nat.lt_of_lt_of_le q1 hS.1) q2]
      exact hS.2.1 q q1 q2
    · rcases List.mem_append.mp hq with h | h
      · exact hS.2.2 q h
      · exact hL q h
  obtain ⟨t2, a1, b1⟩ := hp N0 p e s m args below meth c T'.heap (locs ++ L) ls (Nat.le_trans h0 h1) C hS' (by rw [e1]; exact hw.1) (by rw [e1]; exact hw.2.1) hlv T' rfl X'
  refine ⟨t2, go t2 ?_, b1⟩
  have hst : (r.toList ++ rest).map (hz_up G) = (r.map (hz_up G)).toList ++ rest.map (hz_up G) := by cases r <;> rfl
  rw [hst] at a1
  exact a1
theorem o_callV {M2 : hz_M} {idx n N1 q ci k : Nat} (As : List Value) {rest : List Value} (hd : decode M.2.1 pc = .ok (.invokevirtual idx, 3)) (hL : Cond.methodLink M.1.cls idx M2.1 ∈ hz_tbl) (hM : hz_MV M2 n) (hf : hz_fit M M2) (hn : As.length = n) (hq : q < N) (hsh : hz_sh q = (ci, k)) (hci : ci < 20) (hc : (vwCl[ci]?).map (fun x => x.1) = some M2.1.cls) (hst : st = As.reverse ++ .ref q :: rest) (hcat : (rest.map fun v => v.category).sum ≤ 8) (h1 : N ≤ N1) (h2 : N1 ≤ N')
    (h : hz_Call G N N1 M2 R (.ref q :: As) σ (fun r R' σ' => hz_Run G N1 N' M R' (pc + 3) lv (r.toList ++ rest) σ' post)) : hz_Run G N N' M R pc lv st σ post := by
  intro N0 p e s m args below meth c H locs ls h0 C hS hz hP hlv
  subst hst
  obtain ⟨qc, hqc, hqn⟩ : ∃ qc, vwCl[ci]? = some qc ∧ qc.1 = M2.1.cls := by
    cases hh : vwCl[ci]? with
    | none => rw [hh] at hc; cases hc
    | some qc => rw [hh] at hc; exact ⟨qc, rfl, Option.some.inj hc⟩
  have hts := C.2.2.2.2.2.1
  have hrec := va_recv C.2.2.2.2.2.2.2.2.1 hP hqc (q0 := q) (by rw [hz_ws_at G R σ hq, hz_cell_o hsh hci])
  rw [hqn] at hrec
  have m1 := hz_S_mono h0
  have m2 := hz_S_mono h1
  have m3 := hz_S_mono h2
  refine hz_call h0 h1 C hS hlv (va_runV (As := As.map (hz_up G)) (rest := rest.map (hz_up G)) (b := hz_B G + q) ⟨C.1, C.2.1, C.2.2.1, C.2.2.2.2.1, hts⟩ h ⟨hz_callB C hL hM.1 hf, hts _ hM.2.1, hts _ hM.2.2⟩ ⟨hz_blind _, hrec, fun U hU hW => ⟨rfl, hz_Wend C hS hz hP hU hW.alike⟩⟩ rfl (by rw [List.length_map]; exact hn) hlv.1 (by simp [hz_up]) (lv_room (by rw [List.map_map]; simpa [Function.comp_def, hz_up_cat] using hcat)) hd ⟨?_, ?_⟩)
  · show N - N0 + (N1 - N) ≤ N' - N0
    omega
  · show hz_S N - hz_S N0 + (hz_S N1 - hz_S N) ≤ hz_S N' - hz_S N0
    omega
theorem o_callS {M2 : hz_M} {idx n N1 : Nat} (As : List Value) {rest : List Value} (hd : decode M.2.1 pc = .ok (.invokestatic idx, 3)) (hL : Cond.methodLink M.1.cls idx M2.1 ∈ hz_tbl) (hM : hz_MS M2 n) (hf : hz_fit M M2) (hn : As.length = n) (hst : st = As.reverse ++ rest) (hcat : (rest.map fun v => v.category).sum ≤ 8) (h1 : N ≤ N1) (h2 : N1 ≤ N')
    (h : hz_Call G N N1 M2 R As σ (fun r R' σ' => hz_Run G N1 N' M R' (pc + 3) lv (r.toList ++ rest) σ' post)) : hz_Run G N N' M R pc lv st σ post := by
  intro N0 p e s m args below meth c H locs ls h0 C hS hz hP hlv
  subst hst
  have hts := C.2.2.2.2.2.1
  have m1 := hz_S_mono h0
  have m2 := hz_S_mono h1
  have m3 := hz_S_mono h2
  refine hz_call h0 h1 C hS hlv (va_runS (As := As.map (hz_up G)) (rest := rest.map (hz_up G)) ⟨C.1, C.2.1, C.2.2.1, C.2.2.2.2.1, hts⟩ h ⟨hz_callB C hL hM.1 hf, hts _ hM.2⟩ ⟨hz_blind _, fun U hU hW => ⟨rfl, hz_Wend C hS hz hP hU hW.alike⟩⟩ rfl (by rw [List.length_map]; exact hn) hlv.1 (by simp) (lv_room (by rw [List.map_map]; simpa [Function.comp_def, hz_up_cat] using hcat)) hd ⟨?_, ?_⟩)
  · show N - N0 + (N1 - N) ≤ N' - N0
    omega
  · show hz_S N - hz_S N0 + (hz_S N1 - hz_S N) ≤ hz_S N' - hz_S N0
    omega
theorem o_callI {M2 : hz_M} {idx n N1 q : Nat} (As : List Value) {rest : List Value} (hd : decode M.2.1 pc = .ok (.invokespecial idx, 3)) (hL : Cond.methodLink M.1.cls idx M2.1 ∈ hz_tbl) (hM : hz_MI M2 n) (hf : hz_fit M M2) (hn : As.length = n) (hst : st = As.reverse ++ .ref q :: rest) (hcat : (rest.map fun v => v.category).sum ≤ 8) (h1 : N ≤ N1) (h2 : N1 ≤ N')
    (h : hz_Call G N N1 M2 R (.ref q :: As) σ (fun r R' σ' => hz_Run G N1 N' M R' (pc + 3) lv (r.toList ++ rest) σ' post)) : hz_Run G N N' M R pc lv st σ post := by
  intro N0 p e s m args below meth c H locs ls h0 C hS hz hP hlv
  subst hst
  have hts := C.2.2.2.2.2.1
  have m1 := hz_S_mono h0
  have m2 := hz_S_mono h1
  have m3 := hz_S_mono h2
  have hB := hz_callB (N := N) (N' := N') (N0 := N0) (N1 := N1) C hL hM.1 hf
  rw [hM.2.2.2] at hB
  refine hz_call h0 h1 C hS hlv (va_runI (As := As.map (hz_up G)) (rest := rest.map (hz_up G)) (b := hz_B G + q) ⟨C.1, C.2.1, C.2.2.1, C.2.2.2.2.1, hts⟩ h ⟨hB, hM.2.2.1, hts _ hM.2.1⟩ ⟨hz_blind _, fun U hU hW => ⟨rfl, hz_Wend C hS hz hP hU hW.alike⟩⟩ rfl (by rw [List.length_map]; exact hn) hlv.1 (by simp [hz_up]) (lv_room (by rw [List.map_map]; simpa [Function.comp_def, hz_up_cat] using hcat)) hd ⟨?_, ?_⟩)
  · show N - N0 + (N1 - N) ≤ N' - N0
    omega
  · show hz_S N - hz_S N0 + (hz_S N1 - hz_S N) ≤ hz_S N' - hz_S N0
    omega
theorem o_objInit {idx q : Nat} {rest : List Value} (hd : decode M.2.1 pc = .ok (.invokespecial idx, 3)) (hL : Cond.methodLink M.1.cls idx objectInit ∈ hz_tbl) (hI : Cond.instanceMethod objectInit ∈ hz_tbl) (hC : Cond.code objectInit ⟨#[0xb1]⟩ 1 none ∈ hz_tbl) (hf : 1 ≤ M.2.2.2.2.1 ∧ (rest.map fun v => v.category).sum + 12 ≤ M.2.2.2.2.2)
    (h : hz_Run G N N' M R (pc + 3) lv rest σ post) : hz_Run G N N' M R pc lv (.ref q :: rest) σ post := by
  intro N0 p e s m args below meth c H locs ls h0 C hS hz hP hlv
  have hts := C.2.2.2.2.2.1
  have hc : ((rest.map (hz_up G)).map fun v => v.category).sum = (rest.map fun v => v.category).sum := by rw [List.map_map]; simp [Function.comp_def, hz_up_cat]
  exact W.objInit (a := hz_B G + q) (rest := rest.map (hz_up G)) C.1 C.2.1 C.2.2.2.2.1 (hts _ hL) (hts _ hI) (hts _ hC) rfl (by rw [C.2.2.1]; exact hlv.1) rfl hd hf.1 (by rw [hc]; show 2 * 0 + _ + 12 ≤ M.2.2.2.2.2; rw [Nat.mul_zero, Nat.zero_add]; exact hf.2) (h N0 p e s m args below meth c H locs ls h0 C hS hz hP hlv)
/-- a method's contract out of its walk -/
theorem hz_ofRun {av : List Value} (hy : plainName M.1.cls = true) (hl : (lg_sl (av.map (hz_up G))).length ≤ M.2.2.1) (hlv : lv_args 0 (av.map (hz_up G)) = lv.map (hz_u2 G)) (h : hz_Run G N N' M R 0 lv [] σ post) : hz_Call G N N' M R av σ post := by
  refine Met.ofW (cc := M.2.1) (maxL := M.2.2.1) (ret := M.2.2.2.1) hy rfl ?_
  intro p e s m args below meth c s₁ B hml hv
  obtain ⟨rfl, hW⟩ := hv
  have hts := atoms_spec (ws := hz_wd M) B.pre
  have hC : hz_C G M p s m (av.map (hz_up G)).toArray meth c := ⟨B.exec, B.bytes, hml, B.returns, findClass_of_methodNamed B.named, fun w hw => hts w (List.mem_cons_of_mem _ hw), B.notSynchronized, (name_of_methodNamed B.named B.method).1, hW.2.2.1, by rw [hW.1]; exact Nat.le_add_right _ _, hW.2.2.2⟩
  rw [lg_entry_eq]
  have hls := lv_entry (av.map (hz_up G)) (n := M.2.2.1) hl
  rw [hlv] at hls
  have := h N p e s m _ below meth c s.heap [] _ (Nat.le_refl N) hC va_S.rf hW.1 hW.2.1 hls
  rw [Nat.sub_self, Nat.sub_self] at this
  exact this
/-! making -/
def hz_NC (own : String) (idx ci NN : Nat) : Prop := ∃ (C : String) (T : u_T) (ty0 : Nat → FieldType), vwCl[ci]? = some (C, T, NN) ∧ (∀ w ∈ u_ws C T NN, w ∈ hz_tbl) ∧ (∀ k, k < NN → parseFieldDescriptor (T k).2.2.1 = some (ty0 k)) ∧ Cond.classLink own idx C ∈ hz_tbl ∧ Cond.instantiable C NN ∈ hz_tbl ∧ Cond.initialized C ∈ hz_tbl ∧ (hz_fk ci).length = NN ∧ ∀ j, j < NN → defaultValue (ty0 j) = (match (hz_fk ci).getD j 0 with | 0 => .int 0 | 1 => .long 0 | _ => .null)
theorem hz_zr_row (σ : hz_H) {q k : Nat} (h : k ≠ q) : (hz_zr σ q).1 k = σ.1 k ∧ (hz_zr σ q).2 k = σ.2 k := by
  constructor <;> (funext b; simp [hz_zr, h])
theorem hz_zR_row (R : hz_R) {q k : Nat} (h : k ≠ q) : hz_zR R q k = R k := by funext b; simp [hz_zR, h]
theorem o_new {idx ci n : Nat} (hd : decode M.2.1 pc = .ok (.new idx, 3)) (hF : hz_NC M.1.cls idx ci n) (hsh : hz_sh N = (ci, n)) (hci : ci < 20) (hN : N + 1 ≤ N') (h : hz_Run G (N + 1) N' M (hz_zR R N) (pc + 3) lv (.ref N :: st) (hz_zr σ N) post) : hz_Run G N N' M R pc lv st σ post := by
  intro N0 p e s m args below meth c H locs ls h0 C hS hz hP hlv
  obtain ⟨Cn, T, ty0, h1, h3, h5, h6, h7, h8, h9, h10⟩ := hF
  have hts := C.2.2.2.2.2.1
  have hK := C.2.2.2.2.2.2.2.2.1
  have hKn := hK.1 ci _ h1
  have m1 := hz_S_mono h0
  have m2 := hz_S_mono hN
  have m3 := hz_S_succ N
  rw [hsh] at m3
  dsimp only at m3
  refine W.newcK (h := hz_B G + N) C.1 C.2.1 C.2.2.2.2.1 (hts _ h6) (hts _ h7) (hts _ h8) rfl hd (by show N - N0 + 1 ≤ N' - N0; omega) (by show hz_S N - hz_S N0 + n ≤ hz_S N' - hz_S N0; omega) hKn.2.1 hz fun H1 kC hkC e1 z1 o1 => ?_
  have hP1 : va_P G.2.1 vwCl (hz_ws G (hz_zR R N) (N + 1) (hz_zr σ N)) H1 := by
    rw [← hz_ws_app (R := R) (σ := σ) (fun k hk => hz_cell_eq (hz_zr_row σ (Nat.ne_of_lt hk)).1 (hz_zr_row σ (Nat.ne_of_lt hk)).2 (hz_zR_row R (Nat.ne_of_lt hk)))]
    refine (hP.kept (fun k x hx => o1 x.1 ?_)).app (fun k x hx => ?_)
    · obtain ⟨hk, rfl⟩ := hz_ws_some hx
      show hz_B G + k < hz_B G + N
      omega
    · have hz1 : k < 1 := (List.getElem?_eq_some_iff.mp hx).1
      rw [show k = 0 by omega] at hx
      cases hx
      rw [hz_cell_o hsh hci]
      refine ⟨_, h1, (u_born ty0 hts h3 hKn hkC e1 h5).to (fun j hj => ?_)⟩
      dsimp only
      rw [h10 j hj]
      have hjl : j < (hz_fk ci).length := by rw [h9]; exact hj
      simp only [vp_V, List.getD_eq_getElem?_getD]
      rw [hz_fs_at (kd := (hz_fk ci).getD j 0) (by rw [List.getD_eq_getElem?_getD, List.getElem?_eq_getElem hjl]; rfl), Option.getD_some, List.getD_eq_getElem?_getD]
      generalize (hz_fk ci)[j]?.getD 0 = kd
      match kd with
      | 0 => simp [hz_fv, hz_zr]
      | 1 => simp [hz_fv, hz_zr]
      | kd + 2 => simp [hz_fv, hz_zR, hz_rf]
  have i1 : N - N0 + 1 = N + 1 - N0 := by omega
  have i2 : hz_S N - hz_S N0 + n = hz_S (N + 1) - hz_S N0 := by omega
  rw [i1, i2]
  exact h N0 p e s m args below meth c H1 locs ls (by omega) C ⟨Nat.le_trans hS.1 (by omega), fun x h1 h2 => (o1 x (by rw [← hz]; exact Nat.lt_of_lt_of_le h1 hS.1)).trans (hS.2.1 x h1 h2), hS.2.2⟩ (by omega) hP1 hlv

theorem o_newI {at_ : ArrayType} {n : Nat} {x : Int32} (hd : decode M.2.1 pc = .ok (.newarray at_, 2)) (hat : newarray.typeOf at_ = .int) (hA : Cond.arrayClass (newarray.typeOf at_) ∈ hz_tbl) (hx : x = nI n) (hn : n < 100000) (hsh : hz_sh N = (20, n)) (hN : N + 1 ≤ N') (h : hz_Run G (N + 1) N' M (hz_zR R N) (pc + 2) lv (.ref N :: st) (hz_zr σ N) post) : hz_Run G N N' M R pc lv (.int x :: st) σ post := by
  intro N0 p e s m args below meth c H locs ls h0 C hS hz hP hlv
  have hts := C.2.2.2.2.2.1
  have hK := C.2.2.2.2.2.2.2.2.1
  have m1 := hz_S_mono h0
  have m2 := hz_S_mono hN
  have m3 := hz_S_succ N
  rw [hsh] at m3
  dsimp only at m3
  have hx0 : ¬ x < 0 := by rw [hx]; exact nI_pos (by omega)
  have hxc : x.toNatClampNeg = n := by rw [hx]; exact nI_clamp (by omega)
  refine va_newaK (h := hz_B G + N) (N := n) C.1 C.2.1 (hts _ hA) rfl hd rfl hx0 hxc (by rw [hat]; show n * componentBytes .int ≤ _; simp only [componentBytes]; omega) (by show N - N0 + 1 ≤ N' - N0; omega) (by show hz_S N - hz_S N0 + n ≤ hz_S N' - hz_S N0; omega) hz fun H1 cA e1 z1 o1 hAr hNm => ?_
  have hcA : cA = G.2.2.1 0 := by
    have h2 := (hK.2 0 _ rfl).2
    rw [hat] at hNm
    exact Option.some.inj (hNm.symm.trans h2)
  rw [hcA, hat] at e1
  have hP1 : va_P G.2.1 vwCl (hz_ws G (hz_zR R N) (N + 1) (hz_zr σ N)) H1 := by
    rw [← hz_ws_app (R := R) (σ := σ) (fun k hk => hz_cell_eq (hz_zr_row σ (Nat.ne_of_lt hk)).1 (hz_zr_row σ (Nat.ne_of_lt hk)).2 (hz_zR_row R (Nat.ne_of_lt hk)))]
    refine (hP.kept (fun k x hx => o1 x.1 ?_)).app (fun k x hx => ?_)
    · obtain ⟨hk, rfl⟩ := hz_ws_some hx
      show hz_B G + k < hz_B G + N
      omega
    · have hz1 : k < 1 := (List.getElem?_eq_some_iff.mp hx).1
      rw [show k = 0 by omega] at hx
      cases hx
      rw [hz_cell_i hsh]
      show H1[_]? = some (vp_cell _ _)
      rw [e1]
      simp [vp_cell, hz_zr, defaultValue]
  have i1 : N - N0 + 1 = N + 1 - N0 := by omega
  have i2 : hz_S N - hz_S N0 + n = hz_S (N + 1) - hz_S N0 := by omega
  rw [i1, i2]
  exact h N0 p e s m args below meth c H1 locs ls (by omega) C ⟨Nat.le_trans hS.1 (by omega), fun x h1 h2 => (o1 x (by rw [← hz]; exact Nat.lt_of_lt_of_le h1 hS.1)).trans (hS.2.1 x h1 h2), hS.2.2⟩ (by omega) hP1 hlv
theorem o_newB {at_ : ArrayType} {n : Nat} {x : Int32} (hd : decode M.2.1 pc = .ok (.newarray at_, 2)) (hat : newarray.typeOf at_ = .byte) (hA : Cond.arrayClass (newarray.typeOf at_) ∈ hz_tbl) (hx : x = nI n) (hn : n < 100000) (hsh : hz_sh N = (21, n)) (hN : N + 1 ≤ N') (h : hz_Run G (N + 1) N' M (hz_zR R N) (pc + 2) lv (.ref N :: st) (hz_zr σ N) post) : hz_Run G N N' M R pc lv (.int x :: st) σ post := by
  intro N0 p e s m args below meth c H locs ls h0 C hS hz hP hlv
  have hts := C.2.2.2.2.2.1
  have hK := C.2.2.2.2.2.2.2.2.1
  have m1 := hz_S_mono h0
  have m2 := hz_S_mono hN
  have m3 := hz_S_succ N
  rw [hsh] at m3
  dsimp only at m3
  have hx0 : ¬ x < 0 := by rw [hx]; exact nI_pos (by omega)
  have hxc : x.toNatClampNeg = n := by rw [hx]; exact nI_clamp (by omega)
  refine va_newaK (h := hz_B G + N) (N := n) C.1 C.2.1 (hts _ hA) rfl hd rfl hx0 hxc (by rw [hat]; show n * componentBytes .byte ≤ _; simp only [componentBytes]; omega) (by show N - N0 + 1 ≤ N' - N0; omega) (by show hz_S N - hz_S N0 + n ≤ hz_S N' - hz_S N0; omega) hz fun H1 cA e1 z1 o1 hAr hNm => ?_
  have hcA : cA = G.2.2.1 1 := by
    have h2 := (hK.2 1 _ rfl).2
    rw [hat] at hNm
    exact Option.some.inj (hNm.symm.trans h2)
  rw [hcA, hat] at e1
  have hP1 : va_P G.2.1 vwCl (hz_ws G (hz_zR R N) (N + 1) (hz_zr σ N)) H1 := by
    rw [← hz_ws_app (R := R) (σ := σ) (fun k hk => hz_cell_eq (hz_zr_row σ (Nat.ne_of_lt hk)).1 (hz_zr_row σ (Nat.ne_of_lt hk)).2 (hz_zR_row R (Nat.ne_of_lt hk)))]
    refine (hP.kept (fun k x hx => o1 x.1 ?_)).app (fun k x hx => ?_)
    · obtain ⟨hk, rfl⟩ := hz_ws_some hx
      show hz_B G + k < hz_B G + N
      omega
    · have hz1 : k < 1 := (List.getElem?_eq_some_iff.mp hx).1
      rw [show k = 0 by omega] at hx
      cases hx
      rw [hz_cell_b hsh]
      show H1[_]? = some (vp_cell _ _)
      rw [e1]
      simp [vp_cell, hz_zr, defaultValue]
  have i1 : N - N0 + 1 = N + 1 - N0 := by omega
  have i2 : hz_S N - hz_S N0 + n = hz_S (N + 1) - hz_S N0 := by omega
  rw [i1, i2]
  exact h N0 p e s m args below meth c H1 locs ls (by omega) C ⟨Nat.le_trans hS.1 (by omega), fun x h1 h2 => (o1 x (by rw [← hz]; exact Nat.lt_of_lt_of_le h1 hS.1)).trans (hS.2.1 x h1 h2), hS.2.2⟩ (by omega) hP1 hlv
theorem o_newL {at_ : ArrayType} {n : Nat} {x : Int32} (hd : decode M.2.1 pc = .ok (.newarray at_, 2)) (hat : newarray.typeOf at_ = .long) (hA : Cond.arrayClass (newarray.typeOf at_) ∈ hz_tbl) (hx : x = nI n) (hn : n < 100000) (hsh : hz_sh N = (22, n)) (hN : N + 1 ≤ N') (h : hz_Run G (N + 1) N' M (hz_zR R N) (pc + 2) lv (.ref N :: st) (hz_zr σ N) post) : hz_Run G N N' M R pc lv (.int x :: st) σ post := by
  intro N0 p e s m args below meth c H locs ls h0 C hS hz hP hlv
  have hts := C.2.2.2.2.2.1
  have hK := C.2.2.2.2.2.2.2.2.1
  have m1 := hz_S_mono h0
  have m2 := hz_S_mono hN
  have m3 := hz_S_succ N
  rw [hsh] at m3
  dsimp only at m3
  have hx0 : ¬ x < 0 := by rw [hx]; exact nI_pos (by omega)
  have hxc : x.toNatClampNeg = n := by rw [hx]; exact nI_clamp (by omega)
  refine va_newaK (h := hz_B G + N) (N := n) C.1 C.2.1 (hts _ hA) rfl hd rfl hx0 hxc (by rw [hat]; show n * componentBytes .long ≤ _; simp only [componentBytes]; omega) (by show N - N0 + 1 ≤ N' - N0; omega) (by show hz_S N - hz_S N0 + n ≤ hz_S N' - hz_S N0; omega) hz fun H1 cA e1 z1 o1 hAr hNm => ?_
  have hcA : cA = G.2.2.1 2 := by
    have h2 := (hK.2 2 _ rfl).2
    rw [hat] at hNm
    exact Option.some.inj (hNm.symm.trans h2)
  rw [hcA, hat] at e1
  have hP1 : va_P G.2.1 vwCl (hz_ws G (hz_zR R N) (N + 1) (hz_zr σ N)) H1 := by
    rw [← hz_ws_app (R := R) (σ := σ) (fun k hk => hz_cell_eq (hz_zr_row σ (Nat.ne_of_lt hk)).1 (hz_zr_row σ (Nat.ne_of_lt hk)).2 (hz_zR_row R (Nat.ne_of_lt hk)))]
    refine (hP.kept (fun k x hx => o1 x.1 ?_)).app (fun k x hx => ?_)
    · obtain ⟨hk, rfl⟩ := hz_ws_some hx
      show hz_B G + k < hz_B G + N
      omega
    · have hz1 : k < 1 := (List.getElem?_eq_some_iff.mp hx).1
      rw [show k = 0 by omega] at hx
      cases hx
      rw [hz_cell_l hsh]
      show H1[_]? = some (vp_cell _ _)
      rw [e1]
      simp [vp_cell, hz_zr, defaultValue]
  have i1 : N - N0 + 1 = N + 1 - N0 := by omega
  have i2 : hz_S N - hz_S N0 + n = hz_S (N + 1) - hz_S N0 := by omega
  rw [i1, i2]
  exact h N0 p e s m args below meth c H1 locs ls (by omega) C ⟨Nat.le_trans hS.1 (by omega), fun x h1 h2 => (o1 x (by rw [← hz]; exact Nat.lt_of_lt_of_le h1 hS.1)).trans (hS.2.1 x h1 h2), hS.2.2⟩ (by omega) hP1 hlv
end HZ3
end
