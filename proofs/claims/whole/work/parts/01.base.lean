-- ===== PART A: goes FIRST, ahead of the names: the tables' words, and 'selects' of the private methods out of them =====
/-- a private method of a class that the tables say can be made, by its rows of tables_1 -/
def lw_okq (q : MethodName × Nat) : Prop := (q.1.cls ≠ "java/lang/invoke/MethodHandle" ∧ q.1.cls ≠ "java/lang/invoke/VarHandle") ∧ Cond.instantiable q.1.cls q.2 ∈ tables_1 ∧ Cond.privateMethod q.1 ∈ tables_1 ∧ Cond.instanceMethod q.1 ∈ tables_1
theorem lw_p0 : lw_okq (⟨"StormSlots$Reader", "readFlight", "(LStormSlots$Bytes;LStormSlots$Roster;)V"⟩, 3) := ⟨⟨by decide +kernel, by decide +kernel⟩, List.mem_of_getElem? (i := 42) (by decide +kernel), List.mem_of_getElem? (i := 358) (by decide +kernel), List.mem_of_getElem? (i := 359) (by decide +kernel)⟩
theorem lw_p1 : lw_okq (⟨"StormSlots$Reader", "readLetter", "(LStormSlots$Bytes;Z)I"⟩, 3) := ⟨⟨by decide +kernel, by decide +kernel⟩, List.mem_of_getElem? (i := 42) (by decide +kernel), List.mem_of_getElem? (i := 366) (by decide +kernel), List.mem_of_getElem? (i := 367) (by decide +kernel)⟩
theorem lw_p2 : lw_okq (⟨"StormSlots$Reader", "skipBlanks", "(LStormSlots$Bytes;)V"⟩, 3) := ⟨⟨by decide +kernel, by decide +kernel⟩, List.mem_of_getElem? (i := 42) (by decide +kernel), List.mem_of_getElem? (i := 370) (by decide +kernel), List.mem_of_getElem? (i := 371) (by decide +kernel)⟩
theorem lw_p3 : lw_okq (⟨"StormSlots$Reader", "peek", "(LStormSlots$Bytes;)I"⟩, 3) := ⟨⟨by decide +kernel, by decide +kernel⟩, List.mem_of_getElem? (i := 42) (by decide +kernel), List.mem_of_getElem? (i := 374) (by decide +kernel), List.mem_of_getElem? (i := 375) (by decide +kernel)⟩
theorem lw_p4 : lw_okq (⟨"StormSlots$Reader", "fail", "(II)V"⟩, 3) := ⟨⟨by decide +kernel, by decide +kernel⟩, List.mem_of_getElem? (i := 42) (by decide +kernel), List.mem_of_getElem? (i := 382) (by decide +kernel), List.mem_of_getElem? (i := 383) (by decide +kernel)⟩
theorem lw_p5 : lw_okq (⟨"StormSlots$Reader", "readNumber", "(LStormSlots$Bytes;I)I"⟩, 3) := ⟨⟨by decide +kernel, by decide +kernel⟩, List.mem_of_getElem? (i := 42) (by decide +kernel), List.mem_of_getElem? (i := 386) (by decide +kernel), List.mem_of_getElem? (i := 387) (by decide +kernel)⟩
theorem lw_p6 : lw_okq (⟨"StormSlots$Reader", "expect", "(LStormSlots$Bytes;I)V"⟩, 3) := ⟨⟨by decide +kernel, by decide +kernel⟩, List.mem_of_getElem? (i := 42) (by decide +kernel), List.mem_of_getElem? (i := 393) (by decide +kernel), List.mem_of_getElem? (i := 394) (by decide +kernel)⟩
theorem lw_p7 : lw_okq (⟨"StormSlots$Reader", "readWeight", "(LStormSlots$Bytes;)I"⟩, 3) := ⟨⟨by decide +kernel, by decide +kernel⟩, List.mem_of_getElem? (i := 42) (by decide +kernel), List.mem_of_getElem? (i := 397) (by decide +kernel), List.mem_of_getElem? (i := 398) (by decide +kernel)⟩
theorem lw_p8 : lw_okq (⟨"StormSlots$Field", "clearFlight", "(I)V"⟩, 11) := ⟨⟨by decide +kernel, by decide +kernel⟩, List.mem_of_getElem? (i := 159) (by decide +kernel), List.mem_of_getElem? (i := 421) (by decide +kernel), List.mem_of_getElem? (i := 422) (by decide +kernel)⟩
theorem lw_p9 : lw_okq (⟨"StormSlots$Planner", "enqueue", "(II)V"⟩, 4) := ⟨⟨by decide +kernel, by decide +kernel⟩, List.mem_of_getElem? (i := 106) (by decide +kernel), List.mem_of_getElem? (i := 583) (by decide +kernel), List.mem_of_getElem? (i := 584) (by decide +kernel)⟩
theorem lw_p10 : lw_okq (⟨"StormSlots$Planner", "seatAirborne", "(LStormSlots$Field;I)I"⟩, 4) := ⟨⟨by decide +kernel, by decide +kernel⟩, List.mem_of_getElem? (i := 106) (by decide +kernel), List.mem_of_getElem? (i := 587) (by decide +kernel), List.mem_of_getElem? (i := 588) (by decide +kernel)⟩
theorem lw_p11 : lw_okq (⟨"StormSlots$Planner", "takeFirst", "(LStormSlots$Rates;I)I"⟩, 4) := ⟨⟨by decide +kernel, by decide +kernel⟩, List.mem_of_getElem? (i := 106) (by decide +kernel), List.mem_of_getElem? (i := 592) (by decide +kernel), List.mem_of_getElem? (i := 593) (by decide +kernel)⟩
theorem lw_p12 : lw_okq (⟨"StormSlots$Planner", "firstFree", "(LStormSlots$Rates;I)I"⟩, 4) := ⟨⟨by decide +kernel, by decide +kernel⟩, List.mem_of_getElem? (i := 106) (by decide +kernel), List.mem_of_getElem? (i := 596) (by decide +kernel), List.mem_of_getElem? (i := 597) (by decide +kernel)⟩
theorem lw_p13 : lw_okq (⟨"StormSlots$Planner", "isFree", "(I)Z"⟩, 4) := ⟨⟨by decide +kernel, by decide +kernel⟩, List.mem_of_getElem? (i := 106) (by decide +kernel), List.mem_of_getElem? (i := 602) (by decide +kernel), List.mem_of_getElem? (i := 603) (by decide +kernel)⟩
theorem lw_p14 : lw_okq (⟨"StormSlots$Planner", "take", "(I)V"⟩, 4) := ⟨⟨by decide +kernel, by decide +kernel⟩, List.mem_of_getElem? (i := 106) (by decide +kernel), List.mem_of_getElem? (i := 607) (by decide +kernel), List.mem_of_getElem? (i := 608) (by decide +kernel)⟩
theorem lw_p15 : lw_okq (⟨"StormSlots$Planner", "keyOf", "(LStormSlots$Field;II)I"⟩, 4) := ⟨⟨by decide +kernel, by decide +kernel⟩, List.mem_of_getElem? (i := 106) (by decide +kernel), List.mem_of_getElem? (i := 615) (by decide +kernel), List.mem_of_getElem? (i := 616) (by decide +kernel)⟩
def lw_privs_1 : List (MethodName × Nat) := [(⟨"StormSlots$Reader", "readFlight", "(LStormSlots$Bytes;LStormSlots$Roster;)V"⟩, 3), (⟨"StormSlots$Reader", "readLetter", "(LStormSlots$Bytes;Z)I"⟩, 3), (⟨"StormSlots$Reader", "skipBlanks", "(LStormSlots$Bytes;)V"⟩, 3), (⟨"StormSlots$Reader", "peek", "(LStormSlots$Bytes;)I"⟩, 3), (⟨"StormSlots$Reader", "fail", "(II)V"⟩, 3), (⟨"StormSlots$Reader", "readNumber", "(LStormSlots$Bytes;I)I"⟩, 3), (⟨"StormSlots$Reader", "expect", "(LStormSlots$Bytes;I)V"⟩, 3), (⟨"StormSlots$Reader", "readWeight", "(LStormSlots$Bytes;)I"⟩, 3), (⟨"StormSlots$Field", "clearFlight", "(I)V"⟩, 11), (⟨"StormSlots$Planner", "enqueue", "(II)V"⟩, 4), (⟨"StormSlots$Planner", "seatAirborne", "(LStormSlots$Field;I)I"⟩, 4), (⟨"StormSlots$Planner", "takeFirst", "(LStormSlots$Rates;I)I"⟩, 4), (⟨"StormSlots$Planner", "firstFree", "(LStormSlots$Rates;I)I"⟩, 4), (⟨"StormSlots$Planner", "isFree", "(I)Z"⟩, 4), (⟨"StormSlots$Planner", "take", "(I)V"⟩, 4), (⟨"StormSlots$Planner", "keyOf", "(LStormSlots$Field;II)I"⟩, 4)]
theorem lw_r1 : ∀ q ∈ lw_privs_1, lw_okq q := List.forall_mem_cons.mpr ⟨lw_p0, List.forall_mem_cons.mpr ⟨lw_p1, List.forall_mem_cons.mpr ⟨lw_p2, List.forall_mem_cons.mpr ⟨lw_p3, List.forall_mem_cons.mpr ⟨lw_p4, List.forall_mem_cons.mpr ⟨lw_p5, List.forall_mem_cons.mpr ⟨lw_p6, List.forall_mem_cons.mpr ⟨lw_p7, List.forall_mem_cons.mpr ⟨lw_p8, List.forall_mem_cons.mpr ⟨lw_p9, List.forall_mem_cons.mpr ⟨lw_p10, List.forall_mem_cons.mpr ⟨lw_p11, List.forall_mem_cons.mpr ⟨lw_p12, List.forall_mem_cons.mpr ⟨lw_p13, List.forall_mem_cons.mpr ⟨lw_p14, List.forall_mem_cons.mpr ⟨lw_p15, fun _ h => absurd h List.not_mem_nil⟩⟩⟩⟩⟩⟩⟩⟩⟩⟩⟩⟩⟩⟩⟩⟩
theorem lw_p16 : lw_okq (⟨"StormSlots$Planner", "turnOf", "(LStormSlots$Field;I)I"⟩, 4) := ⟨⟨by decide +kernel, by decide +kernel⟩, List.mem_of_getElem? (i := 106) (by decide +kernel), List.mem_of_getElem? (i := 619) (by decide +kernel), List.mem_of_getElem? (i := 620) (by decide +kernel)⟩
theorem lw_p17 : lw_okq (⟨"StormSlots$Roster", "has", "(I)Z"⟩, 5) := ⟨⟨by decide +kernel, by decide +kernel⟩, List.mem_of_getElem? (i := 69) (by decide +kernel), List.mem_of_getElem? (i := 627) (by decide +kernel), List.mem_of_getElem? (i := 628) (by decide +kernel)⟩
theorem lw_p18 : lw_okq (⟨"StormSlots$Planner", "seatGrounded", "(LStormSlots$Field;)I"⟩, 4) := ⟨⟨by decide +kernel, by decide +kernel⟩, List.mem_of_getElem? (i := 106) (by decide +kernel), List.mem_of_getElem? (i := 631) (by decide +kernel), List.mem_of_getElem? (i := 632) (by decide +kernel)⟩
theorem lw_p19 : lw_okq (⟨"StormSlots$Vacancies", "has", "(I)Z"⟩, 3) := ⟨⟨by decide +kernel, by decide +kernel⟩, List.mem_of_getElem? (i := 177) (by decide +kernel), List.mem_of_getElem? (i := 700) (by decide +kernel), List.mem_of_getElem? (i := 701) (by decide +kernel)⟩
theorem lw_p20 : lw_okq (⟨"StormSlots$Field", "fillFirst", "()Z"⟩, 11) := ⟨⟨by decide +kernel, by decide +kernel⟩, List.mem_of_getElem? (i := 159) (by decide +kernel), List.mem_of_getElem? (i := 729) (by decide +kernel), List.mem_of_getElem? (i := 730) (by decide +kernel)⟩
theorem lw_p21 : lw_okq (⟨"StormSlots$Field", "fillerOf", "(II)I"⟩, 11) := ⟨⟨by decide +kernel, by decide +kernel⟩, List.mem_of_getElem? (i := 159) (by decide +kernel), List.mem_of_getElem? (i := 733) (by decide +kernel), List.mem_of_getElem? (i := 734) (by decide +kernel)⟩
theorem lw_p22 : lw_okq (⟨"StormSlots$Field", "earlierSeated", "(II)I"⟩, 11) := ⟨⟨by decide +kernel, by decide +kernel⟩, List.mem_of_getElem? (i := 159) (by decide +kernel), List.mem_of_getElem? (i := 737) (by decide +kernel), List.mem_of_getElem? (i := 738) (by decide +kernel)⟩
theorem lw_p23 : lw_okq (⟨"StormSlots$Field", "haveUnlikeLines", "(II)Z"⟩, 11) := ⟨⟨by decide +kernel, by decide +kernel⟩, List.mem_of_getElem? (i := 159) (by decide +kernel), List.mem_of_getElem? (i := 785) (by decide +kernel), List.mem_of_getElem? (i := 786) (by decide +kernel)⟩
theorem lw_p24 : lw_okq (⟨"StormSlots$Field", "canTrade", "(II)Z"⟩, 11) := ⟨⟨by decide +kernel, by decide +kernel⟩, List.mem_of_getElem? (i := 159) (by decide +kernel), List.mem_of_getElem? (i := 790) (by decide +kernel), List.mem_of_getElem? (i := 791) (by decide +kernel)⟩
theorem lw_p25 : lw_okq (⟨"StormSlots$OrderSearch", "gather", "(LStormSlots$Field;I)V"⟩, 8) := ⟨⟨by decide +kernel, by decide +kernel⟩, List.mem_of_getElem? (i := 125) (by decide +kernel), List.mem_of_getElem? (i := 858) (by decide +kernel), List.mem_of_getElem? (i := 859) (by decide +kernel)⟩
theorem lw_p26 : lw_okq (⟨"StormSlots", "tryCancel", "(I)V"⟩, 11) := ⟨⟨by decide +kernel, by decide +kernel⟩, List.mem_of_getElem? (i := 18) (by decide +kernel), List.mem_of_getElem? (i := 889) (by decide +kernel), List.mem_of_getElem? (i := 890) (by decide +kernel)⟩
theorem lw_p27 : lw_okq (⟨"StormSlotsModel", "typed4", "(I)V"⟩, 22) := ⟨⟨by decide +kernel, by decide +kernel⟩, List.mem_of_getElem? (i := 1100) (by decide +kernel), List.mem_of_getElem? (i := 1178) (by decide +kernel), List.mem_of_getElem? (i := 1179) (by decide +kernel)⟩
theorem lw_p28 : lw_okq (⟨"StormSlotsModel", "readsFlight", "(I)V"⟩, 22) := ⟨⟨by decide +kernel, by decide +kernel⟩, List.mem_of_getElem? (i := 1100) (by decide +kernel), List.mem_of_getElem? (i := 1189) (by decide +kernel), List.mem_of_getElem? (i := 1190) (by decide +kernel)⟩
theorem lw_p29 : lw_okq (⟨"StormSlotsModel", "see", "()I"⟩, 22) := ⟨⟨by decide +kernel, by decide +kernel⟩, List.mem_of_getElem? (i := 1100) (by decide +kernel), List.mem_of_getElem? (i := 1193) (by decide +kernel), List.mem_of_getElem? (i := 1194) (by decide +kernel)⟩
theorem lw_p30 : lw_okq (⟨"StormSlotsModel", "wrong", "(II)Z"⟩, 22) := ⟨⟨by decide +kernel, by decide +kernel⟩, List.mem_of_getElem? (i := 1100) (by decide +kernel), List.mem_of_getElem? (i := 1197) (by decide +kernel), List.mem_of_getElem? (i := 1198) (by decide +kernel)⟩
theorem lw_p31 : lw_okq (⟨"StormSlotsModel", "counts", "(III)Z"⟩, 22) := ⟨⟨by decide +kernel, by decide +kernel⟩, List.mem_of_getElem? (i := 1100) (by decide +kernel), List.mem_of_getElem? (i := 1201) (by decide +kernel), List.mem_of_getElem? (i := 1202) (by decide +kernel)⟩
def lw_privs_2 : List (MethodName × Nat) := [(⟨"StormSlots$Planner", "turnOf", "(LStormSlots$Field;I)I"⟩, 4), (⟨"StormSlots$Roster", "has", "(I)Z"⟩, 5), (⟨"StormSlots$Planner", "seatGrounded", "(LStormSlots$Field;)I"⟩, 4), (⟨"StormSlots$Vacancies", "has", "(I)Z"⟩, 3), (⟨"StormSlots$Field", "fillFirst", "()Z"⟩, 11), (⟨"StormSlots$Field", "fillerOf", "(II)I"⟩, 11), (⟨"StormSlots$Field", "earlierSeated", "(II)I"⟩, 11), (⟨"StormSlots$Field", "haveUnlikeLines", "(II)Z"⟩, 11), (⟨"StormSlots$Field", "canTrade", "(II)Z"⟩, 11), (⟨"StormSlots$OrderSearch", "gather", "(LStormSlots$Field;I)V"⟩, 8), (⟨"StormSlots", "tryCancel", "(I)V"⟩, 11), (⟨"StormSlotsModel", "typed4", "(I)V"⟩, 22), (⟨"StormSlotsModel", "readsFlight", "(I)V"⟩, 22), (⟨"StormSlotsModel", "see", "()I"⟩, 22), (⟨"StormSlotsModel", "wrong", "(II)Z"⟩, 22), (⟨"StormSlotsModel", "counts", "(III)Z"⟩, 22)]
theorem lw_r2 : ∀ q ∈ lw_privs_2, lw_okq q := List.forall_mem_cons.mpr ⟨lw_p16, List.forall_mem_cons.mpr ⟨lw_p17, List.forall_mem_cons.mpr ⟨lw_p18, List.forall_mem_cons.mpr ⟨lw_p19, List.forall_mem_cons.mpr ⟨lw_p20, List.forall_mem_cons.mpr ⟨lw_p21, List.forall_mem_cons.mpr ⟨lw_p22, List.forall_mem_cons.mpr ⟨lw_p23, List.forall_mem_cons.mpr ⟨lw_p24, List.forall_mem_cons.mpr ⟨lw_p25, List.forall_mem_cons.mpr ⟨lw_p26, List.forall_mem_cons.mpr ⟨lw_p27, List.forall_mem_cons.mpr ⟨lw_p28, List.forall_mem_cons.mpr ⟨lw_p29, List.forall_mem_cons.mpr ⟨lw_p30, List.forall_mem_cons.mpr ⟨lw_p31, fun _ h => absurd h List.not_mem_nil⟩⟩⟩⟩⟩⟩⟩⟩⟩⟩⟩⟩⟩⟩⟩⟩
theorem lw_p32 : lw_okq (⟨"StormSlotsModel", "passes", "(I)Z"⟩, 22) := ⟨⟨by decide +kernel, by decide +kernel⟩, List.mem_of_getElem? (i := 1100) (by decide +kernel), List.mem_of_getElem? (i := 1208) (by decide +kernel), List.mem_of_getElem? (i := 1209) (by decide +kernel)⟩
theorem lw_p33 : lw_okq (⟨"StormSlotsModel", "clears", "()V"⟩, 22) := ⟨⟨by decide +kernel, by decide +kernel⟩, List.mem_of_getElem? (i := 1100) (by decide +kernel), List.mem_of_getElem? (i := 1212) (by decide +kernel), List.mem_of_getElem? (i := 1213) (by decide +kernel)⟩
theorem lw_p34 : lw_okq (⟨"StormSlotsModel", "clearsPlan", "()V"⟩, 22) := ⟨⟨by decide +kernel, by decide +kernel⟩, List.mem_of_getElem? (i := 1100) (by decide +kernel), List.mem_of_getElem? (i := 1216) (by decide +kernel), List.mem_of_getElem? (i := 1217) (by decide +kernel)⟩
theorem lw_p35 : lw_okq (⟨"StormSlotsModel", "adds", "(IIII)V"⟩, 22) := ⟨⟨by decide +kernel, by decide +kernel⟩, List.mem_of_getElem? (i := 1100) (by decide +kernel), List.mem_of_getElem? (i := 1220) (by decide +kernel), List.mem_of_getElem? (i := 1221) (by decide +kernel)⟩
theorem lw_p36 : lw_okq (⟨"StormSlotsModel", "sets", "(III)V"⟩, 22) := ⟨⟨by decide +kernel, by decide +kernel⟩, List.mem_of_getElem? (i := 1100) (by decide +kernel), List.mem_of_getElem? (i := 1224) (by decide +kernel), List.mem_of_getElem? (i := 1225) (by decide +kernel)⟩
theorem lw_p37 : lw_okq (⟨"StormSlotsModel", "draw", "(I)I"⟩, 22) := ⟨⟨by decide +kernel, by decide +kernel⟩, List.mem_of_getElem? (i := 1100) (by decide +kernel), List.mem_of_getElem? (i := 1240) (by decide +kernel), List.mem_of_getElem? (i := 1241) (by decide +kernel)⟩
theorem lw_p38 : lw_okq (⟨"StormSlotsModel", "writes", "(I)V"⟩, 22) := ⟨⟨by decide +kernel, by decide +kernel⟩, List.mem_of_getElem? (i := 1100) (by decide +kernel), List.mem_of_getElem? (i := 1249) (by decide +kernel), List.mem_of_getElem? (i := 1250) (by decide +kernel)⟩
theorem lw_p39 : lw_okq (⟨"StormSlotsModel", "of", "(II)I"⟩, 22) := ⟨⟨by decide +kernel, by decide +kernel⟩, List.mem_of_getElem? (i := 1100) (by decide +kernel), List.mem_of_getElem? (i := 1253) (by decide +kernel), List.mem_of_getElem? (i := 1254) (by decide +kernel)⟩
theorem lw_p40 : lw_okq (⟨"StormSlotsModel", "writesNumber", "(I)V"⟩, 22) := ⟨⟨by decide +kernel, by decide +kernel⟩, List.mem_of_getElem? (i := 1100) (by decide +kernel), List.mem_of_getElem? (i := 1257) (by decide +kernel), List.mem_of_getElem? (i := 1258) (by decide +kernel)⟩
theorem lw_p41 : lw_okq (⟨"StormSlotsModel", "isSlot", "(I)Z"⟩, 22) := ⟨⟨by decide +kernel, by decide +kernel⟩, List.mem_of_getElem? (i := 1100) (by decide +kernel), List.mem_of_getElem? (i := 1280) (by decide +kernel), List.mem_of_getElem? (i := 1281) (by decide +kernel)⟩
theorem lw_p42 : lw_okq (⟨"StormSlotsModel", "isFlight", "(I)Z"⟩, 22) := ⟨⟨by decide +kernel, by decide +kernel⟩, List.mem_of_getElem? (i := 1100) (by decide +kernel), List.mem_of_getElem? (i := 1288) (by decide +kernel), List.mem_of_getElem? (i := 1289) (by decide +kernel)⟩
theorem lw_p43 : lw_okq (⟨"StormSlotsModel", "isPlanned", "(I)Z"⟩, 22) := ⟨⟨by decide +kernel, by decide +kernel⟩, List.mem_of_getElem? (i := 1100) (by decide +kernel), List.mem_of_getElem? (i := 1292) (by decide +kernel), List.mem_of_getElem? (i := 1293) (by decide +kernel)⟩
theorem lw_p44 : lw_okq (⟨"StormSlotsModel", "earliest", "(I)I"⟩, 22) := ⟨⟨by decide +kernel, by decide +kernel⟩, List.mem_of_getElem? (i := 1100) (by decide +kernel), List.mem_of_getElem? (i := 1296) (by decide +kernel), List.mem_of_getElem? (i := 1297) (by decide +kernel)⟩
theorem lw_p45 : lw_okq (⟨"StormSlotsModel", "isAir", "(I)Z"⟩, 22) := ⟨⟨by decide +kernel, by decide +kernel⟩, List.mem_of_getElem? (i := 1100) (by decide +kernel), List.mem_of_getElem? (i := 1303) (by decide +kernel), List.mem_of_getElem? (i := 1304) (by decide +kernel)⟩
theorem lw_p46 : lw_okq (⟨"StormSlotsModel", "offOf", "(I)I"⟩, 22) := ⟨⟨by decide +kernel, by decide +kernel⟩, List.mem_of_getElem? (i := 1100) (by decide +kernel), List.mem_of_getElem? (i := 1307) (by decide +kernel), List.mem_of_getElem? (i := 1308) (by decide +kernel)⟩
theorem lw_p47 : lw_okq (⟨"StormSlotsModel", "cost", "(I)I"⟩, 22) := ⟨⟨by decide +kernel, by decide +kernel⟩, List.mem_of_getElem? (i := 1100) (by decide +kernel), List.mem_of_getElem? (i := 1311) (by decide +kernel), List.mem_of_getElem? (i := 1312) (by decide +kernel)⟩
def lw_privs_3 : List (MethodName × Nat) := [(⟨"StormSlotsModel", "passes", "(I)Z"⟩, 22), (⟨"StormSlotsModel", "clears", "()V"⟩, 22), (⟨"StormSlotsModel", "clearsPlan", "()V"⟩, 22), (⟨"StormSlotsModel", "adds", "(IIII)V"⟩, 22), (⟨"StormSlotsModel", "sets", "(III)V"⟩, 22), (⟨"StormSlotsModel", "draw", "(I)I"⟩, 22), (⟨"StormSlotsModel", "writes", "(I)V"⟩, 22), (⟨"StormSlotsModel", "of", "(II)I"⟩, 22), (⟨"StormSlotsModel", "writesNumber", "(I)V"⟩, 22), (⟨"StormSlotsModel", "isSlot", "(I)Z"⟩, 22), (⟨"StormSlotsModel", "isFlight", "(I)Z"⟩, 22), (⟨"StormSlotsModel", "isPlanned", "(I)Z"⟩, 22), (⟨"StormSlotsModel", "earliest", "(I)I"⟩, 22), (⟨"StormSlotsModel", "isAir", "(I)Z"⟩, 22), (⟨"StormSlotsModel", "offOf", "(I)I"⟩, 22), (⟨"StormSlotsModel", "cost", "(I)I"⟩, 22)]
theorem lw_r3 : ∀ q ∈ lw_privs_3, lw_okq q := List.forall_mem_cons.mpr ⟨lw_p32, List.forall_mem_cons.mpr ⟨lw_p33, List.forall_mem_cons.mpr ⟨lw_p34, List.forall_mem_cons.mpr ⟨lw_p35, List.forall_mem_cons.mpr ⟨lw_p36, List.forall_mem_cons.mpr ⟨lw_p37, List.forall_mem_cons.mpr ⟨lw_p38, List.forall_mem_cons.mpr ⟨lw_p39, List.forall_mem_cons.mpr ⟨lw_p40, List.forall_mem_cons.mpr ⟨lw_p41, List.forall_mem_cons.mpr ⟨lw_p42, List.forall_mem_cons.mpr ⟨lw_p43, List.forall_mem_cons.mpr ⟨lw_p44, List.forall_mem_cons.mpr ⟨lw_p45, List.forall_mem_cons.mpr ⟨lw_p46, List.forall_mem_cons.mpr ⟨lw_p47, fun _ h => absurd h List.not_mem_nil⟩⟩⟩⟩⟩⟩⟩⟩⟩⟩⟩⟩⟩⟩⟩⟩
theorem lw_p48 : lw_okq (⟨"StormSlotsModel", "flightAt", "(I)I"⟩, 22) := ⟨⟨by decide +kernel, by decide +kernel⟩, List.mem_of_getElem? (i := 1100) (by decide +kernel), List.mem_of_getElem? (i := 1322) (by decide +kernel), List.mem_of_getElem? (i := 1323) (by decide +kernel)⟩
theorem lw_p49 : lw_okq (⟨"StormSlotsModel", "plansBy", "(I)V"⟩, 22) := ⟨⟨by decide +kernel, by decide +kernel⟩, List.mem_of_getElem? (i := 1100) (by decide +kernel), List.mem_of_getElem? (i := 1330) (by decide +kernel), List.mem_of_getElem? (i := 1331) (by decide +kernel)⟩
theorem lw_p50 : lw_okq (⟨"StormSlotsModel", "beginsPlan", "()V"⟩, 22) := ⟨⟨by decide +kernel, by decide +kernel⟩, List.mem_of_getElem? (i := 1100) (by decide +kernel), List.mem_of_getElem? (i := 1334) (by decide +kernel), List.mem_of_getElem? (i := 1335) (by decide +kernel)⟩
theorem lw_p51 : lw_okq (⟨"StormSlotsModel", "firstOf", "(III)I"⟩, 22) := ⟨⟨by decide +kernel, by decide +kernel⟩, List.mem_of_getElem? (i := 1100) (by decide +kernel), List.mem_of_getElem? (i := 1338) (by decide +kernel), List.mem_of_getElem? (i := 1339) (by decide +kernel)⟩
theorem lw_p52 : lw_okq (⟨"StormSlotsModel", "isAhead", "(III)Z"⟩, 22) := ⟨⟨by decide +kernel, by decide +kernel⟩, List.mem_of_getElem? (i := 1100) (by decide +kernel), List.mem_of_getElem? (i := 1342) (by decide +kernel), List.mem_of_getElem? (i := 1343) (by decide +kernel)⟩
theorem lw_p53 : lw_okq (⟨"StormSlotsModel", "takesFrom", "(I)I"⟩, 22) := ⟨⟨by decide +kernel, by decide +kernel⟩, List.mem_of_getElem? (i := 1100) (by decide +kernel), List.mem_of_getElem? (i := 1346) (by decide +kernel), List.mem_of_getElem? (i := 1347) (by decide +kernel)⟩
theorem lw_p54 : lw_okq (⟨"StormSlotsModel", "turns", "()V"⟩, 22) := ⟨⟨by decide +kernel, by decide +kernel⟩, List.mem_of_getElem? (i := 1100) (by decide +kernel), List.mem_of_getElem? (i := 1350) (by decide +kernel), List.mem_of_getElem? (i := 1351) (by decide +kernel)⟩
theorem lw_p55 : lw_okq (⟨"StormSlotsModel", "grounds", "(I)V"⟩, 22) := ⟨⟨by decide +kernel, by decide +kernel⟩, List.mem_of_getElem? (i := 1100) (by decide +kernel), List.mem_of_getElem? (i := 1354) (by decide +kernel), List.mem_of_getElem? (i := 1355) (by decide +kernel)⟩
theorem lw_p56 : lw_okq (⟨"StormSlotsModel", "gives", "(II)V"⟩, 22) := ⟨⟨by decide +kernel, by decide +kernel⟩, List.mem_of_getElem? (i := 1100) (by decide +kernel), List.mem_of_getElem? (i := 1358) (by decide +kernel), List.mem_of_getElem? (i := 1359) (by decide +kernel)⟩
theorem lw_p57 : lw_okq (⟨"StormSlotsModel", "waits", "(I)I"⟩, 22) := ⟨⟨by decide +kernel, by decide +kernel⟩, List.mem_of_getElem? (i := 1100) (by decide +kernel), List.mem_of_getElem? (i := 1362) (by decide +kernel), List.mem_of_getElem? (i := 1363) (by decide +kernel)⟩
theorem lw_p58 : lw_okq (⟨"StormSlotsModel", "revises", "()V"⟩, 22) := ⟨⟨by decide +kernel, by decide +kernel⟩, List.mem_of_getElem? (i := 1100) (by decide +kernel), List.mem_of_getElem? (i := 1370) (by decide +kernel), List.mem_of_getElem? (i := 1371) (by decide +kernel)⟩
theorem lw_p59 : lw_okq (⟨"StormSlotsModel", "cancels", "(I)V"⟩, 22) := ⟨⟨by decide +kernel, by decide +kernel⟩, List.mem_of_getElem? (i := 1100) (by decide +kernel), List.mem_of_getElem? (i := 1378) (by decide +kernel), List.mem_of_getElem? (i := 1379) (by decide +kernel)⟩
theorem lw_p60 : lw_okq (⟨"StormSlotsModel", "isGroundFlight", "(I)Z"⟩, 22) := ⟨⟨by decide +kernel, by decide +kernel⟩, List.mem_of_getElem? (i := 1100) (by decide +kernel), List.mem_of_getElem? (i := 1386) (by decide +kernel), List.mem_of_getElem? (i := 1387) (by decide +kernel)⟩
theorem lw_p61 : lw_okq (⟨"StormSlotsModel", "isGround", "(I)Z"⟩, 22) := ⟨⟨by decide +kernel, by decide +kernel⟩, List.mem_of_getElem? (i := 1100) (by decide +kernel), List.mem_of_getElem? (i := 1390) (by decide +kernel), List.mem_of_getElem? (i := 1391) (by decide +kernel)⟩
theorem lw_p62 : lw_okq (⟨"StormSlotsModel", "allCost", "()I"⟩, 22) := ⟨⟨by decide +kernel, by decide +kernel⟩, List.mem_of_getElem? (i := 1100) (by decide +kernel), List.mem_of_getElem? (i := 1395) (by decide +kernel), List.mem_of_getElem? (i := 1396) (by decide +kernel)⟩
theorem lw_p63 : lw_okq (⟨"StormSlotsModel", "swaps", "(II)V"⟩, 22) := ⟨⟨by decide +kernel, by decide +kernel⟩, List.mem_of_getElem? (i := 1100) (by decide +kernel), List.mem_of_getElem? (i := 1399) (by decide +kernel), List.mem_of_getElem? (i := 1400) (by decide +kernel)⟩
def lw_privs_4 : List (MethodName × Nat) := [(⟨"StormSlotsModel", "flightAt", "(I)I"⟩, 22), (⟨"StormSlotsModel", "plansBy", "(I)V"⟩, 22), (⟨"StormSlotsModel", "beginsPlan", "()V"⟩, 22), (⟨"StormSlotsModel", "firstOf", "(III)I"⟩, 22), (⟨"StormSlotsModel", "isAhead", "(III)Z"⟩, 22), (⟨"StormSlotsModel", "takesFrom", "(I)I"⟩, 22), (⟨"StormSlotsModel", "turns", "()V"⟩, 22), (⟨"StormSlotsModel", "grounds", "(I)V"⟩, 22), (⟨"StormSlotsModel", "gives", "(II)V"⟩, 22), (⟨"StormSlotsModel", "waits", "(I)I"⟩, 22), (⟨"StormSlotsModel", "revises", "()V"⟩, 22), (⟨"StormSlotsModel", "cancels", "(I)V"⟩, 22), (⟨"StormSlotsModel", "isGroundFlight", "(I)Z"⟩, 22), (⟨"StormSlotsModel", "isGround", "(I)Z"⟩, 22), (⟨"StormSlotsModel", "allCost", "()I"⟩, 22), (⟨"StormSlotsModel", "swaps", "(II)V"⟩, 22)]
theorem lw_r4 : ∀ q ∈ lw_privs_4, lw_okq q := List.forall_mem_cons.mpr ⟨lw_p48, List.forall_mem_cons.mpr ⟨lw_p49, List.forall_mem_cons.mpr ⟨lw_p50, List.forall_mem_cons.mpr ⟨lw_p51, List.forall_mem_cons.mpr ⟨lw_p52, List.forall_mem_cons.mpr ⟨lw_p53, List.forall_mem_cons.mpr ⟨lw_p54, List.forall_mem_cons.mpr ⟨lw_p55, List.forall_mem_cons.mpr ⟨lw_p56, List.forall_mem_cons.mpr ⟨lw_p57, List.forall_mem_cons.mpr ⟨lw_p58, List.forall_mem_cons.mpr ⟨lw_p59, List.forall_mem_cons.mpr ⟨lw_p60, List.forall_mem_cons.mpr ⟨lw_p61, List.forall_mem_cons.mpr ⟨lw_p62, List.forall_mem_cons.mpr ⟨lw_p63, fun _ h => absurd h List.not_mem_nil⟩⟩⟩⟩⟩⟩⟩⟩⟩⟩⟩⟩⟩⟩⟩⟩
theorem lw_p64 : lw_okq (⟨"StormSlotsModel", "fills", "()I"⟩, 22) := ⟨⟨by decide +kernel, by decide +kernel⟩, List.mem_of_getElem? (i := 1100) (by decide +kernel), List.mem_of_getElem? (i := 1411) (by decide +kernel), List.mem_of_getElem? (i := 1412) (by decide +kernel)⟩
theorem lw_p65 : lw_okq (⟨"StormSlotsModel", "fillerOf", "(II)I"⟩, 22) := ⟨⟨by decide +kernel, by decide +kernel⟩, List.mem_of_getElem? (i := 1100) (by decide +kernel), List.mem_of_getElem? (i := 1415) (by decide +kernel), List.mem_of_getElem? (i := 1416) (by decide +kernel)⟩
theorem lw_p66 : lw_okq (⟨"StormSlotsModel", "isOffer", "(I)Z"⟩, 22) := ⟨⟨by decide +kernel, by decide +kernel⟩, List.mem_of_getElem? (i := 1100) (by decide +kernel), List.mem_of_getElem? (i := 1427) (by decide +kernel), List.mem_of_getElem? (i := 1428) (by decide +kernel)⟩
theorem lw_p67 : lw_okq (⟨"StormSlotsModel", "asked", "(II)I"⟩, 22) := ⟨⟨by decide +kernel, by decide +kernel⟩, List.mem_of_getElem? (i := 1100) (by decide +kernel), List.mem_of_getElem? (i := 1439) (by decide +kernel), List.mem_of_getElem? (i := 1440) (by decide +kernel)⟩
theorem lw_p68 : lw_okq (⟨"StormSlotsModel", "canDeal", "(II)Z"⟩, 22) := ⟨⟨by decide +kernel, by decide +kernel⟩, List.mem_of_getElem? (i := 1100) (by decide +kernel), List.mem_of_getElem? (i := 1447) (by decide +kernel), List.mem_of_getElem? (i := 1448) (by decide +kernel)⟩
theorem lw_p69 : lw_okq (⟨"StormSlotsModel", "lineOf", "(I)I"⟩, 22) := ⟨⟨by decide +kernel, by decide +kernel⟩, List.mem_of_getElem? (i := 1100) (by decide +kernel), List.mem_of_getElem? (i := 1451) (by decide +kernel), List.mem_of_getElem? (i := 1452) (by decide +kernel)⟩
theorem lw_p70 : lw_okq (⟨"StormSlotsModel", "stillSo", "(I)Z"⟩, 22) := ⟨⟨by decide +kernel, by decide +kernel⟩, List.mem_of_getElem? (i := 1100) (by decide +kernel), List.mem_of_getElem? (i := 1455) (by decide +kernel), List.mem_of_getElem? (i := 1456) (by decide +kernel)⟩
theorem lw_p71 : lw_okq (⟨"StormSlotsModel", "canSwap", "(II)Z"⟩, 22) := ⟨⟨by decide +kernel, by decide +kernel⟩, List.mem_of_getElem? (i := 1100) (by decide +kernel), List.mem_of_getElem? (i := 1459) (by decide +kernel), List.mem_of_getElem? (i := 1460) (by decide +kernel)⟩
theorem lw_p72 : lw_okq (⟨"StormSlotsModel", "deals", "(II)I"⟩, 22) := ⟨⟨by decide +kernel, by decide +kernel⟩, List.mem_of_getElem? (i := 1100) (by decide +kernel), List.mem_of_getElem? (i := 1463) (by decide +kernel), List.mem_of_getElem? (i := 1464) (by decide +kernel)⟩
theorem lw_p73 : lw_okq (⟨"StormSlotsModel", "lays", "(I)V"⟩, 22) := ⟨⟨by decide +kernel, by decide +kernel⟩, List.mem_of_getElem? (i := 1100) (by decide +kernel), List.mem_of_getElem? (i := 1471) (by decide +kernel), List.mem_of_getElem? (i := 1472) (by decide +kernel)⟩
theorem lw_p74 : lw_okq (⟨"StormSlotsModel", "takes", "(I)V"⟩, 22) := ⟨⟨by decide +kernel, by decide +kernel⟩, List.mem_of_getElem? (i := 1100) (by decide +kernel), List.mem_of_getElem? (i := 1475) (by decide +kernel), List.mem_of_getElem? (i := 1476) (by decide +kernel)⟩
theorem lw_p75 : lw_okq (⟨"StormSlotsModel", "lineWaits", "(I)I"⟩, 22) := ⟨⟨by decide +kernel, by decide +kernel⟩, List.mem_of_getElem? (i := 1100) (by decide +kernel), List.mem_of_getElem? (i := 1487) (by decide +kernel), List.mem_of_getElem? (i := 1488) (by decide +kernel)⟩
theorem lw_p76 : lw_okq (⟨"StormSlotsModel", "lineCost", "(I)I"⟩, 22) := ⟨⟨by decide +kernel, by decide +kernel⟩, List.mem_of_getElem? (i := 1100) (by decide +kernel), List.mem_of_getElem? (i := 1491) (by decide +kernel), List.mem_of_getElem? (i := 1492) (by decide +kernel)⟩
theorem lw_p77 : lw_okq (⟨"StormSlotsModel", "keeps", "(I)I"⟩, 22) := ⟨⟨by decide +kernel, by decide +kernel⟩, List.mem_of_getElem? (i := 1100) (by decide +kernel), List.mem_of_getElem? (i := 1495) (by decide +kernel), List.mem_of_getElem? (i := 1496) (by decide +kernel)⟩
theorem lw_p78 : lw_okq (⟨"StormSlotsModel", "lineCounts", "(II)I"⟩, 22) := ⟨⟨by decide +kernel, by decide +kernel⟩, List.mem_of_getElem? (i := 1100) (by decide +kernel), List.mem_of_getElem? (i := 1499) (by decide +kernel), List.mem_of_getElem? (i := 1500) (by decide +kernel)⟩
theorem lw_p79 : lw_okq (⟨"StormSlotsModel", "orders", "(I)V"⟩, 22) := ⟨⟨by decide +kernel, by decide +kernel⟩, List.mem_of_getElem? (i := 1100) (by decide +kernel), List.mem_of_getElem? (i := 1507) (by decide +kernel), List.mem_of_getElem? (i := 1508) (by decide +kernel)⟩
def lw_privs_5 : List (MethodName × Nat) := [(⟨"StormSlotsModel", "fills", "()I"⟩, 22), (⟨"StormSlotsModel", "fillerOf", "(II)I"⟩, 22), (⟨"StormSlotsModel", "isOffer", "(I)Z"⟩, 22), (⟨"StormSlotsModel", "asked", "(II)I"⟩, 22), (⟨"StormSlotsModel", "canDeal", "(II)Z"⟩, 22), (⟨"StormSlotsModel", "lineOf", "(I)I"⟩, 22), (⟨"StormSlotsModel", "stillSo", "(I)Z"⟩, 22), (⟨"StormSlotsModel", "canSwap", "(II)Z"⟩, 22), (⟨"StormSlotsModel", "deals", "(II)I"⟩, 22), (⟨"StormSlotsModel", "lays", "(I)V"⟩, 22), (⟨"StormSlotsModel", "takes", "(I)V"⟩, 22), (⟨"StormSlotsModel", "lineWaits", "(I)I"⟩, 22), (⟨"StormSlotsModel", "lineCost", "(I)I"⟩, 22), (⟨"StormSlotsModel", "keeps", "(I)I"⟩, 22), (⟨"StormSlotsModel", "lineCounts", "(II)I"⟩, 22), (⟨"StormSlotsModel", "orders", "(I)V"⟩, 22)]
theorem lw_r5 : ∀ q ∈ lw_privs_5, lw_okq q := List.forall_mem_cons.mpr ⟨lw_p64, List.forall_mem_cons.mpr ⟨lw_p65, List.forall_mem_cons.mpr ⟨lw_p66, List.forall_mem_cons.mpr ⟨lw_p67, List.forall_mem_cons.mpr ⟨lw_p68, List.forall_mem_cons.mpr ⟨lw_p69, List.forall_mem_cons.mpr ⟨lw_p70, List.forall_mem_cons.mpr ⟨lw_p71, List.forall_mem_cons.mpr ⟨lw_p72, List.forall_mem_cons.mpr ⟨lw_p73, List.forall_mem_cons.mpr ⟨lw_p74, List.forall_mem_cons.mpr ⟨lw_p75, List.forall_mem_cons.mpr ⟨lw_p76, List.forall_mem_cons.mpr ⟨lw_p77, List.forall_mem_cons.mpr ⟨lw_p78, List.forall_mem_cons.mpr ⟨lw_p79, fun _ h => absurd h List.not_mem_nil⟩⟩⟩⟩⟩⟩⟩⟩⟩⟩⟩⟩⟩⟩⟩⟩
theorem lw_p80 : lw_okq (⟨"StormSlotsModel", "laysTraders", "(I)V"⟩, 22) := ⟨⟨by decide +kernel, by decide +kernel⟩, List.mem_of_getElem? (i := 1100) (by decide +kernel), List.mem_of_getElem? (i := 1511) (by decide +kernel), List.mem_of_getElem? (i := 1512) (by decide +kernel)⟩
theorem lw_p81 : lw_okq (⟨"StormSlotsModel", "rowCost", "()I"⟩, 22) := ⟨⟨by decide +kernel, by decide +kernel⟩, List.mem_of_getElem? (i := 1100) (by decide +kernel), List.mem_of_getElem? (i := 1515) (by decide +kernel), List.mem_of_getElem? (i := 1516) (by decide +kernel)⟩
theorem lw_p82 : lw_okq (⟨"StormSlotsModel", "goesOn", "()Z"⟩, 22) := ⟨⟨by decide +kernel, by decide +kernel⟩, List.mem_of_getElem? (i := 1100) (by decide +kernel), List.mem_of_getElem? (i := 1519) (by decide +kernel), List.mem_of_getElem? (i := 1520) (by decide +kernel)⟩
theorem lw_p83 : lw_okq (⟨"StormSlotsModel", "lineFlights", "(I)I"⟩, 22) := ⟨⟨by decide +kernel, by decide +kernel⟩, List.mem_of_getElem? (i := 1100) (by decide +kernel), List.mem_of_getElem? (i := 1539) (by decide +kernel), List.mem_of_getElem? (i := 1540) (by decide +kernel)⟩
theorem lw_p84 : lw_okq (⟨"StormSlotsModel", "waitsMore", "(II)Z"⟩, 22) := ⟨⟨by decide +kernel, by decide +kernel⟩, List.mem_of_getElem? (i := 1100) (by decide +kernel), List.mem_of_getElem? (i := 1543) (by decide +kernel), List.mem_of_getElem? (i := 1544) (by decide +kernel)⟩
theorem lw_p85 : lw_okq (⟨"StormSlotsModel", "unfairNow", "()I"⟩, 22) := ⟨⟨by decide +kernel, by decide +kernel⟩, List.mem_of_getElem? (i := 1100) (by decide +kernel), List.mem_of_getElem? (i := 1551) (by decide +kernel), List.mem_of_getElem? (i := 1552) (by decide +kernel)⟩
theorem lw_p86 : lw_okq (⟨"StormSlotsModel", "lacks", "(I)I"⟩, 22) := ⟨⟨by decide +kernel, by decide +kernel⟩, List.mem_of_getElem? (i := 1100) (by decide +kernel), List.mem_of_getElem? (i := 1563) (by decide +kernel), List.mem_of_getElem? (i := 1564) (by decide +kernel)⟩
theorem lw_p87 : lw_okq (⟨"StormSlotsModel", "broken", "()I"⟩, 22) := ⟨⟨by decide +kernel, by decide +kernel⟩, List.mem_of_getElem? (i := 1100) (by decide +kernel), List.mem_of_getElem? (i := 1571) (by decide +kernel), List.mem_of_getElem? (i := 1572) (by decide +kernel)⟩
theorem lw_p88 : lw_okq (⟨"StormSlotsModel", "allOf", "(I)I"⟩, 22) := ⟨⟨by decide +kernel, by decide +kernel⟩, List.mem_of_getElem? (i := 1100) (by decide +kernel), List.mem_of_getElem? (i := 1583) (by decide +kernel), List.mem_of_getElem? (i := 1584) (by decide +kernel)⟩
theorem lw_p89 : lw_okq (⟨"StormSlotsModel", "longest", "()I"⟩, 22) := ⟨⟨by decide +kernel, by decide +kernel⟩, List.mem_of_getElem? (i := 1100) (by decide +kernel), List.mem_of_getElem? (i := 1587) (by decide +kernel), List.mem_of_getElem? (i := 1588) (by decide +kernel)⟩
theorem lw_p90 : lw_okq (⟨"StormSlotsModel", "isUnderWay", "(II)Z"⟩, 22) := ⟨⟨by decide +kernel, by decide +kernel⟩, List.mem_of_getElem? (i := 1100) (by decide +kernel), List.mem_of_getElem? (i := 1599) (by decide +kernel), List.mem_of_getElem? (i := 1600) (by decide +kernel)⟩
theorem lw_p91 : lw_okq (⟨"StormSlotsModel", "rates", "(III)V"⟩, 22) := ⟨⟨by decide +kernel, by decide +kernel⟩, List.mem_of_getElem? (i := 1100) (by decide +kernel), List.mem_of_getElem? (i := 1615) (by decide +kernel), List.mem_of_getElem? (i := 1616) (by decide +kernel)⟩
theorem lw_p92 : lw_okq (⟨"StormSlotsModel", "lastSlot", "()I"⟩, 22) := ⟨⟨by decide +kernel, by decide +kernel⟩, List.mem_of_getElem? (i := 1100) (by decide +kernel), List.mem_of_getElem? (i := 1619) (by decide +kernel), List.mem_of_getElem? (i := 1620) (by decide +kernel)⟩
def lw_privs_6 : List (MethodName × Nat) := [(⟨"StormSlotsModel", "laysTraders", "(I)V"⟩, 22), (⟨"StormSlotsModel", "rowCost", "()I"⟩, 22), (⟨"StormSlotsModel", "goesOn", "()Z"⟩, 22), (⟨"StormSlotsModel", "lineFlights", "(I)I"⟩, 22), (⟨"StormSlotsModel", "waitsMore", "(II)Z"⟩, 22), (⟨"StormSlotsModel", "unfairNow", "()I"⟩, 22), (⟨"StormSlotsModel", "lacks", "(I)I"⟩, 22), (⟨"StormSlotsModel", "broken", "()I"⟩, 22), (⟨"StormSlotsModel", "allOf", "(I)I"⟩, 22), (⟨"StormSlotsModel", "longest", "()I"⟩, 22), (⟨"StormSlotsModel", "isUnderWay", "(II)Z"⟩, 22), (⟨"StormSlotsModel", "rates", "(III)V"⟩, 22), (⟨"StormSlotsModel", "lastSlot", "()I"⟩, 22)]
theorem lw_r6 : ∀ q ∈ lw_privs_6, lw_okq q := List.forall_mem_cons.mpr ⟨lw_p80, List.forall_mem_cons.mpr ⟨lw_p81, List.forall_mem_cons.mpr ⟨lw_p82, List.forall_mem_cons.mpr ⟨lw_p83, List.forall_mem_cons.mpr ⟨lw_p84, List.forall_mem_cons.mpr ⟨lw_p85, List.forall_mem_cons.mpr ⟨lw_p86, List.forall_mem_cons.mpr ⟨lw_p87, List.forall_mem_cons.mpr ⟨lw_p88, List.forall_mem_cons.mpr ⟨lw_p89, List.forall_mem_cons.mpr ⟨lw_p90, List.forall_mem_cons.mpr ⟨lw_p91, List.forall_mem_cons.mpr ⟨lw_p92, fun _ h => absurd h List.not_mem_nil⟩⟩⟩⟩⟩⟩⟩⟩⟩⟩⟩⟩⟩
def lw_privs : List (MethodName × Nat) := lw_privs_1 ++ (lw_privs_2 ++ (lw_privs_3 ++ (lw_privs_4 ++ (lw_privs_5 ++ (lw_privs_6)))))
def lw_tbl : List Cond := k2_sels lw_privs ++ tables_1
theorem lw_privs_ok : ∀ q ∈ lw_privs, lw_okq q := by
  show ∀ q ∈ lw_privs_1 ++ (lw_privs_2 ++ (lw_privs_3 ++ (lw_privs_4 ++ (lw_privs_5 ++ (lw_privs_6))))), lw_okq q
  exact List.forall_mem_append.mpr ⟨lw_r1, List.forall_mem_append.mpr ⟨lw_r2, List.forall_mem_append.mpr ⟨lw_r3, List.forall_mem_append.mpr ⟨lw_r4, List.forall_mem_append.mpr ⟨lw_r5, lw_r6⟩⟩⟩⟩⟩
def RX0 : String := "StormSlots$Bytes"
def TX0 : u_T := fun k => match k with
  | 0 => ("StormSlots$Bytes", "bytes", "[B", true)
  | _ => ("StormSlots$Bytes", "size", "I", false)
def tyX0 : Nat → FieldType := fun k => match k with
  | 0 => .array .byte
  | _ => .int
abbrev wsX00 : List Cond := u_ws RX0 TX0 2
theorem nmX0 : ∀ a, a < 2 → ∀ b, b < 2 → a ≠ b → (TX0 a).2.1 ≠ (TX0 b).2.1 := by decide +kernel
theorem tyX0_ok : ∀ k, k < 2 → parseFieldDescriptor (TX0 k).2.2.1 = some (tyX0 k) := by decide +kernel
abbrev cX0_init : ByteArray := prog_2_method_1_code
def yX0_init : MethodName := ⟨RX0, "<init>", "()V"⟩
abbrev cX0_append : ByteArray := prog_2_method_2_code
def yX0_append : MethodName := ⟨RX0, "append", "(I)V"⟩
abbrev cX0_appendFour : ByteArray := prog_2_method_3_code
def yX0_appendFour : MethodName := ⟨RX0, "appendFour", "(I)V"⟩
abbrev cX0_appendNumber : ByteArray := prog_2_method_4_code
def yX0_appendNumber : MethodName := ⟨RX0, "appendNumber", "(I)V"⟩
abbrev cX0_byteAt : ByteArray := prog_2_method_5_code
def yX0_byteAt : MethodName := ⟨RX0, "byteAt", "(I)I"⟩
def RX1 : String := "StormSlots$Dice"
def TX1 : u_T := fun k => match k with
  | _ => ("StormSlots$Dice", "x", "I", false)
def tyX1 : Nat → FieldType := fun k => match k with
  | _ => .int
abbrev wsX10 : List Cond := u_ws RX1 TX1 1
theorem nmX1 : ∀ a, a < 1 → ∀ b, b < 1 → a ≠ b → (TX1 a).2.1 ≠ (TX1 b).2.1 := by decide +kernel
theorem tyX1_ok : ∀ k, k < 1 → parseFieldDescriptor (TX1 k).2.2.1 = some (tyX1 k) := by decide +kernel
abbrev cX1_init : ByteArray := prog_3_method_1_code
def yX1_init : MethodName := ⟨RX1, "<init>", "()V"⟩
abbrev cX1_start : ByteArray := prog_3_method_2_code
def yX1_start : MethodName := ⟨RX1, "start", "(I)V"⟩
abbrev cX1_roll : ByteArray := prog_3_method_3_code
def yX1_roll : MethodName := ⟨RX1, "roll", "(I)I"⟩
def RX2 : String := "StormSlots$Field"
def TX2 : u_T := fun k => match k with
  | 0 => ("StormSlots$Field", "roster", "LStormSlots$Roster;", true)
  | 1 => ("StormSlots$Field", "rates", "LStormSlots$Rates;", true)
  | 2 => ("StormSlots$Field", "vacancies", "LStormSlots$Vacancies;", true)
  | 3 => ("StormSlots$Field", "offers", "LStormSlots$Offers;", true)
  | 4 => ("StormSlots$Field", "links", "LStormSlots$Links;", true)
  | 5 => ("StormSlots$Field", "seat", "[I", true)
  | 6 => ("StormSlots$Field", "hold", "[I", true)
  | 7 => ("StormSlots$Field", "circles", "[I", true)
  | 8 => ("StormSlots$Field", "cancelledBits", "I", false)
  | 9 => ("StormSlots$Field", "clock", "I", false)
  | _ => ("StormSlots$Field", "planned", "Z", false)
def tyX2 : Nat → FieldType := fun k => match k with
  | 0 => .object "StormSlots$Roster"
  | 1 => .object "StormSlots$Rates"
  | 2 => .object "StormSlots$Vacancies"
  | 3 => .object "StormSlots$Offers"
  | 4 => .object "StormSlots$Links"
  | 5 => .array .int
  | 6 => .array .int
  | 7 => .array .int
  | 8 => .int
  | 9 => .int
  | _ => .boolean
abbrev wsX20 : List Cond := u_ws RX2 TX2 11
theorem nmX2 : ∀ a, a < 11 → ∀ b, b < 11 → a ≠ b → (TX2 a).2.1 ≠ (TX2 b).2.1 := by decide +kernel
theorem tyX2_ok : ∀ k, k < 11 → parseFieldDescriptor (TX2 k).2.2.1 = some (tyX2 k) := by decide +kernel
abbrev cX2_init : ByteArray := prog_4_method_1_code
def yX2_init : MethodName := ⟨RX2, "<init>", "()V"⟩
abbrev cX2_copyFrom : ByteArray := prog_4_method_2_code
def yX2_copyFrom : MethodName := ⟨RX2, "copyFrom", "(LStormSlots$Field;)V"⟩
abbrev cX2_takeRoster : ByteArray := prog_4_method_3_code
def yX2_takeRoster : MethodName := ⟨RX2, "takeRoster", "(LStormSlots$Roster;)V"⟩
abbrev cX2_clearPlan : ByteArray := prog_4_method_4_code
def yX2_clearPlan : MethodName := ⟨RX2, "clearPlan", "()V"⟩
abbrev cX2_clearMarket : ByteArray := prog_4_method_5_code
def yX2_clearMarket : MethodName := ⟨RX2, "clearMarket", "()V"⟩
abbrev cX2_clearFlight : ByteArray := prog_4_method_6_code
def yX2_clearFlight : MethodName := ⟨RX2, "clearFlight", "(I)V"⟩
abbrev cX2_isFlight : ByteArray := prog_4_method_7_code
def yX2_isFlight : MethodName := ⟨RX2, "isFlight", "(I)Z"⟩
abbrev cX2_isOf : ByteArray := prog_4_method_8_code
def yX2_isOf : MethodName := ⟨RX2, "isOf", "(II)Z"⟩
abbrev cX2_off : ByteArray := prog_4_method_9_code
def yX2_off : MethodName := ⟨RX2, "off", "(I)I"⟩
abbrev cX2_goesOff : ByteArray := prog_4_method_10_code
def yX2_goesOff : MethodName := ⟨RX2, "goesOff", "(I)I"⟩
abbrev cX2_earliest : ByteArray := prog_4_method_11_code
def yX2_earliest : MethodName := ⟨RX2, "earliest", "(I)I"⟩
abbrev cX2_isSeated : ByteArray := prog_4_method_12_code
def yX2_isSeated : MethodName := ⟨RX2, "isSeated", "(I)Z"⟩
abbrev cX2_isCancelled : ByteArray := prog_4_method_13_code
def yX2_isCancelled : MethodName := ⟨RX2, "isCancelled", "(I)Z"⟩
abbrev cX2_isAloft : ByteArray := prog_4_method_14_code
def yX2_isAloft : MethodName := ⟨RX2, "isAloft", "(I)Z"⟩
abbrev cX2_isGrounded : ByteArray := prog_4_method_15_code
def yX2_isGrounded : MethodName := ⟨RX2, "isGrounded", "(I)Z"⟩
abbrev cX2_waitOf : ByteArray := prog_4_method_16_code
def yX2_waitOf : MethodName := ⟨RX2, "waitOf", "(I)I"⟩
abbrev cX2_costOf : ByteArray := prog_4_method_17_code
def yX2_costOf : MethodName := ⟨RX2, "costOf", "(I)I"⟩
abbrev cX2_costOnGround : ByteArray := prog_4_method_18_code
def yX2_costOnGround : MethodName := ⟨RX2, "costOnGround", "(II)I"⟩
abbrev cX2_seatOnGround : ByteArray := prog_4_method_19_code
def yX2_seatOnGround : MethodName := ⟨RX2, "seatOnGround", "(II)V"⟩
abbrev cX2_seatInAir : ByteArray := prog_4_method_20_code
def yX2_seatInAir : MethodName := ⟨RX2, "seatInAir", "(II)V"⟩
abbrev cX2_flightIn : ByteArray := prog_4_method_21_code
def yX2_flightIn : MethodName := ⟨RX2, "flightIn", "(I)I"⟩
abbrev cX2_callOff : ByteArray := prog_4_method_22_code
def yX2_callOff : MethodName := ⟨RX2, "callOff", "(I)I"⟩
abbrev cX2_canSwap : ByteArray := prog_4_method_23_code
def yX2_canSwap : MethodName := ⟨RX2, "canSwap", "(II)Z"⟩
abbrev cX2_swap : ByteArray := prog_4_method_24_code
def yX2_swap : MethodName := ⟨RX2, "swap", "(II)V"⟩
abbrev cX2_takeVacancy : ByteArray := prog_4_method_25_code
def yX2_takeVacancy : MethodName := ⟨RX2, "takeVacancy", "(II)I"⟩
abbrev cX2_fillVacancies : ByteArray := prog_4_method_26_code
def yX2_fillVacancies : MethodName := ⟨RX2, "fillVacancies", "()I"⟩
abbrev cX2_fillFirst : ByteArray := prog_4_method_27_code
def yX2_fillFirst : MethodName := ⟨RX2, "fillFirst", "()Z"⟩
abbrev cX2_fillerOf : ByteArray := prog_4_method_28_code
def yX2_fillerOf : MethodName := ⟨RX2, "fillerOf", "(II)I"⟩
abbrev cX2_earlierSeated : ByteArray := prog_4_method_29_code
def yX2_earlierSeated : MethodName := ⟨RX2, "earlierSeated", "(II)I"⟩
abbrev cX2_canDeal : ByteArray := prog_4_method_30_code
def yX2_canDeal : MethodName := ⟨RX2, "canDeal", "(II)Z"⟩
abbrev cX2_dealGain : ByteArray := prog_4_method_31_code
def yX2_dealGain : MethodName := ⟨RX2, "dealGain", "(II)I"⟩
abbrev cX2_canRound : ByteArray := prog_4_method_32_code
def yX2_canRound : MethodName := ⟨RX2, "canRound", "(III)Z"⟩
abbrev cX2_haveUnlikeLines : ByteArray := prog_4_method_33_code
def yX2_haveUnlikeLines : MethodName := ⟨RX2, "haveUnlikeLines", "(II)Z"⟩
abbrev cX2_canTrade : ByteArray := prog_4_method_34_code
def yX2_canTrade : MethodName := ⟨RX2, "canTrade", "(II)Z"⟩
abbrev cX2_tradeGain : ByteArray := prog_4_method_35_code
def yX2_tradeGain : MethodName := ⟨RX2, "tradeGain", "(II)I"⟩
abbrev cX2_trade : ByteArray := prog_4_method_36_code
def yX2_trade : MethodName := ⟨RX2, "trade", "(II)V"⟩
abbrev cX2_flightsOf : ByteArray := prog_4_method_37_code
def yX2_flightsOf : MethodName := ⟨RX2, "flightsOf", "(I)I"⟩
abbrev cX2_seatedOf : ByteArray := prog_4_method_38_code
def yX2_seatedOf : MethodName := ⟨RX2, "seatedOf", "(I)I"⟩
abbrev cX2_cancelledOf : ByteArray := prog_4_method_39_code
def yX2_cancelledOf : MethodName := ⟨RX2, "cancelledOf", "(I)I"⟩
abbrev cX2_aloftOf : ByteArray := prog_4_method_40_code
def yX2_aloftOf : MethodName := ⟨RX2, "aloftOf", "(I)I"⟩
abbrev cX2_waitsOf : ByteArray := prog_4_method_41_code
def yX2_waitsOf : MethodName := ⟨RX2, "waitsOf", "(I)I"⟩
abbrev cX2_longestWaitOf : ByteArray := prog_4_method_42_code
def yX2_longestWaitOf : MethodName := ⟨RX2, "longestWaitOf", "(I)I"⟩
abbrev cX2_lineCost : ByteArray := prog_4_method_43_code
def yX2_lineCost : MethodName := ⟨RX2, "lineCost", "(I)I"⟩
abbrev cX2_linesAhead : ByteArray := prog_4_method_44_code
def yX2_linesAhead : MethodName := ⟨RX2, "linesAhead", "(I)I"⟩
abbrev cX2_unfairness : ByteArray := prog_4_method_45_code
def yX2_unfairness : MethodName := ⟨RX2, "unfairness", "()I"⟩
abbrev cX2_lackOf : ByteArray := prog_4_method_46_code
def yX2_lackOf : MethodName := ⟨RX2, "lackOf", "(I)I"⟩
abbrev cX2_countBroken : ByteArray := prog_4_method_47_code
def yX2_countBroken : MethodName := ⟨RX2, "countBroken", "()I"⟩
abbrev cX2_countWaiting : ByteArray := prog_4_method_48_code
def yX2_countWaiting : MethodName := ⟨RX2, "countWaiting", "()I"⟩
abbrev cX2_countCancelled : ByteArray := prog_4_method_49_code
def yX2_countCancelled : MethodName := ⟨RX2, "countCancelled", "()I"⟩
abbrev cX2_totalHold : ByteArray := prog_4_method_50_code
def yX2_totalHold : MethodName := ⟨RX2, "totalHold", "()I"⟩
abbrev cX2_totalCircles : ByteArray := prog_4_method_51_code
def yX2_totalCircles : MethodName := ⟨RX2, "totalCircles", "()I"⟩
abbrev cX2_totalCost : ByteArray := prog_4_method_52_code
def yX2_totalCost : MethodName := ⟨RX2, "totalCost", "()I"⟩
abbrev cX2_longestWait : ByteArray := prog_4_method_53_code
def yX2_longestWait : MethodName := ⟨RX2, "longestWait", "()I"⟩
abbrev cX2_lastSlot : ByteArray := prog_4_method_54_code
def yX2_lastSlot : MethodName := ⟨RX2, "lastSlot", "()I"⟩
abbrev cX2_dueIn : ByteArray := prog_4_method_55_code
def yX2_dueIn : MethodName := ⟨RX2, "dueIn", "(I)I"⟩
abbrev cX2_seatedIn : ByteArray := prog_4_method_56_code
def yX2_seatedIn : MethodName := ⟨RX2, "seatedIn", "(I)I"⟩
abbrev cX2_underWay : ByteArray := prog_4_method_57_code
def yX2_underWay : MethodName := ⟨RX2, "underWay", "(I)I"⟩
abbrev cX2_landsNext : ByteArray := prog_4_method_58_code
def yX2_landsNext : MethodName := ⟨RX2, "landsNext", "(I)I"⟩
def RX3 : String := "StormSlots$Links"
def TX3 : u_T := fun k => match k with
  | 0 => ("StormSlots$Links", "from", "[I", true)
  | 1 => ("StormSlots$Links", "onto", "[I", true)
  | 2 => ("StormSlots$Links", "gap", "[I", true)
  | _ => ("StormSlots$Links", "size", "I", false)
def tyX3 : Nat → FieldType := fun k => match k with
  | 0 => .array .int
  | 1 => .array .int
  | 2 => .array .int
  | _ => .int
abbrev wsX30 : List Cond := u_ws RX3 TX3 4
theorem nmX3 : ∀ a, a < 4 → ∀ b, b < 4 → a ≠ b → (TX3 a).2.1 ≠ (TX3 b).2.1 := by decide +kernel
theorem tyX3_ok : ∀ k, k < 4 → parseFieldDescriptor (TX3 k).2.2.1 = some (tyX3 k) := by decide +kernel
abbrev cX3_init : ByteArray := prog_5_method_1_code
def yX3_init : MethodName := ⟨RX3, "<init>", "()V"⟩
abbrev cX3_has : ByteArray := prog_5_method_2_code
def yX3_has : MethodName := ⟨RX3, "has", "(I)Z"⟩
abbrev cX3_add : ByteArray := prog_5_method_3_code
def yX3_add : MethodName := ⟨RX3, "add", "(III)I"⟩
abbrev cX3_copyFrom : ByteArray := prog_5_method_4_code
def yX3_copyFrom : MethodName := ⟨RX3, "copyFrom", "(LStormSlots$Links;)V"⟩
def RX4 : String := "StormSlots$Offers"
def TX4 : u_T := fun k => match k with
  | 0 => ("StormSlots$Offers", "down", "[I", true)
  | 1 => ("StormSlots$Offers", "downTo", "[I", true)
  | 2 => ("StormSlots$Offers", "up", "[I", true)
  | 3 => ("StormSlots$Offers", "upTo", "[I", true)
  | _ => ("StormSlots$Offers", "made", "I", false)
def tyX4 : Nat → FieldType := fun k => match k with
  | 0 => .array .int
  | 1 => .array .int
  | 2 => .array .int
  | 3 => .array .int
  | _ => .int
abbrev wsX40 : List Cond := u_ws RX4 TX4 5
theorem nmX4 : ∀ a, a < 5 → ∀ b, b < 5 → a ≠ b → (TX4 a).2.1 ≠ (TX4 b).2.1 := by decide +kernel
theorem tyX4_ok : ∀ k, k < 5 → parseFieldDescriptor (TX4 k).2.2.1 = some (tyX4 k) := by decide +kernel
abbrev cX4_init : ByteArray := prog_6_method_1_code
def yX4_init : MethodName := ⟨RX4, "<init>", "()V"⟩
abbrev cX4_has : ByteArray := prog_6_method_2_code
def yX4_has : MethodName := ⟨RX4, "has", "(I)Z"⟩
abbrev cX4_lowestFree : ByteArray := prog_6_method_3_code
def yX4_lowestFree : MethodName := ⟨RX4, "lowestFree", "()I"⟩
abbrev cX4_countMade : ByteArray := prog_6_method_4_code
def yX4_countMade : MethodName := ⟨RX4, "countMade", "()I"⟩
abbrev cX4_put : ByteArray := prog_6_method_5_code
def yX4_put : MethodName := ⟨RX4, "put", "(IIIII)V"⟩
abbrev cX4_drop : ByteArray := prog_6_method_6_code
def yX4_drop : MethodName := ⟨RX4, "drop", "(I)V"⟩
abbrev cX4_dropAll : ByteArray := prog_6_method_7_code
def yX4_dropAll : MethodName := ⟨RX4, "dropAll", "()V"⟩
abbrev cX4_copyFrom : ByteArray := prog_6_method_8_code
def yX4_copyFrom : MethodName := ⟨RX4, "copyFrom", "(LStormSlots$Offers;)V"⟩
def RX5 : String := "StormSlots$OrderSearch"
def TX5 : u_T := fun k => match k with
  | 0 => ("StormSlots$OrderSearch", "flights", "[I", true)
  | 1 => ("StormSlots$OrderSearch", "best", "[I", true)
  | 2 => ("StormSlots$OrderSearch", "size", "I", false)
  | 3 => ("StormSlots$OrderSearch", "minutes", "[I", true)
  | 4 => ("StormSlots$OrderSearch", "row", "[I", true)
  | 5 => ("StormSlots$OrderSearch", "used", "I", false)
  | 6 => ("StormSlots$OrderSearch", "costNow", "I", false)
  | _ => ("StormSlots$OrderSearch", "least", "I", false)
def tyX5 : Nat → FieldType := fun k => match k with
  | 0 => .array .int
  | 1 => .array .int
  | 2 => .int
  | 3 => .array .int
  | 4 => .array .int
  | 5 => .int
  | 6 => .int
  | _ => .int
abbrev wsX50 : List Cond := u_ws RX5 TX5 8
theorem nmX5 : ∀ a, a < 8 → ∀ b, b < 8 → a ≠ b → (TX5 a).2.1 ≠ (TX5 b).2.1 := by decide +kernel
theorem tyX5_ok : ∀ k, k < 8 → parseFieldDescriptor (TX5 k).2.2.1 = some (tyX5 k) := by decide +kernel
abbrev cX5_init : ByteArray := prog_7_method_1_code
def yX5_init : MethodName := ⟨RX5, "<init>", "()V"⟩
abbrev cX5_solve : ByteArray := prog_7_method_2_code
def yX5_solve : MethodName := ⟨RX5, "solve", "(LStormSlots$Field;I)V"⟩
abbrev cX5_gain : ByteArray := prog_7_method_3_code
def yX5_gain : MethodName := ⟨RX5, "gain", "()I"⟩
abbrev cX5_minuteFor : ByteArray := prog_7_method_4_code
def yX5_minuteFor : MethodName := ⟨RX5, "minuteFor", "(I)I"⟩
abbrev cX5_gather : ByteArray := prog_7_method_5_code
def yX5_gather : MethodName := ⟨RX5, "gather", "(LStormSlots$Field;I)V"⟩
abbrev cX5_lay : ByteArray := prog_7_method_6_code
def yX5_lay : MethodName := ⟨RX5, "lay", "(LStormSlots$OrderSearch;LStormSlots$Field;II)V"⟩
def RX6 : String := "StormSlots$Planner"
def TX6 : u_T := fun k => match k with
  | 0 => ("StormSlots$Planner", "queue", "[I", true)
  | 1 => ("StormSlots$Planner", "queued", "I", false)
  | 2 => ("StormSlots$Planner", "marks", "[I", true)
  | _ => ("StormSlots$Planner", "mark", "I", false)
def tyX6 : Nat → FieldType := fun k => match k with
  | 0 => .array .int
  | 1 => .int
  | 2 => .array .int
  | _ => .int
abbrev wsX60 : List Cond := u_ws RX6 TX6 4
theorem nmX6 : ∀ a, a < 4 → ∀ b, b < 4 → a ≠ b → (TX6 a).2.1 ≠ (TX6 b).2.1 := by decide +kernel
theorem tyX6_ok : ∀ k, k < 4 → parseFieldDescriptor (TX6 k).2.2.1 = some (tyX6 k) := by decide +kernel
abbrev cX6_init : ByteArray := prog_8_method_1_code
def yX6_init : MethodName := ⟨RX6, "<init>", "()V"⟩
abbrev cX6_planAnew : ByteArray := prog_8_method_2_code
def yX6_planAnew : MethodName := ⟨RX6, "planAnew", "(LStormSlots$Field;I)V"⟩
abbrev cX6_planOn : ByteArray := prog_8_method_3_code
def yX6_planOn : MethodName := ⟨RX6, "planOn", "(LStormSlots$Field;)I"⟩
abbrev cX6_enqueue : ByteArray := prog_8_method_4_code
def yX6_enqueue : MethodName := ⟨RX6, "enqueue", "(II)V"⟩
abbrev cX6_seatAirborne : ByteArray := prog_8_method_5_code
def yX6_seatAirborne : MethodName := ⟨RX6, "seatAirborne", "(LStormSlots$Field;I)I"⟩
abbrev cX6_seatGrounded : ByteArray := prog_8_method_6_code
def yX6_seatGrounded : MethodName := ⟨RX6, "seatGrounded", "(LStormSlots$Field;)I"⟩
abbrev cX6_keyOf : ByteArray := prog_8_method_7_code
def yX6_keyOf : MethodName := ⟨RX6, "keyOf", "(LStormSlots$Field;II)I"⟩
abbrev cX6_turnOf : ByteArray := prog_8_method_8_code
def yX6_turnOf : MethodName := ⟨RX6, "turnOf", "(LStormSlots$Field;I)I"⟩
abbrev cX6_takeFirst : ByteArray := prog_8_method_9_code
def yX6_takeFirst : MethodName := ⟨RX6, "takeFirst", "(LStormSlots$Rates;I)I"⟩
abbrev cX6_firstFree : ByteArray := prog_8_method_10_code
def yX6_firstFree : MethodName := ⟨RX6, "firstFree", "(LStormSlots$Rates;I)I"⟩
abbrev cX6_isFree : ByteArray := prog_8_method_11_code
def yX6_isFree : MethodName := ⟨RX6, "isFree", "(I)Z"⟩
abbrev cX6_take : ByteArray := prog_8_method_12_code
def yX6_take : MethodName := ⟨RX6, "take", "(I)V"⟩
def RX7 : String := "StormSlots$Rates"
def TX7 : u_T := fun k => match k with
  | _ => ("StormSlots$Rates", "rate", "[I", true)
def tyX7 : Nat → FieldType := fun k => match k with
  | _ => .array .int
abbrev wsX70 : List Cond := u_ws RX7 TX7 1
theorem nmX7 : ∀ a, a < 1 → ∀ b, b < 1 → a ≠ b → (TX7 a).2.1 ≠ (TX7 b).2.1 := by decide +kernel
theorem tyX7_ok : ∀ k, k < 1 → parseFieldDescriptor (TX7 k).2.2.1 = some (tyX7 k) := by decide +kernel
abbrev cX7_init : ByteArray := prog_9_method_1_code
def yX7_init : MethodName := ⟨RX7, "<init>", "()V"⟩
abbrev cX7_of : ByteArray := prog_9_method_2_code
def yX7_of : MethodName := ⟨RX7, "of", "(I)I"⟩
abbrev cX7_put : ByteArray := prog_9_method_3_code
def yX7_put : MethodName := ⟨RX7, "put", "(II)V"⟩
abbrev cX7_putAll : ByteArray := prog_9_method_4_code
def yX7_putAll : MethodName := ⟨RX7, "putAll", "(III)V"⟩
abbrev cX7_minuteOf : ByteArray := prog_9_method_5_code
def yX7_minuteOf : MethodName := ⟨RX7, "minuteOf", "(III)I"⟩
abbrev cX7_countSlots : ByteArray := prog_9_method_6_code
def yX7_countSlots : MethodName := ⟨RX7, "countSlots", "()I"⟩
abbrev cX7_slotMinute : ByteArray := prog_9_method_7_code
def yX7_slotMinute : MethodName := ⟨RX7, "slotMinute", "(I)I"⟩
abbrev cX7_hasSlot : ByteArray := prog_9_method_8_code
def yX7_hasSlot : MethodName := ⟨RX7, "hasSlot", "(I)Z"⟩
abbrev cX7_copyFrom : ByteArray := prog_9_method_9_code
def yX7_copyFrom : MethodName := ⟨RX7, "copyFrom", "(LStormSlots$Rates;)V"⟩
def RX8 : String := "StormSlots$Reader"
def TX8 : u_T := fun k => match k with
  | 0 => ("StormSlots$Reader", "end", "I", false)
  | 1 => ("StormSlots$Reader", "place", "I", false)
  | _ => ("StormSlots$Reader", "fault", "I", false)
def tyX8 : Nat → FieldType := fun k => match k with
  | 0 => .int
  | 1 => .int
  | _ => .int
abbrev wsX80 : List Cond := u_ws RX8 TX8 3
theorem nmX8 : ∀ a, a < 3 → ∀ b, b < 3 → a ≠ b → (TX8 a).2.1 ≠ (TX8 b).2.1 := by decide +kernel
theorem tyX8_ok : ∀ k, k < 3 → parseFieldDescriptor (TX8 k).2.2.1 = some (tyX8 k) := by decide +kernel
abbrev cX8_init : ByteArray := prog_10_method_1_code
def yX8_init : MethodName := ⟨RX8, "<init>", "()V"⟩
abbrev cX8_read : ByteArray := prog_10_method_2_code
def yX8_read : MethodName := ⟨RX8, "read", "(LStormSlots$Bytes;ILStormSlots$Roster;)I"⟩
abbrev cX8_readFlight : ByteArray := prog_10_method_3_code
def yX8_readFlight : MethodName := ⟨RX8, "readFlight", "(LStormSlots$Bytes;LStormSlots$Roster;)V"⟩
abbrev cX8_readLetter : ByteArray := prog_10_method_4_code
def yX8_readLetter : MethodName := ⟨RX8, "readLetter", "(LStormSlots$Bytes;Z)I"⟩
abbrev cX8_readNumber : ByteArray := prog_10_method_5_code
def yX8_readNumber : MethodName := ⟨RX8, "readNumber", "(LStormSlots$Bytes;I)I"⟩
abbrev cX8_readWeight : ByteArray := prog_10_method_6_code
def yX8_readWeight : MethodName := ⟨RX8, "readWeight", "(LStormSlots$Bytes;)I"⟩
abbrev cX8_expect : ByteArray := prog_10_method_7_code
def yX8_expect : MethodName := ⟨RX8, "expect", "(LStormSlots$Bytes;I)V"⟩
abbrev cX8_skipBlanks : ByteArray := prog_10_method_8_code
def yX8_skipBlanks : MethodName := ⟨RX8, "skipBlanks", "(LStormSlots$Bytes;)V"⟩
abbrev cX8_peek : ByteArray := prog_10_method_9_code
def yX8_peek : MethodName := ⟨RX8, "peek", "(LStormSlots$Bytes;)I"⟩
abbrev cX8_fail : ByteArray := prog_10_method_10_code
def yX8_fail : MethodName := ⟨RX8, "fail", "(II)V"⟩
abbrev cX8_isDigit : ByteArray := prog_10_method_11_code
def yX8_isDigit : MethodName := ⟨RX8, "isDigit", "(I)Z"⟩
def RX9 : String := "StormSlots$Roster"
def TX9 : u_T := fun k => match k with
  | 0 => ("StormSlots$Roster", "line", "[I", true)
  | 1 => ("StormSlots$Roster", "eta", "[I", true)
  | 2 => ("StormSlots$Roster", "time", "[I", true)
  | 3 => ("StormSlots$Roster", "weight", "[I", true)
  | _ => ("StormSlots$Roster", "size", "I", false)
def tyX9 : Nat → FieldType := fun k => match k with
  | 0 => .array .int
  | 1 => .array .int
  | 2 => .array .int
  | 3 => .array .int
  | _ => .int
abbrev wsX90 : List Cond := u_ws RX9 TX9 5
theorem nmX9 : ∀ a, a < 5 → ∀ b, b < 5 → a ≠ b → (TX9 a).2.1 ≠ (TX9 b).2.1 := by decide +kernel
theorem tyX9_ok : ∀ k, k < 5 → parseFieldDescriptor (TX9 k).2.2.1 = some (tyX9 k) := by decide +kernel
abbrev cX9_init : ByteArray := prog_11_method_1_code
def yX9_init : MethodName := ⟨RX9, "<init>", "()V"⟩
abbrev cX9_isFull : ByteArray := prog_11_method_2_code
def yX9_isFull : MethodName := ⟨RX9, "isFull", "()Z"⟩
abbrev cX9_add : ByteArray := prog_11_method_3_code
def yX9_add : MethodName := ⟨RX9, "add", "(IIII)I"⟩
abbrev cX9_sameLine : ByteArray := prog_11_method_4_code
def yX9_sameLine : MethodName := ⟨RX9, "sameLine", "(II)Z"⟩
abbrev cX9_has : ByteArray := prog_11_method_5_code
def yX9_has : MethodName := ⟨RX9, "has", "(I)Z"⟩
abbrev cX9_writeTo : ByteArray := prog_11_method_6_code
def yX9_writeTo : MethodName := ⟨RX9, "writeTo", "(LStormSlots$Bytes;)V"⟩
abbrev cX9_copyFrom : ByteArray := prog_11_method_7_code
def yX9_copyFrom : MethodName := ⟨RX9, "copyFrom", "(LStormSlots$Roster;)V"⟩
def RX10 : String := "StormSlots$Vacancies"
def TX10 : u_T := fun k => match k with
  | 0 => ("StormSlots$Vacancies", "minute", "[I", true)
  | 1 => ("StormSlots$Vacancies", "keeper", "[I", true)
  | _ => ("StormSlots$Vacancies", "size", "I", false)
def tyX10 : Nat → FieldType := fun k => match k with
  | 0 => .array .int
  | 1 => .array .int
  | _ => .int
abbrev wsX100 : List Cond := u_ws RX10 TX10 3
theorem nmX10 : ∀ a, a < 3 → ∀ b, b < 3 → a ≠ b → (TX10 a).2.1 ≠ (TX10 b).2.1 := by decide +kernel
theorem tyX10_ok : ∀ k, k < 3 → parseFieldDescriptor (TX10 k).2.2.1 = some (tyX10 k) := by decide +kernel
abbrev cX10_init : ByteArray := prog_12_method_1_code
def yX10_init : MethodName := ⟨RX10, "<init>", "()V"⟩
abbrev cX10_minuteOf : ByteArray := prog_12_method_2_code
def yX10_minuteOf : MethodName := ⟨RX10, "minuteOf", "(I)I"⟩
abbrev cX10_keeperOf : ByteArray := prog_12_method_3_code
def yX10_keeperOf : MethodName := ⟨RX10, "keeperOf", "(I)I"⟩
abbrev cX10_find : ByteArray := prog_12_method_4_code
def yX10_find : MethodName := ⟨RX10, "find", "(I)I"⟩
abbrev cX10_keptBy : ByteArray := prog_12_method_5_code
def yX10_keptBy : MethodName := ⟨RX10, "keptBy", "(I)I"⟩
abbrev cX10_add : ByteArray := prog_12_method_6_code
def yX10_add : MethodName := ⟨RX10, "add", "(II)V"⟩
abbrev cX10_removeAt : ByteArray := prog_12_method_7_code
def yX10_removeAt : MethodName := ⟨RX10, "removeAt", "(I)V"⟩
abbrev cX10_copyFrom : ByteArray := prog_12_method_8_code
def yX10_copyFrom : MethodName := ⟨RX10, "copyFrom", "(LStormSlots$Vacancies;)V"⟩
abbrev cX10_has : ByteArray := prog_12_method_9_code
def yX10_has : MethodName := ⟨RX10, "has", "(I)Z"⟩
def RX11 : String := "StormSlots"
def TX11 : u_T := fun k => match k with
  | 0 => ("StormSlots", "tape", "LStormSlots$Bytes;", true)
  | 1 => ("StormSlots", "text", "LStormSlots$Bytes;", true)
  | 2 => ("StormSlots", "reader", "LStormSlots$Reader;", true)
  | 3 => ("StormSlots", "dice", "LStormSlots$Dice;", true)
  | 4 => ("StormSlots", "fresh", "LStormSlots$Roster;", true)
  | 5 => ("StormSlots", "planner", "LStormSlots$Planner;", true)
  | 6 => ("StormSlots", "search", "LStormSlots$OrderSearch;", true)
  | 7 => ("StormSlots", "field", "LStormSlots$Field;", true)
  | 8 => ("StormSlots", "trial", "LStormSlots$Field;", true)
  | 9 => ("StormSlots", "kept", "[LStormSlots$Field;", true)
  | _ => ("StormSlots", "keptStates", "I", false)
def tyX11 : Nat → FieldType := fun k => match k with
  | 0 => .object "StormSlots$Bytes"
  | 1 => .object "StormSlots$Bytes"
  | 2 => .object "StormSlots$Reader"
  | 3 => .object "StormSlots$Dice"
  | 4 => .object "StormSlots$Roster"
  | 5 => .object "StormSlots$Planner"
  | 6 => .object "StormSlots$OrderSearch"
  | 7 => .object "StormSlots$Field"
  | 8 => .object "StormSlots$Field"
  | 9 => .array (.object "StormSlots$Field")
  | _ => .int
abbrev wsX110 : List Cond := u_ws RX11 TX11 11
theorem nmX11 : ∀ a, a < 11 → ∀ b, b < 11 → a ≠ b → (TX11 a).2.1 ≠ (TX11 b).2.1 := by decide +kernel
theorem tyX11_ok : ∀ k, k < 11 → parseFieldDescriptor (TX11 k).2.2.1 = some (tyX11 k) := by decide +kernel
abbrev cX11_init : ByteArray := prog_1_method_1_code
def yX11_init : MethodName := ⟨RX11, "<init>", "()V"⟩
abbrev cX11_feed : ByteArray := prog_1_method_2_code
def yX11_feed : MethodName := ⟨RX11, "feed", "(IIIII)I"⟩
abbrev cX11_schedule : ByteArray := prog_1_method_3_code
def yX11_schedule : MethodName := ⟨RX11, "schedule", "(I)I"⟩
abbrev cX11_flight : ByteArray := prog_1_method_4_code
def yX11_flight : MethodName := ⟨RX11, "flight", "(IIII)I"⟩
abbrev cX11_draws : ByteArray := prog_1_method_5_code
def yX11_draws : MethodName := ⟨RX11, "draws", "(II)I"⟩
abbrev cX11_letter : ByteArray := prog_1_method_6_code
def yX11_letter : MethodName := ⟨RX11, "letter", "(I)I"⟩
abbrev cX11_rate : ByteArray := prog_1_method_7_code
def yX11_rate : MethodName := ⟨RX11, "rate", "(II)I"⟩
abbrev cX11_storm : ByteArray := prog_1_method_8_code
def yX11_storm : MethodName := ⟨RX11, "storm", "(IIII)I"⟩
abbrev cX11_now : ByteArray := prog_1_method_9_code
def yX11_now : MethodName := ⟨RX11, "now", "(I)Z"⟩
abbrev cX11_told : ByteArray := prog_1_method_10_code
def yX11_told : MethodName := ⟨RX11, "told", "(II)I"⟩
abbrev cX11_slot : ByteArray := prog_1_method_11_code
def yX11_slot : MethodName := ⟨RX11, "slot", "(I)I"⟩
abbrev cX11_at : ByteArray := prog_1_method_12_code
def yX11_at : MethodName := ⟨RX11, "at", "(I)I"⟩
abbrev cX11_plan : ByteArray := prog_1_method_13_code
def yX11_plan : MethodName := ⟨RX11, "plan", "()I"⟩
abbrev cX11_revise : ByteArray := prog_1_method_14_code
def yX11_revise : MethodName := ⟨RX11, "revise", "()I"⟩
abbrev cX11_cancel : ByteArray := prog_1_method_15_code
def yX11_cancel : MethodName := ⟨RX11, "cancel", "(I)I"⟩
abbrev cX11_exchange : ByteArray := prog_1_method_16_code
def yX11_exchange : MethodName := ⟨RX11, "exchange", "(II)I"⟩
abbrev cX11_move : ByteArray := prog_1_method_17_code
def yX11_move : MethodName := ⟨RX11, "move", "(II)I"⟩
abbrev cX11_fill : ByteArray := prog_1_method_18_code
def yX11_fill : MethodName := ⟨RX11, "fill", "()I"⟩
abbrev cX11_vacant : ByteArray := prog_1_method_19_code
def yX11_vacant : MethodName := ⟨RX11, "vacant", "(II)I"⟩
abbrev cX11_offer : ByteArray := prog_1_method_20_code
def yX11_offer : MethodName := ⟨RX11, "offer", "(IIII)I"⟩
abbrev cX11_withdraw : ByteArray := prog_1_method_21_code
def yX11_withdraw : MethodName := ⟨RX11, "withdraw", "(I)Z"⟩
abbrev cX11_offered : ByteArray := prog_1_method_22_code
def yX11_offered : MethodName := ⟨RX11, "offered", "(II)I"⟩
abbrev cX11_deal : ByteArray := prog_1_method_23_code
def yX11_deal : MethodName := ⟨RX11, "deal", "(II)I"⟩
abbrev cX11_bestDeal : ByteArray := prog_1_method_24_code
def yX11_bestDeal : MethodName := ⟨RX11, "bestDeal", "(I)I"⟩
abbrev cX11_line : ByteArray := prog_1_method_25_code
def yX11_line : MethodName := ⟨RX11, "line", "(II)I"⟩
abbrev cX11_bestOrder : ByteArray := prog_1_method_26_code
def yX11_bestOrder : MethodName := ⟨RX11, "bestOrder", "(II)I"⟩
abbrev cX11_order : ByteArray := prog_1_method_27_code
def yX11_order : MethodName := ⟨RX11, "order", "(I)I"⟩
abbrev cX11_bestCancel : ByteArray := prog_1_method_28_code
def yX11_bestCancel : MethodName := ⟨RX11, "bestCancel", "(II)I"⟩
abbrev cX11_helps : ByteArray := prog_1_method_29_code
def yX11_helps : MethodName := ⟨RX11, "helps", "(II)I"⟩
abbrev cX11_rank : ByteArray := prog_1_method_30_code
def yX11_rank : MethodName := ⟨RX11, "rank", "(I)I"⟩
abbrev cX11_unfair : ByteArray := prog_1_method_31_code
def yX11_unfair : MethodName := ⟨RX11, "unfair", "()I"⟩
abbrev cX11_link : ByteArray := prog_1_method_32_code
def yX11_link : MethodName := ⟨RX11, "link", "(III)I"⟩
abbrev cX11_linked : ByteArray := prog_1_method_33_code
def yX11_linked : MethodName := ⟨RX11, "linked", "(II)I"⟩
abbrev cX11_breaks : ByteArray := prog_1_method_34_code
def yX11_breaks : MethodName := ⟨RX11, "breaks", "(II)I"⟩
abbrev cX11_round : ByteArray := prog_1_method_35_code
def yX11_round : MethodName := ⟨RX11, "round", "(III)I"⟩
abbrev cX11_cancelAll : ByteArray := prog_1_method_36_code
def yX11_cancelAll : MethodName := ⟨RX11, "cancelAll", "(I)I"⟩
abbrev cX11_byRule : ByteArray := prog_1_method_37_code
def yX11_byRule : MethodName := ⟨RX11, "byRule", "(II)I"⟩
abbrev cX11_demand : ByteArray := prog_1_method_38_code
def yX11_demand : MethodName := ⟨RX11, "demand", "(II)I"⟩
abbrev cX11_crowded : ByteArray := prog_1_method_39_code
def yX11_crowded : MethodName := ⟨RX11, "crowded", "(I)I"⟩
abbrev cX11_would : ByteArray := prog_1_method_40_code
def yX11_would : MethodName := ⟨RX11, "would", "(IIII)I"⟩
abbrev cX11_rateFor : ByteArray := prog_1_method_41_code
def yX11_rateFor : MethodName := ⟨RX11, "rateFor", "(III)I"⟩
abbrev cX11_ifCut : ByteArray := prog_1_method_42_code
def yX11_ifCut : MethodName := ⟨RX11, "ifCut", "(II)I"⟩
abbrev cX11_airborne : ByteArray := prog_1_method_43_code
def yX11_airborne : MethodName := ⟨RX11, "airborne", "(I)I"⟩
abbrev cX11_next : ByteArray := prog_1_method_44_code
def yX11_next : MethodName := ⟨RX11, "next", "(I)I"⟩
abbrev cX11_count : ByteArray := prog_1_method_45_code
def yX11_count : MethodName := ⟨RX11, "count", "(I)I"⟩
abbrev cX11_keep : ByteArray := prog_1_method_46_code
def yX11_keep : MethodName := ⟨RX11, "keep", "()I"⟩
abbrev cX11_undo : ByteArray := prog_1_method_47_code
def yX11_undo : MethodName := ⟨RX11, "undo", "()I"⟩
abbrev cX11_tryCancel : ByteArray := prog_1_method_48_code
def yX11_tryCancel : MethodName := ⟨RX11, "tryCancel", "(I)V"⟩
abbrev cX11_isLine : ByteArray := prog_1_method_49_code
def yX11_isLine : MethodName := ⟨RX11, "isLine", "(I)Z"⟩
abbrev cX11_isHour : ByteArray := prog_1_method_50_code
def yX11_isHour : MethodName := ⟨RX11, "isHour", "(I)Z"⟩
abbrev cX11_areHours : ByteArray := prog_1_method_51_code
def yX11_areHours : MethodName := ⟨RX11, "areHours", "(II)Z"⟩
abbrev cX11_isRate : ByteArray := prog_1_method_52_code
def yX11_isRate : MethodName := ⟨RX11, "isRate", "(I)Z"⟩
abbrev cX11_isDayMinute : ByteArray := prog_1_method_53_code
def yX11_isDayMinute : MethodName := ⟨RX11, "isDayMinute", "(I)Z"⟩
abbrev cX11_isMinute : ByteArray := prog_1_method_54_code
def yX11_isMinute : MethodName := ⟨RX11, "isMinute", "(I)Z"⟩
def RX12 : String := "StormSlotsModel"
def TX12 : u_T := fun k => match k with
  | 0 => ("StormSlotsModel", "s", "[I", true)
  | 1 => ("StormSlotsModel", "rows", "[I", true)
  | 2 => ("StormSlotsModel", "tape", "[B", true)
  | 3 => ("StormSlotsModel", "taped", "I", false)
  | 4 => ("StormSlotsModel", "place", "I", false)
  | 5 => ("StormSlotsModel", "textLong", "I", false)
  | 6 => ("StormSlotsModel", "fault", "I", false)
  | 7 => ("StormSlotsModel", "number", "I", false)
  | 8 => ("StormSlotsModel", "read", "[I", true)
  | 9 => ("StormSlotsModel", "drawn", "I", false)
  | 10 => ("StormSlotsModel", "written", "I", false)
  | 11 => ("StormSlotsModel", "wanted", "I", false)
  | 12 => ("StormSlotsModel", "found", "I", false)
  | 13 => ("StormSlotsModel", "isUsed", "[Z", true)
  | 14 => ("StormSlotsModel", "isDone", "[Z", true)
  | 15 => ("StormSlotsModel", "was", "[I", true)
  | 16 => ("StormSlotsModel", "trader", "[I", true)
  | 17 => ("StormSlotsModel", "minutes", "[I", true)
  | 18 => ("StormSlotsModel", "has", "[I", true)
  | 19 => ("StormSlotsModel", "bestRow", "[I", true)
  | 20 => ("StormSlotsModel", "traders", "I", false)
  | _ => ("StormSlotsModel", "states", "I", false)
def tyX12 : Nat → FieldType := fun k => match k with
  | 0 => .array .int
  | 1 => .array .int
  | 2 => .array .byte
  | 3 => .int
  | 4 => .int
  | 5 => .int
  | 6 => .int
  | 7 => .int
  | 8 => .array .int
  | 9 => .int
  | 10 => .int
  | 11 => .int
  | 12 => .int
  | 13 => .array .boolean
  | 14 => .array .boolean
  | 15 => .array .int
  | 16 => .array .int
  | 17 => .array .int
  | 18 => .array .int
  | 19 => .array .int
  | 20 => .int
  | _ => .int
abbrev wsX120 : List Cond := u_ws RX12 TX12 22
theorem nmX12 : ∀ a, a < 22 → ∀ b, b < 22 → a ≠ b → (TX12 a).2.1 ≠ (TX12 b).2.1 := by decide +kernel
theorem tyX12_ok : ∀ k, k < 22 → parseFieldDescriptor (TX12 k).2.2.1 = some (tyX12 k) := by decide +kernel
abbrev cX12_init : ByteArray := prog_14_method_1_code
def yX12_init : MethodName := ⟨RX12, "<init>", "()V"⟩
abbrev cX12_in : ByteArray := prog_14_method_2_code
def yX12_in : MethodName := ⟨RX12, "in", "(III)Z"⟩
abbrev cX12_more : ByteArray := prog_14_method_3_code
def yX12_more : MethodName := ⟨RX12, "more", "(II)I"⟩
abbrev cX12_lays : ByteArray := prog_14_method_4_code
def yX12_lays : MethodName := ⟨RX12, "lays", "(I)V"⟩
abbrev cX12_takes : ByteArray := prog_14_method_5_code
def yX12_takes : MethodName := ⟨RX12, "takes", "(I)V"⟩
abbrev cX12_of : ByteArray := prog_14_method_6_code
def yX12_of : MethodName := ⟨RX12, "of", "(II)I"⟩
abbrev cX12_sets : ByteArray := prog_14_method_7_code
def yX12_sets : MethodName := ⟨RX12, "sets", "(III)V"⟩
abbrev cX12_isFlight : ByteArray := prog_14_method_8_code
def yX12_isFlight : MethodName := ⟨RX12, "isFlight", "(I)Z"⟩
abbrev cX12_isLine : ByteArray := prog_14_method_9_code
def yX12_isLine : MethodName := ⟨RX12, "isLine", "(I)Z"⟩
abbrev cX12_isMinute : ByteArray := prog_14_method_10_code
def yX12_isMinute : MethodName := ⟨RX12, "isMinute", "(I)Z"⟩
abbrev cX12_areHours : ByteArray := prog_14_method_11_code
def yX12_areHours : MethodName := ⟨RX12, "areHours", "(II)Z"⟩
abbrev cX12_typed4 : ByteArray := prog_14_method_12_code
def yX12_typed4 : MethodName := ⟨RX12, "typed4", "(I)V"⟩
abbrev cX12_feed : ByteArray := prog_14_method_13_code
def yX12_feed : MethodName := ⟨RX12, "feed", "(IIIII)I"⟩
abbrev cX12_see : ByteArray := prog_14_method_14_code
def yX12_see : MethodName := ⟨RX12, "see", "()I"⟩
abbrev cX12_wrong : ByteArray := prog_14_method_15_code
def yX12_wrong : MethodName := ⟨RX12, "wrong", "(II)Z"⟩
abbrev cX12_passes : ByteArray := prog_14_method_16_code
def yX12_passes : MethodName := ⟨RX12, "passes", "(I)Z"⟩
abbrev cX12_isDigit : ByteArray := prog_14_method_17_code
def yX12_isDigit : MethodName := ⟨RX12, "isDigit", "(I)Z"⟩
abbrev cX12_counts : ByteArray := prog_14_method_18_code
def yX12_counts : MethodName := ⟨RX12, "counts", "(III)Z"⟩
abbrev cX12_readsFlight : ByteArray := prog_14_method_19_code
def yX12_readsFlight : MethodName := ⟨RX12, "readsFlight", "(I)V"⟩
abbrev cX12_clears : ByteArray := prog_14_method_20_code
def yX12_clears : MethodName := ⟨RX12, "clears", "()V"⟩
abbrev cX12_clearsPlan : ByteArray := prog_14_method_21_code
def yX12_clearsPlan : MethodName := ⟨RX12, "clearsPlan", "()V"⟩
abbrev cX12_adds : ByteArray := prog_14_method_22_code
def yX12_adds : MethodName := ⟨RX12, "adds", "(IIII)V"⟩
abbrev cX12_schedule : ByteArray := prog_14_method_23_code
def yX12_schedule : MethodName := ⟨RX12, "schedule", "(I)I"⟩
abbrev cX12_flight : ByteArray := prog_14_method_24_code
def yX12_flight : MethodName := ⟨RX12, "flight", "(IIII)I"⟩
abbrev cX12_draw : ByteArray := prog_14_method_25_code
def yX12_draw : MethodName := ⟨RX12, "draw", "(I)I"⟩
abbrev cX12_draws : ByteArray := prog_14_method_26_code
def yX12_draws : MethodName := ⟨RX12, "draws", "(II)I"⟩
abbrev cX12_writes : ByteArray := prog_14_method_27_code
def yX12_writes : MethodName := ⟨RX12, "writes", "(I)V"⟩
abbrev cX12_writesNumber : ByteArray := prog_14_method_28_code
def yX12_writesNumber : MethodName := ⟨RX12, "writesNumber", "(I)V"⟩
abbrev cX12_letter : ByteArray := prog_14_method_29_code
def yX12_letter : MethodName := ⟨RX12, "letter", "(I)I"⟩
abbrev cX12_rate : ByteArray := prog_14_method_30_code
def yX12_rate : MethodName := ⟨RX12, "rate", "(II)I"⟩
abbrev cX12_storm : ByteArray := prog_14_method_31_code
def yX12_storm : MethodName := ⟨RX12, "storm", "(IIII)I"⟩
abbrev cX12_now : ByteArray := prog_14_method_32_code
def yX12_now : MethodName := ⟨RX12, "now", "(I)Z"⟩
abbrev cX12_isSlot : ByteArray := prog_14_method_33_code
def yX12_isSlot : MethodName := ⟨RX12, "isSlot", "(I)Z"⟩
abbrev cX12_slot : ByteArray := prog_14_method_34_code
def yX12_slot : MethodName := ⟨RX12, "slot", "(I)I"⟩
abbrev cX12_isPlanned : ByteArray := prog_14_method_35_code
def yX12_isPlanned : MethodName := ⟨RX12, "isPlanned", "(I)Z"⟩
abbrev cX12_offOf : ByteArray := prog_14_method_36_code
def yX12_offOf : MethodName := ⟨RX12, "offOf", "(I)I"⟩
abbrev cX12_earliest : ByteArray := prog_14_method_37_code
def yX12_earliest : MethodName := ⟨RX12, "earliest", "(I)I"⟩
abbrev cX12_isAir : ByteArray := prog_14_method_38_code
def yX12_isAir : MethodName := ⟨RX12, "isAir", "(I)Z"⟩
abbrev cX12_isGround : ByteArray := prog_14_method_39_code
def yX12_isGround : MethodName := ⟨RX12, "isGround", "(I)Z"⟩
abbrev cX12_waits : ByteArray := prog_14_method_40_code
def yX12_waits : MethodName := ⟨RX12, "waits", "(I)I"⟩
abbrev cX12_cost : ByteArray := prog_14_method_41_code
def yX12_cost : MethodName := ⟨RX12, "cost", "(I)I"⟩
abbrev cX12_gives : ByteArray := prog_14_method_42_code
def yX12_gives : MethodName := ⟨RX12, "gives", "(II)V"⟩
abbrev cX12_told : ByteArray := prog_14_method_43_code
def yX12_told : MethodName := ⟨RX12, "told", "(II)I"⟩
abbrev cX12_flightAt : ByteArray := prog_14_method_44_code
def yX12_flightAt : MethodName := ⟨RX12, "flightAt", "(I)I"⟩
abbrev cX12_at : ByteArray := prog_14_method_45_code
def yX12_at : MethodName := ⟨RX12, "at", "(I)I"⟩
abbrev cX12_beginsPlan : ByteArray := prog_14_method_46_code
def yX12_beginsPlan : MethodName := ⟨RX12, "beginsPlan", "()V"⟩
abbrev cX12_takesFrom : ByteArray := prog_14_method_47_code
def yX12_takesFrom : MethodName := ⟨RX12, "takesFrom", "(I)I"⟩
abbrev cX12_isAhead : ByteArray := prog_14_method_48_code
def yX12_isAhead : MethodName := ⟨RX12, "isAhead", "(III)Z"⟩
abbrev cX12_firstOf : ByteArray := prog_14_method_49_code
def yX12_firstOf : MethodName := ⟨RX12, "firstOf", "(III)I"⟩
abbrev cX12_grounds : ByteArray := prog_14_method_50_code
def yX12_grounds : MethodName := ⟨RX12, "grounds", "(I)V"⟩
abbrev cX12_turns : ByteArray := prog_14_method_51_code
def yX12_turns : MethodName := ⟨RX12, "turns", "()V"⟩
abbrev cX12_plansBy : ByteArray := prog_14_method_52_code
def yX12_plansBy : MethodName := ⟨RX12, "plansBy", "(I)V"⟩
abbrev cX12_plan : ByteArray := prog_14_method_53_code
def yX12_plan : MethodName := ⟨RX12, "plan", "()I"⟩
abbrev cX12_revises : ByteArray := prog_14_method_54_code
def yX12_revises : MethodName := ⟨RX12, "revises", "()V"⟩
abbrev cX12_revise : ByteArray := prog_14_method_55_code
def yX12_revise : MethodName := ⟨RX12, "revise", "()I"⟩
abbrev cX12_cancels : ByteArray := prog_14_method_56_code
def yX12_cancels : MethodName := ⟨RX12, "cancels", "(I)V"⟩
abbrev cX12_cancel : ByteArray := prog_14_method_57_code
def yX12_cancel : MethodName := ⟨RX12, "cancel", "(I)I"⟩
abbrev cX12_lineCost : ByteArray := prog_14_method_58_code
def yX12_lineCost : MethodName := ⟨RX12, "lineCost", "(I)I"⟩
abbrev cX12_allCost : ByteArray := prog_14_method_59_code
def yX12_allCost : MethodName := ⟨RX12, "allCost", "()I"⟩
abbrev cX12_swaps : ByteArray := prog_14_method_60_code
def yX12_swaps : MethodName := ⟨RX12, "swaps", "(II)V"⟩
abbrev cX12_isGroundFlight : ByteArray := prog_14_method_61_code
def yX12_isGroundFlight : MethodName := ⟨RX12, "isGroundFlight", "(I)Z"⟩
abbrev cX12_exchange : ByteArray := prog_14_method_62_code
def yX12_exchange : MethodName := ⟨RX12, "exchange", "(II)I"⟩
abbrev cX12_move : ByteArray := prog_14_method_63_code
def yX12_move : MethodName := ⟨RX12, "move", "(II)I"⟩
abbrev cX12_fillerOf : ByteArray := prog_14_method_64_code
def yX12_fillerOf : MethodName := ⟨RX12, "fillerOf", "(II)I"⟩
abbrev cX12_fills : ByteArray := prog_14_method_65_code
def yX12_fills : MethodName := ⟨RX12, "fills", "()I"⟩
abbrev cX12_fill : ByteArray := prog_14_method_66_code
def yX12_fill : MethodName := ⟨RX12, "fill", "()I"⟩
abbrev cX12_vacant : ByteArray := prog_14_method_67_code
def yX12_vacant : MethodName := ⟨RX12, "vacant", "(II)I"⟩
abbrev cX12_isOffer : ByteArray := prog_14_method_68_code
def yX12_isOffer : MethodName := ⟨RX12, "isOffer", "(I)Z"⟩
abbrev cX12_offer : ByteArray := prog_14_method_69_code
def yX12_offer : MethodName := ⟨RX12, "offer", "(IIII)I"⟩
abbrev cX12_withdraw : ByteArray := prog_14_method_70_code
def yX12_withdraw : MethodName := ⟨RX12, "withdraw", "(I)Z"⟩
abbrev cX12_offered : ByteArray := prog_14_method_71_code
def yX12_offered : MethodName := ⟨RX12, "offered", "(II)I"⟩
abbrev cX12_asked : ByteArray := prog_14_method_72_code
def yX12_asked : MethodName := ⟨RX12, "asked", "(II)I"⟩
abbrev cX12_stillSo : ByteArray := prog_14_method_73_code
def yX12_stillSo : MethodName := ⟨RX12, "stillSo", "(I)Z"⟩
abbrev cX12_canSwap : ByteArray := prog_14_method_74_code
def yX12_canSwap : MethodName := ⟨RX12, "canSwap", "(II)Z"⟩
abbrev cX12_lineOf : ByteArray := prog_14_method_75_code
def yX12_lineOf : MethodName := ⟨RX12, "lineOf", "(I)I"⟩
abbrev cX12_canDeal : ByteArray := prog_14_method_76_code
def yX12_canDeal : MethodName := ⟨RX12, "canDeal", "(II)Z"⟩
abbrev cX12_deals : ByteArray := prog_14_method_77_code
def yX12_deals : MethodName := ⟨RX12, "deals", "(II)I"⟩
abbrev cX12_deal : ByteArray := prog_14_method_78_code
def yX12_deal : MethodName := ⟨RX12, "deal", "(II)I"⟩
abbrev cX12_bestDeal : ByteArray := prog_14_method_79_code
def yX12_bestDeal : MethodName := ⟨RX12, "bestDeal", "(I)I"⟩
abbrev cX12_round : ByteArray := prog_14_method_80_code
def yX12_round : MethodName := ⟨RX12, "round", "(III)I"⟩
abbrev cX12_lineWaits : ByteArray := prog_14_method_81_code
def yX12_lineWaits : MethodName := ⟨RX12, "lineWaits", "(I)I"⟩
abbrev cX12_lineFlights : ByteArray := prog_14_method_82_code
def yX12_lineFlights : MethodName := ⟨RX12, "lineFlights", "(I)I"⟩
abbrev cX12_lineCounts : ByteArray := prog_14_method_83_code
def yX12_lineCounts : MethodName := ⟨RX12, "lineCounts", "(II)I"⟩
abbrev cX12_keeps : ByteArray := prog_14_method_84_code
def yX12_keeps : MethodName := ⟨RX12, "keeps", "(I)I"⟩
abbrev cX12_line : ByteArray := prog_14_method_85_code
def yX12_line : MethodName := ⟨RX12, "line", "(II)I"⟩
abbrev cX12_laysTraders : ByteArray := prog_14_method_86_code
def yX12_laysTraders : MethodName := ⟨RX12, "laysTraders", "(I)V"⟩
abbrev cX12_goesOn : ByteArray := prog_14_method_87_code
def yX12_goesOn : MethodName := ⟨RX12, "goesOn", "()Z"⟩
abbrev cX12_rowCost : ByteArray := prog_14_method_88_code
def yX12_rowCost : MethodName := ⟨RX12, "rowCost", "()I"⟩
abbrev cX12_orders : ByteArray := prog_14_method_89_code
def yX12_orders : MethodName := ⟨RX12, "orders", "(I)V"⟩
abbrev cX12_bestOrder : ByteArray := prog_14_method_90_code
def yX12_bestOrder : MethodName := ⟨RX12, "bestOrder", "(II)I"⟩
abbrev cX12_order : ByteArray := prog_14_method_91_code
def yX12_order : MethodName := ⟨RX12, "order", "(I)I"⟩
abbrev cX12_bestCancel : ByteArray := prog_14_method_92_code
def yX12_bestCancel : MethodName := ⟨RX12, "bestCancel", "(II)I"⟩
abbrev cX12_helps : ByteArray := prog_14_method_93_code
def yX12_helps : MethodName := ⟨RX12, "helps", "(II)I"⟩
abbrev cX12_waitsMore : ByteArray := prog_14_method_94_code
def yX12_waitsMore : MethodName := ⟨RX12, "waitsMore", "(II)Z"⟩
abbrev cX12_rank : ByteArray := prog_14_method_95_code
def yX12_rank : MethodName := ⟨RX12, "rank", "(I)I"⟩
abbrev cX12_unfairNow : ByteArray := prog_14_method_96_code
def yX12_unfairNow : MethodName := ⟨RX12, "unfairNow", "()I"⟩
abbrev cX12_unfair : ByteArray := prog_14_method_97_code
def yX12_unfair : MethodName := ⟨RX12, "unfair", "()I"⟩
abbrev cX12_link : ByteArray := prog_14_method_98_code
def yX12_link : MethodName := ⟨RX12, "link", "(III)I"⟩
abbrev cX12_lacks : ByteArray := prog_14_method_99_code
def yX12_lacks : MethodName := ⟨RX12, "lacks", "(I)I"⟩
abbrev cX12_broken : ByteArray := prog_14_method_100_code
def yX12_broken : MethodName := ⟨RX12, "broken", "()I"⟩
abbrev cX12_linked : ByteArray := prog_14_method_101_code
def yX12_linked : MethodName := ⟨RX12, "linked", "(II)I"⟩
abbrev cX12_breaks : ByteArray := prog_14_method_102_code
def yX12_breaks : MethodName := ⟨RX12, "breaks", "(II)I"⟩
abbrev cX12_cancelAll : ByteArray := prog_14_method_103_code
def yX12_cancelAll : MethodName := ⟨RX12, "cancelAll", "(I)I"⟩
abbrev cX12_allOf : ByteArray := prog_14_method_104_code
def yX12_allOf : MethodName := ⟨RX12, "allOf", "(I)I"⟩
abbrev cX12_longest : ByteArray := prog_14_method_105_code
def yX12_longest : MethodName := ⟨RX12, "longest", "()I"⟩
abbrev cX12_lastSlot : ByteArray := prog_14_method_106_code
def yX12_lastSlot : MethodName := ⟨RX12, "lastSlot", "()I"⟩
abbrev cX12_byRule : ByteArray := prog_14_method_107_code
def yX12_byRule : MethodName := ⟨RX12, "byRule", "(II)I"⟩
abbrev cX12_demand : ByteArray := prog_14_method_108_code
def yX12_demand : MethodName := ⟨RX12, "demand", "(II)I"⟩
abbrev cX12_isUnderWay : ByteArray := prog_14_method_109_code
def yX12_isUnderWay : MethodName := ⟨RX12, "isUnderWay", "(II)Z"⟩
abbrev cX12_crowded : ByteArray := prog_14_method_110_code
def yX12_crowded : MethodName := ⟨RX12, "crowded", "(I)I"⟩
abbrev cX12_airborne : ByteArray := prog_14_method_111_code
def yX12_airborne : MethodName := ⟨RX12, "airborne", "(I)I"⟩
abbrev cX12_next : ByteArray := prog_14_method_112_code
def yX12_next : MethodName := ⟨RX12, "next", "(I)I"⟩
abbrev cX12_rates : ByteArray := prog_14_method_113_code
def yX12_rates : MethodName := ⟨RX12, "rates", "(III)V"⟩
abbrev cX12_would : ByteArray := prog_14_method_114_code
def yX12_would : MethodName := ⟨RX12, "would", "(IIII)I"⟩
abbrev cX12_rateFor : ByteArray := prog_14_method_115_code
def yX12_rateFor : MethodName := ⟨RX12, "rateFor", "(III)I"⟩
abbrev cX12_ifCut : ByteArray := prog_14_method_116_code
def yX12_ifCut : MethodName := ⟨RX12, "ifCut", "(II)I"⟩
abbrev cX12_count : ByteArray := prog_14_method_117_code
def yX12_count : MethodName := ⟨RX12, "count", "(I)I"⟩
abbrev cX12_keep : ByteArray := prog_14_method_118_code
def yX12_keep : MethodName := ⟨RX12, "keep", "()I"⟩
abbrev cX12_undo : ByteArray := prog_14_method_119_code
def yX12_undo : MethodName := ⟨RX12, "undo", "()I"⟩
def RJ6 : String := "java/lang/Integer"
def TJ6 : u_T := fun k => match k with
  | _ => ("", "", "", false)
def tyJ6 : Nat → FieldType := fun k => match k with
  | _ => .int
abbrev wsJ60 : List Cond := u_ws RJ6 TJ6 0
theorem nmJ6 : ∀ a, a < 0 → ∀ b, b < 0 → a ≠ b → (TJ6 a).2.1 ≠ (TJ6 b).2.1 := by decide +kernel
theorem tyJ6_ok : ∀ k, k < 0 → parseFieldDescriptor (TJ6 k).2.2.1 = some (tyJ6 k) := by decide +kernel
abbrev cJ6_bitCount_0f7a4 : ByteArray := prog_15_method_49_code
def yJ6_bitCount_0f7a4 : MethodName := ⟨RJ6, "bitCount", "(I)I"⟩
def RJ9 : String := "java/lang/Math"
def TJ9 : u_T := fun k => match k with
  | _ => ("", "", "", false)
def tyJ9 : Nat → FieldType := fun k => match k with
  | _ => .int
abbrev wsJ90 : List Cond := u_ws RJ9 TJ9 0
theorem nmJ9 : ∀ a, a < 0 → ∀ b, b < 0 → a ≠ b → (TJ9 a).2.1 ≠ (TJ9 b).2.1 := by decide +kernel
theorem tyJ9_ok : ∀ k, k < 0 → parseFieldDescriptor (TJ9 k).2.2.1 = some (tyJ9 k) := by decide +kernel
abbrev cJ9_max_7cf53 : ByteArray := prog_16_method_65_code
def yJ9_max_7cf53 : MethodName := ⟨RJ9, "max", "(II)I"⟩
abbrev cJ9_min_7cf53 : ByteArray := prog_16_method_69_code
def yJ9_min_7cf53 : MethodName := ⟨RJ9, "min", "(II)I"⟩
def RJ10 : String := "java/lang/System"
def TJ10 : u_T := fun k => match k with
  | _ => ("", "", "", false)
def tyJ10 : Nat → FieldType := fun k => match k with
  | _ => .int
abbrev wsJ100 : List Cond := u_ws RJ10 TJ10 0
theorem nmJ10 : ∀ a, a < 0 → ∀ b, b < 0 → a ≠ b → (TJ10 a).2.1 ≠ (TJ10 b).2.1 := by decide +kernel
theorem tyJ10_ok : ∀ k, k < 0 → parseFieldDescriptor (TJ10 k).2.2.1 = some (tyJ10 k) := by decide +kernel
def RL : String := "StormSlotsLaw"
abbrev cL_law : ByteArray := code
def yL_law : MethodName := ⟨RL, "law", "([I)Z"⟩
abbrev vwCl : List vw_C := [(RX0, TX0, 2), (RX1, TX1, 1), (RX2, TX2, 11), (RX3, TX3, 4), (RX4, TX4, 5), (RX5, TX5, 8), (RX6, TX6, 4), (RX7, TX7, 1), (RX8, TX8, 3), (RX9, TX9, 5), (RX10, TX10, 3), (RX11, TX11, 11), (RX12, TX12, 22)]
/-- the words that a method may hand on to those that it calls -/
def tb : List Cond := lw_tbl.filter goodWord
theorem tb_in {w : Cond} (h : w ∈ lw_tbl) (g : goodWord w = true) : w ∈ tb := List.mem_filter.mpr ⟨h, g⟩
theorem tb_good {w : Cond} (h : w ∈ tb) : goodWord w = true := (List.mem_filter.mp h).2
theorem tb_tbl {w : Cond} (h : w ∈ tb) : w ∈ lw_tbl := (List.mem_filter.mp h).1
theorem in_1 {w : Cond} (h : w ∈ tables_1_1) : w ∈ lw_tbl := List.mem_append_right _ (show w ∈ tables_1 from (List.mem_append_left _ h))
theorem in_2 {w : Cond} (h : w ∈ tables_1_2) : w ∈ lw_tbl := List.mem_append_right _ (show w ∈ tables_1 from (List.mem_append_right _ (List.mem_append_left _ h)))
theorem in_3 {w : Cond} (h : w ∈ tables_1_3) : w ∈ lw_tbl := List.mem_append_right _ (show w ∈ tables_1 from (List.mem_append_right _ (List.mem_append_right _ (List.mem_append_left _ h))))
theorem in_4 {w : Cond} (h : w ∈ tables_1_4) : w ∈ lw_tbl := List.mem_append_right _ (show w ∈ tables_1 from (List.mem_append_right _ (List.mem_append_right _ (List.mem_append_right _ (List.mem_append_left _ h)))))
theorem in_5 {w : Cond} (h : w ∈ tables_1_5) : w ∈ lw_tbl := List.mem_append_right _ (show w ∈ tables_1 from (List.mem_append_right _ (List.mem_append_right _ (List.mem_append_right _ (List.mem_append_right _ (List.mem_append_left _ h))))))
theorem in_6 {w : Cond} (h : w ∈ tables_1_6) : w ∈ lw_tbl := List.mem_append_right _ (show w ∈ tables_1 from (List.mem_append_right _ (List.mem_append_right _ (List.mem_append_right _ (List.mem_append_right _ (List.mem_append_right _ (List.mem_append_left _ h)))))))
theorem in_7 {w : Cond} (h : w ∈ tables_1_7) : w ∈ lw_tbl := List.mem_append_right _ (show w ∈ tables_1 from (List.mem_append_right _ (List.mem_append_right _ (List.mem_append_right _ (List.mem_append_right _ (List.mem_append_right _ (List.mem_append_right _ h)))))))
theorem inl0 : ∀ w ∈ u_ws RX0 TX0 2, w ∈ lw_tbl := by decide +kernel
theorem inX0 : ∀ w ∈ u_ws RX0 TX0 2, w ∈ tb := fun w h => tb_in (inl0 w h) (List.all_eq_true.mp (show (u_ws RX0 TX0 2).all goodWord = true by decide +kernel) w h)
theorem inl1 : ∀ w ∈ u_ws RX1 TX1 1, w ∈ lw_tbl := by decide +kernel
theorem inX1 : ∀ w ∈ u_ws RX1 TX1 1, w ∈ tb := fun w h => tb_in (inl1 w h) (List.all_eq_true.mp (show (u_ws RX1 TX1 1).all goodWord = true by decide +kernel) w h)
theorem inl2 : ∀ w ∈ u_ws RX2 TX2 11, w ∈ lw_tbl := by decide +kernel
theorem inX2 : ∀ w ∈ u_ws RX2 TX2 11, w ∈ tb := fun w h => tb_in (inl2 w h) (List.all_eq_true.mp (show (u_ws RX2 TX2 11).all goodWord = true by decide +kernel) w h)
theorem inl3 : ∀ w ∈ u_ws RX3 TX3 4, w ∈ lw_tbl := by decide +kernel
theorem inX3 : ∀ w ∈ u_ws RX3 TX3 4, w ∈ tb := fun w h => tb_in (inl3 w h) (List.all_eq_true.mp (show (u_ws RX3 TX3 4).all goodWord = true by decide +kernel) w h)
theorem inl4 : ∀ w ∈ u_ws RX4 TX4 5, w ∈ lw_tbl := by decide +kernel
theorem inX4 : ∀ w ∈ u_ws RX4 TX4 5, w ∈ tb := fun w h => tb_in (inl4 w h) (List.all_eq_true.mp (show (u_ws RX4 TX4 5).all goodWord = true by decide +kernel) w h)
theorem inl5 : ∀ w ∈ u_ws RX5 TX5 8, w ∈ lw_tbl := by decide +kernel
theorem inX5 : ∀ w ∈ u_ws RX5 TX5 8, w ∈ tb := fun w h => tb_in (inl5 w h) (List.all_eq_true.mp (show (u_ws RX5 TX5 8).all goodWord = true by decide +kernel) w h)
theorem inl6 : ∀ w ∈ u_ws RX6 TX6 4, w ∈ lw_tbl := by decide +kernel
theorem inX6 : ∀ w ∈ u_ws RX6 TX6 4, w ∈ tb := fun w h => tb_in (inl6 w h) (List.all_eq_true.mp (show (u_ws RX6 TX6 4).all goodWord = true by decide +kernel) w h)
theorem inl7 : ∀ w ∈ u_ws RX7 TX7 1, w ∈ lw_tbl := by decide +kernel
theorem inX7 : ∀ w ∈ u_ws RX7 TX7 1, w ∈ tb := fun w h => tb_in (inl7 w h) (List.all_eq_true.mp (show (u_ws RX7 TX7 1).all goodWord = true by decide +kernel) w h)
theorem inl8 : ∀ w ∈ u_ws RX8 TX8 3, w ∈ lw_tbl := by decide +kernel
theorem inX8 : ∀ w ∈ u_ws RX8 TX8 3, w ∈ tb := fun w h => tb_in (inl8 w h) (List.all_eq_true.mp (show (u_ws RX8 TX8 3).all goodWord = true by decide +kernel) w h)
theorem inl9 : ∀ w ∈ u_ws RX9 TX9 5, w ∈ lw_tbl := by decide +kernel
theorem inX9 : ∀ w ∈ u_ws RX9 TX9 5, w ∈ tb := fun w h => tb_in (inl9 w h) (List.all_eq_true.mp (show (u_ws RX9 TX9 5).all goodWord = true by decide +kernel) w h)
theorem inl10 : ∀ w ∈ u_ws RX10 TX10 3, w ∈ lw_tbl := by decide +kernel
theorem inX10 : ∀ w ∈ u_ws RX10 TX10 3, w ∈ tb := fun w h => tb_in (inl10 w h) (List.all_eq_true.mp (show (u_ws RX10 TX10 3).all goodWord = true by decide +kernel) w h)
theorem inl11 : ∀ w ∈ u_ws RX11 TX11 11, w ∈ lw_tbl := by decide +kernel
theorem inX11 : ∀ w ∈ u_ws RX11 TX11 11, w ∈ tb := fun w h => tb_in (inl11 w h) (List.all_eq_true.mp (show (u_ws RX11 TX11 11).all goodWord = true by decide +kernel) w h)
theorem inl12 : ∀ w ∈ u_ws RX12 TX12 22, w ∈ lw_tbl := by decide +kernel
theorem inX12 : ∀ w ∈ u_ws RX12 TX12 22, w ∈ tb := fun w h => tb_in (inl12 w h) (List.all_eq_true.mp (show (u_ws RX12 TX12 22).all goodWord = true by decide +kernel) w h)
