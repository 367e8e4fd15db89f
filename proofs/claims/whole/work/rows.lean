section
-- ===== PART A: goes FIRST, ahead of the names: the tables' words, and 'selects' of the private methods out of them =====
/-- a private method of a class that the tables say can be made, by its rows of tables_1 -/
def lw_okq (q : MethodName × Nat) : Prop := (q.1.cls ≠ "java/lang/invoke/MethodHandle" ∧ q.1.cls ≠ "java/lang/invoke/VarHandle") ∧ Cond.instantiable q.1.cls q.2 ∈ tables_1 ∧ Cond.privateMethod q.1 ∈ tables_1 ∧ Cond.instanceMethod q.1 ∈ tables_1
theorem lw_p0 : lw_okq (⟨"RoomsOfHours$House", "readItem", "([CII)I"⟩, 19) := ⟨⟨by decide +kernel, by decide +kernel⟩, List.mem_of_getElem? (i := 26) (by decide +kernel), List.mem_of_getElem? (i := 326) (by decide +kernel), List.mem_of_getElem? (i := 327) (by decide +kernel)⟩
theorem lw_p1 : lw_okq (⟨"RoomsOfHours$House", "addItem", "(I)Z"⟩, 19) := ⟨⟨by decide +kernel, by decide +kernel⟩, List.mem_of_getElem? (i := 26) (by decide +kernel), List.mem_of_getElem? (i := 339) (by decide +kernel), List.mem_of_getElem? (i := 340) (by decide +kernel)⟩
theorem lw_p2 : lw_okq (⟨"RoomsOfHours$House", "addRoom", "(III)Z"⟩, 19) := ⟨⟨by decide +kernel, by decide +kernel⟩, List.mem_of_getElem? (i := 26) (by decide +kernel), List.mem_of_getElem? (i := 343) (by decide +kernel), List.mem_of_getElem? (i := 344) (by decide +kernel)⟩
theorem lw_p3 : lw_okq (⟨"RoomsOfHours$House", "addDoor", "(IIII)Z"⟩, 19) := ⟨⟨by decide +kernel, by decide +kernel⟩, List.mem_of_getElem? (i := 26) (by decide +kernel), List.mem_of_getElem? (i := 347) (by decide +kernel), List.mem_of_getElem? (i := 348) (by decide +kernel)⟩
theorem lw_p4 : lw_okq (⟨"RoomsOfHours$House", "addPerson", "(II)Z"⟩, 19) := ⟨⟨by decide +kernel, by decide +kernel⟩, List.mem_of_getElem? (i := 26) (by decide +kernel), List.mem_of_getElem? (i := 351) (by decide +kernel), List.mem_of_getElem? (i := 352) (by decide +kernel)⟩
theorem lw_p5 : lw_okq (⟨"RoomsOfHours$House", "addThing", "(III)Z"⟩, 19) := ⟨⟨by decide +kernel, by decide +kernel⟩, List.mem_of_getElem? (i := 26) (by decide +kernel), List.mem_of_getElem? (i := 355) (by decide +kernel), List.mem_of_getElem? (i := 356) (by decide +kernel)⟩
theorem lw_p6 : lw_okq (⟨"RoomsOfHours$House", "setCrossing", "(I)Z"⟩, 19) := ⟨⟨by decide +kernel, by decide +kernel⟩, List.mem_of_getElem? (i := 26) (by decide +kernel), List.mem_of_getElem? (i := 359) (by decide +kernel), List.mem_of_getElem? (i := 360) (by decide +kernel)⟩
theorem lw_p7 : lw_okq (⟨"RoomsOfHours", "moveIn", "()V"⟩, 13) := ⟨⟨by decide +kernel, by decide +kernel⟩, List.mem_of_getElem? (i := 18) (by decide +kernel), List.mem_of_getElem? (i := 363) (by decide +kernel), List.mem_of_getElem? (i := 364) (by decide +kernel)⟩
theorem lw_p8 : lw_okq (⟨"RoomsOfHours$Course", "enter", "(II)V"⟩, 15) := ⟨⟨by decide +kernel, by decide +kernel⟩, List.mem_of_getElem? (i := 123) (by decide +kernel), List.mem_of_getElem? (i := 371) (by decide +kernel), List.mem_of_getElem? (i := 372) (by decide +kernel)⟩
theorem lw_p9 : lw_okq (⟨"RoomsOfHours", "isRoom", "(I)Z"⟩, 13) := ⟨⟨by decide +kernel, by decide +kernel⟩, List.mem_of_getElem? (i := 18) (by decide +kernel), List.mem_of_getElem? (i := 436) (by decide +kernel), List.mem_of_getElem? (i := 437) (by decide +kernel)⟩
theorem lw_p10 : lw_okq (⟨"RoomsOfHours", "isDoor", "(I)Z"⟩, 13) := ⟨⟨by decide +kernel, by decide +kernel⟩, List.mem_of_getElem? (i := 18) (by decide +kernel), List.mem_of_getElem? (i := 463) (by decide +kernel), List.mem_of_getElem? (i := 464) (by decide +kernel)⟩
theorem lw_p11 : lw_okq (⟨"RoomsOfHours", "isPerson", "(I)Z"⟩, 13) := ⟨⟨by decide +kernel, by decide +kernel⟩, List.mem_of_getElem? (i := 18) (by decide +kernel), List.mem_of_getElem? (i := 471) (by decide +kernel), List.mem_of_getElem? (i := 472) (by decide +kernel)⟩
theorem lw_p12 : lw_okq (⟨"RoomsOfHours", "isThing", "(I)Z"⟩, 13) := ⟨⟨by decide +kernel, by decide +kernel⟩, List.mem_of_getElem? (i := 18) (by decide +kernel), List.mem_of_getElem? (i := 491) (by decide +kernel), List.mem_of_getElem? (i := 492) (by decide +kernel)⟩
theorem lw_p13 : lw_okq (⟨"RoomsOfHours$Course", "partsOfTickIn", "(I)I"⟩, 15) := ⟨⟨by decide +kernel, by decide +kernel⟩, List.mem_of_getElem? (i := 123) (by decide +kernel), List.mem_of_getElem? (i := 503) (by decide +kernel), List.mem_of_getElem? (i := 504) (by decide +kernel)⟩
theorem lw_p14 : lw_okq (⟨"RoomsOfHours", "act", "(III)Z"⟩, 13) := ⟨⟨by decide +kernel, by decide +kernel⟩, List.mem_of_getElem? (i := 18) (by decide +kernel), List.mem_of_getElem? (i := 516) (by decide +kernel), List.mem_of_getElem? (i := 517) (by decide +kernel)⟩
theorem lw_p15 : lw_okq (⟨"RoomsOfHours$Course", "pass", "(II)V"⟩, 15) := ⟨⟨by decide +kernel, by decide +kernel⟩, List.mem_of_getElem? (i := 123) (by decide +kernel), List.mem_of_getElem? (i := 528) (by decide +kernel), List.mem_of_getElem? (i := 529) (by decide +kernel)⟩
def lw_privs_1 : List (MethodName × Nat) := [(⟨"RoomsOfHours$House", "readItem", "([CII)I"⟩, 19), (⟨"RoomsOfHours$House", "addItem", "(I)Z"⟩, 19), (⟨"RoomsOfHours$House", "addRoom", "(III)Z"⟩, 19), (⟨"RoomsOfHours$House", "addDoor", "(IIII)Z"⟩, 19), (⟨"RoomsOfHours$House", "addPerson", "(II)Z"⟩, 19), (⟨"RoomsOfHours$House", "addThing", "(III)Z"⟩, 19), (⟨"RoomsOfHours$House", "setCrossing", "(I)Z"⟩, 19), (⟨"RoomsOfHours", "moveIn", "()V"⟩, 13), (⟨"RoomsOfHours$Course", "enter", "(II)V"⟩, 15), (⟨"RoomsOfHours", "isRoom", "(I)Z"⟩, 13), (⟨"RoomsOfHours", "isDoor", "(I)Z"⟩, 13), (⟨"RoomsOfHours", "isPerson", "(I)Z"⟩, 13), (⟨"RoomsOfHours", "isThing", "(I)Z"⟩, 13), (⟨"RoomsOfHours$Course", "partsOfTickIn", "(I)I"⟩, 15), (⟨"RoomsOfHours", "act", "(III)Z"⟩, 13), (⟨"RoomsOfHours$Course", "pass", "(II)V"⟩, 15)]
theorem lw_r1 : ∀ q ∈ lw_privs_1, lw_okq q := List.forall_mem_cons.mpr ⟨lw_p0, List.forall_mem_cons.mpr ⟨lw_p1, List.forall_mem_cons.mpr ⟨lw_p2, List.forall_mem_cons.mpr ⟨lw_p3, List.forall_mem_cons.mpr ⟨lw_p4, List.forall_mem_cons.mpr ⟨lw_p5, List.forall_mem_cons.mpr ⟨lw_p6, List.forall_mem_cons.mpr ⟨lw_p7, List.forall_mem_cons.mpr ⟨lw_p8, List.forall_mem_cons.mpr ⟨lw_p9, List.forall_mem_cons.mpr ⟨lw_p10, List.forall_mem_cons.mpr ⟨lw_p11, List.forall_mem_cons.mpr ⟨lw_p12, List.forall_mem_cons.mpr ⟨lw_p13, List.forall_mem_cons.mpr ⟨lw_p14, List.forall_mem_cons.mpr ⟨lw_p15, fun _ h => absurd h List.not_mem_nil⟩⟩⟩⟩⟩⟩⟩⟩⟩⟩⟩⟩⟩⟩⟩⟩
theorem lw_p16 : lw_okq (⟨"RoomsOfHours$Course", "hourTicksOf", "(I)I"⟩, 15) := ⟨⟨by decide +kernel, by decide +kernel⟩, List.mem_of_getElem? (i := 123) (by decide +kernel), List.mem_of_getElem? (i := 532) (by decide +kernel), List.mem_of_getElem? (i := 533) (by decide +kernel)⟩
theorem lw_p17 : lw_okq (⟨"RoomsOfHours$Course", "cross", "(II)V"⟩, 15) := ⟨⟨by decide +kernel, by decide +kernel⟩, List.mem_of_getElem? (i := 123) (by decide +kernel), List.mem_of_getElem? (i := 544) (by decide +kernel), List.mem_of_getElem? (i := 545) (by decide +kernel)⟩
theorem lw_p18 : lw_okq (⟨"RoomsOfHours$Course", "pick", "(II)V"⟩, 15) := ⟨⟨by decide +kernel, by decide +kernel⟩, List.mem_of_getElem? (i := 123) (by decide +kernel), List.mem_of_getElem? (i := 560) (by decide +kernel), List.mem_of_getElem? (i := 561) (by decide +kernel)⟩
theorem lw_p19 : lw_okq (⟨"RoomsOfHours$Course", "drop", "(II)V"⟩, 15) := ⟨⟨by decide +kernel, by decide +kernel⟩, List.mem_of_getElem? (i := 123) (by decide +kernel), List.mem_of_getElem? (i := 569) (by decide +kernel), List.mem_of_getElem? (i := 570) (by decide +kernel)⟩
theorem lw_p20 : lw_okq (⟨"RoomsOfHours", "doAgain", "(LRoomsOfHours$Course;I)V"⟩, 13) := ⟨⟨by decide +kernel, by decide +kernel⟩, List.mem_of_getElem? (i := 18) (by decide +kernel), List.mem_of_getElem? (i := 598) (by decide +kernel), List.mem_of_getElem? (i := 599) (by decide +kernel)⟩
theorem lw_p21 : lw_okq (⟨"RoomsOfHours$Walk", "offer", "(LRoomsOfHours$House;II)V"⟩, 4) := ⟨⟨by decide +kernel, by decide +kernel⟩, List.mem_of_getElem? (i := 228) (by decide +kernel), List.mem_of_getElem? (i := 630) (by decide +kernel), List.mem_of_getElem? (i := 631) (by decide +kernel)⟩
theorem lw_p22 : lw_okq (⟨"RoomsOfHours$Walk", "spread", "(LRoomsOfHours$House;)V"⟩, 4) := ⟨⟨by decide +kernel, by decide +kernel⟩, List.mem_of_getElem? (i := 228) (by decide +kernel), List.mem_of_getElem? (i := 655) (by decide +kernel), List.mem_of_getElem? (i := 656) (by decide +kernel)⟩
theorem lw_p23 : lw_okq (⟨"RoomsOfHours$Tour", "stayOrNot", "(LRoomsOfHours$House;I)V"⟩, 4) := ⟨⟨by decide +kernel, by decide +kernel⟩, List.mem_of_getElem? (i := 249) (by decide +kernel), List.mem_of_getElem? (i := 669) (by decide +kernel), List.mem_of_getElem? (i := 670) (by decide +kernel)⟩
theorem lw_p24 : lw_okq (⟨"RoomsOfHours$Tour", "noteDone", "(LRoomsOfHours$House;II)V"⟩, 4) := ⟨⟨by decide +kernel, by decide +kernel⟩, List.mem_of_getElem? (i := 249) (by decide +kernel), List.mem_of_getElem? (i := 674) (by decide +kernel), List.mem_of_getElem? (i := 675) (by decide +kernel)⟩
theorem lw_p25 : lw_okq (⟨"RoomsOfHours$Tour", "step", "(LRoomsOfHours$House;I)V"⟩, 4) := ⟨⟨by decide +kernel, by decide +kernel⟩, List.mem_of_getElem? (i := 249) (by decide +kernel), List.mem_of_getElem? (i := 678) (by decide +kernel), List.mem_of_getElem? (i := 679) (by decide +kernel)⟩
theorem lw_p26 : lw_okq (⟨"RoomsOfHours$Tour", "leave", "(LRoomsOfHours$House;II)V"⟩, 4) := ⟨⟨by decide +kernel, by decide +kernel⟩, List.mem_of_getElem? (i := 249) (by decide +kernel), List.mem_of_getElem? (i := 682) (by decide +kernel), List.mem_of_getElem? (i := 683) (by decide +kernel)⟩
theorem lw_p27 : lw_okq (⟨"RoomsOfHours", "nextOwnHour", "(II)I"⟩, 13) := ⟨⟨by decide +kernel, by decide +kernel⟩, List.mem_of_getElem? (i := 18) (by decide +kernel), List.mem_of_getElem? (i := 696) (by decide +kernel), List.mem_of_getElem? (i := 697) (by decide +kernel)⟩
theorem lw_p28 : lw_okq (⟨"RoomsOfHours$Sights", "isStillSo", "(II)Z"⟩, 4) := ⟨⟨by decide +kernel, by decide +kernel⟩, List.mem_of_getElem? (i := 208) (by decide +kernel), List.mem_of_getElem? (i := 728) (by decide +kernel), List.mem_of_getElem? (i := 729) (by decide +kernel)⟩
theorem lw_p29 : lw_okq (⟨"RoomsOfHoursModel", "noHouse", "(I)V"⟩, 45) := ⟨⟨by decide +kernel, by decide +kernel⟩, List.mem_of_getElem? (i := 778) (by decide +kernel), List.mem_of_getElem? (i := 784) (by decide +kernel), List.mem_of_getElem? (i := 785) (by decide +kernel)⟩
theorem lw_p30 : lw_okq (⟨"RoomsOfHoursModel", "addRoom", "(IIII)V"⟩, 45) := ⟨⟨by decide +kernel, by decide +kernel⟩, List.mem_of_getElem? (i := 778) (by decide +kernel), List.mem_of_getElem? (i := 788) (by decide +kernel), List.mem_of_getElem? (i := 789) (by decide +kernel)⟩
theorem lw_p31 : lw_okq (⟨"RoomsOfHoursModel", "addDoor", "(IIIII)V"⟩, 45) := ⟨⟨by decide +kernel, by decide +kernel⟩, List.mem_of_getElem? (i := 778) (by decide +kernel), List.mem_of_getElem? (i := 792) (by decide +kernel), List.mem_of_getElem? (i := 793) (by decide +kernel)⟩
def lw_privs_2 : List (MethodName × Nat) := [(⟨"RoomsOfHours$Course", "hourTicksOf", "(I)I"⟩, 15), (⟨"RoomsOfHours$Course", "cross", "(II)V"⟩, 15), (⟨"RoomsOfHours$Course", "pick", "(II)V"⟩, 15), (⟨"RoomsOfHours$Course", "drop", "(II)V"⟩, 15), (⟨"RoomsOfHours", "doAgain", "(LRoomsOfHours$Course;I)V"⟩, 13), (⟨"RoomsOfHours$Walk", "offer", "(LRoomsOfHours$House;II)V"⟩, 4), (⟨"RoomsOfHours$Walk", "spread", "(LRoomsOfHours$House;)V"⟩, 4), (⟨"RoomsOfHours$Tour", "stayOrNot", "(LRoomsOfHours$House;I)V"⟩, 4), (⟨"RoomsOfHours$Tour", "noteDone", "(LRoomsOfHours$House;II)V"⟩, 4), (⟨"RoomsOfHours$Tour", "step", "(LRoomsOfHours$House;I)V"⟩, 4), (⟨"RoomsOfHours$Tour", "leave", "(LRoomsOfHours$House;II)V"⟩, 4), (⟨"RoomsOfHours", "nextOwnHour", "(II)I"⟩, 13), (⟨"RoomsOfHours$Sights", "isStillSo", "(II)Z"⟩, 4), (⟨"RoomsOfHoursModel", "noHouse", "(I)V"⟩, 45), (⟨"RoomsOfHoursModel", "addRoom", "(IIII)V"⟩, 45), (⟨"RoomsOfHoursModel", "addDoor", "(IIIII)V"⟩, 45)]
theorem lw_r2 : ∀ q ∈ lw_privs_2, lw_okq q := List.forall_mem_cons.mpr ⟨lw_p16, List.forall_mem_cons.mpr ⟨lw_p17, List.forall_mem_cons.mpr ⟨lw_p18, List.forall_mem_cons.mpr ⟨lw_p19, List.forall_mem_cons.mpr ⟨lw_p20, List.forall_mem_cons.mpr ⟨lw_p21, List.forall_mem_cons.mpr ⟨lw_p22, List.forall_mem_cons.mpr ⟨lw_p23, List.forall_mem_cons.mpr ⟨lw_p24, List.forall_mem_cons.mpr ⟨lw_p25, List.forall_mem_cons.mpr ⟨lw_p26, List.forall_mem_cons.mpr ⟨lw_p27, List.forall_mem_cons.mpr ⟨lw_p28, List.forall_mem_cons.mpr ⟨lw_p29, List.forall_mem_cons.mpr ⟨lw_p30, List.forall_mem_cons.mpr ⟨lw_p31, fun _ h => absurd h List.not_mem_nil⟩⟩⟩⟩⟩⟩⟩⟩⟩⟩⟩⟩⟩⟩⟩⟩
theorem lw_p32 : lw_okq (⟨"RoomsOfHoursModel", "goAll", "()V"⟩, 45) := ⟨⟨by decide +kernel, by decide +kernel⟩, List.mem_of_getElem? (i := 778) (by decide +kernel), List.mem_of_getElem? (i := 796) (by decide +kernel), List.mem_of_getElem? (i := 797) (by decide +kernel)⟩
theorem lw_p33 : lw_okq (⟨"RoomsOfHoursModel", "comeIn", "(II)V"⟩, 45) := ⟨⟨by decide +kernel, by decide +kernel⟩, List.mem_of_getElem? (i := 778) (by decide +kernel), List.mem_of_getElem? (i := 800) (by decide +kernel), List.mem_of_getElem? (i := 801) (by decide +kernel)⟩
theorem lw_p34 : lw_okq (⟨"RoomsOfHoursModel", "doAct", "(III)Z"⟩, 45) := ⟨⟨by decide +kernel, by decide +kernel⟩, List.mem_of_getElem? (i := 778) (by decide +kernel), List.mem_of_getElem? (i := 804) (by decide +kernel), List.mem_of_getElem? (i := 805) (by decide +kernel)⟩
theorem lw_p35 : lw_okq (⟨"RoomsOfHoursModel", "goBy", "(II)V"⟩, 45) := ⟨⟨by decide +kernel, by decide +kernel⟩, List.mem_of_getElem? (i := 778) (by decide +kernel), List.mem_of_getElem? (i := 808) (by decide +kernel), List.mem_of_getElem? (i := 809) (by decide +kernel)⟩
theorem lw_p36 : lw_okq (⟨"RoomsOfHoursModel", "hourOf", "(I)I"⟩, 45) := ⟨⟨by decide +kernel, by decide +kernel⟩, List.mem_of_getElem? (i := 778) (by decide +kernel), List.mem_of_getElem? (i := 812) (by decide +kernel), List.mem_of_getElem? (i := 813) (by decide +kernel)⟩
theorem lw_p37 : lw_okq (⟨"RoomsOfHoursModel", "goDoor", "(II)Z"⟩, 45) := ⟨⟨by decide +kernel, by decide +kernel⟩, List.mem_of_getElem? (i := 778) (by decide +kernel), List.mem_of_getElem? (i := 816) (by decide +kernel), List.mem_of_getElem? (i := 817) (by decide +kernel)⟩
theorem lw_p38 : lw_okq (⟨"RoomsOfHoursModel", "isBeside", "(II)Z"⟩, 45) := ⟨⟨by decide +kernel, by decide +kernel⟩, List.mem_of_getElem? (i := 778) (by decide +kernel), List.mem_of_getElem? (i := 820) (by decide +kernel), List.mem_of_getElem? (i := 821) (by decide +kernel)⟩
theorem lw_p39 : lw_okq (⟨"RoomsOfHoursModel", "leadFrom", "(II)I"⟩, 45) := ⟨⟨by decide +kernel, by decide +kernel⟩, List.mem_of_getElem? (i := 778) (by decide +kernel), List.mem_of_getElem? (i := 824) (by decide +kernel), List.mem_of_getElem? (i := 825) (by decide +kernel)⟩
theorem lw_p40 : lw_okq (⟨"RoomsOfHoursModel", "beyond", "(II)I"⟩, 45) := ⟨⟨by decide +kernel, by decide +kernel⟩, List.mem_of_getElem? (i := 778) (by decide +kernel), List.mem_of_getElem? (i := 828) (by decide +kernel), List.mem_of_getElem? (i := 829) (by decide +kernel)⟩
theorem lw_p41 : lw_okq (⟨"RoomsOfHoursModel", "takeUp", "(II)Z"⟩, 45) := ⟨⟨by decide +kernel, by decide +kernel⟩, List.mem_of_getElem? (i := 778) (by decide +kernel), List.mem_of_getElem? (i := 832) (by decide +kernel), List.mem_of_getElem? (i := 833) (by decide +kernel)⟩
theorem lw_p42 : lw_okq (⟨"RoomsOfHoursModel", "oldBy", "(II)I"⟩, 45) := ⟨⟨by decide +kernel, by decide +kernel⟩, List.mem_of_getElem? (i := 778) (by decide +kernel), List.mem_of_getElem? (i := 836) (by decide +kernel), List.mem_of_getElem? (i := 837) (by decide +kernel)⟩
theorem lw_p43 : lw_okq (⟨"RoomsOfHoursModel", "putDown", "(II)Z"⟩, 45) := ⟨⟨by decide +kernel, by decide +kernel⟩, List.mem_of_getElem? (i := 778) (by decide +kernel), List.mem_of_getElem? (i := 840) (by decide +kernel), List.mem_of_getElem? (i := 841) (by decide +kernel)⟩
theorem lw_p44 : lw_okq (⟨"RoomsOfHoursModel", "readAll", "()I"⟩, 45) := ⟨⟨by decide +kernel, by decide +kernel⟩, List.mem_of_getElem? (i := 778) (by decide +kernel), List.mem_of_getElem? (i := 997) (by decide +kernel), List.mem_of_getElem? (i := 998) (by decide +kernel)⟩
theorem lw_p45 : lw_okq (⟨"RoomsOfHoursModel", "item", "()Z"⟩, 45) := ⟨⟨by decide +kernel, by decide +kernel⟩, List.mem_of_getElem? (i := 778) (by decide +kernel), List.mem_of_getElem? (i := 1001) (by decide +kernel), List.mem_of_getElem? (i := 1002) (by decide +kernel)⟩
theorem lw_p46 : lw_okq (⟨"RoomsOfHoursModel", "letterAt", "(I)I"⟩, 45) := ⟨⟨by decide +kernel, by decide +kernel⟩, List.mem_of_getElem? (i := 778) (by decide +kernel), List.mem_of_getElem? (i := 1005) (by decide +kernel), List.mem_of_getElem? (i := 1006) (by decide +kernel)⟩
theorem lw_p47 : lw_okq (⟨"RoomsOfHoursModel", "figures", "(I)Z"⟩, 45) := ⟨⟨by decide +kernel, by decide +kernel⟩, List.mem_of_getElem? (i := 778) (by decide +kernel), List.mem_of_getElem? (i := 1009) (by decide +kernel), List.mem_of_getElem? (i := 1010) (by decide +kernel)⟩
def lw_privs_3 : List (MethodName × Nat) := [(⟨"RoomsOfHoursModel", "goAll", "()V"⟩, 45), (⟨"RoomsOfHoursModel", "comeIn", "(II)V"⟩, 45), (⟨"RoomsOfHoursModel", "doAct", "(III)Z"⟩, 45), (⟨"RoomsOfHoursModel", "goBy", "(II)V"⟩, 45), (⟨"RoomsOfHoursModel", "hourOf", "(I)I"⟩, 45), (⟨"RoomsOfHoursModel", "goDoor", "(II)Z"⟩, 45), (⟨"RoomsOfHoursModel", "isBeside", "(II)Z"⟩, 45), (⟨"RoomsOfHoursModel", "leadFrom", "(II)I"⟩, 45), (⟨"RoomsOfHoursModel", "beyond", "(II)I"⟩, 45), (⟨"RoomsOfHoursModel", "takeUp", "(II)Z"⟩, 45), (⟨"RoomsOfHoursModel", "oldBy", "(II)I"⟩, 45), (⟨"RoomsOfHoursModel", "putDown", "(II)Z"⟩, 45), (⟨"RoomsOfHoursModel", "readAll", "()I"⟩, 45), (⟨"RoomsOfHoursModel", "item", "()Z"⟩, 45), (⟨"RoomsOfHoursModel", "letterAt", "(I)I"⟩, 45), (⟨"RoomsOfHoursModel", "figures", "(I)Z"⟩, 45)]
theorem lw_r3 : ∀ q ∈ lw_privs_3, lw_okq q := List.forall_mem_cons.mpr ⟨lw_p32, List.forall_mem_cons.mpr ⟨lw_p33, List.forall_mem_cons.mpr ⟨lw_p34, List.forall_mem_cons.mpr ⟨lw_p35, List.forall_mem_cons.mpr ⟨lw_p36, List.forall_mem_cons.mpr ⟨lw_p37, List.forall_mem_cons.mpr ⟨lw_p38, List.forall_mem_cons.mpr ⟨lw_p39, List.forall_mem_cons.mpr ⟨lw_p40, List.forall_mem_cons.mpr ⟨lw_p41, List.forall_mem_cons.mpr ⟨lw_p42, List.forall_mem_cons.mpr ⟨lw_p43, List.forall_mem_cons.mpr ⟨lw_p44, List.forall_mem_cons.mpr ⟨lw_p45, List.forall_mem_cons.mpr ⟨lw_p46, List.forall_mem_cons.mpr ⟨lw_p47, fun _ h => absurd h List.not_mem_nil⟩⟩⟩⟩⟩⟩⟩⟩⟩⟩⟩⟩⟩⟩⟩⟩
theorem lw_p48 : lw_okq (⟨"RoomsOfHoursModel", "isRoom", "(I)Z"⟩, 45) := ⟨⟨by decide +kernel, by decide +kernel⟩, List.mem_of_getElem? (i := 778) (by decide +kernel), List.mem_of_getElem? (i := 1025) (by decide +kernel), List.mem_of_getElem? (i := 1026) (by decide +kernel)⟩
theorem lw_p49 : lw_okq (⟨"RoomsOfHoursModel", "isDoor", "(I)Z"⟩, 45) := ⟨⟨by decide +kernel, by decide +kernel⟩, List.mem_of_getElem? (i := 778) (by decide +kernel), List.mem_of_getElem? (i := 1046) (by decide +kernel), List.mem_of_getElem? (i := 1047) (by decide +kernel)⟩
theorem lw_p50 : lw_okq (⟨"RoomsOfHoursModel", "isPerson", "(I)Z"⟩, 45) := ⟨⟨by decide +kernel, by decide +kernel⟩, List.mem_of_getElem? (i := 778) (by decide +kernel), List.mem_of_getElem? (i := 1054) (by decide +kernel), List.mem_of_getElem? (i := 1055) (by decide +kernel)⟩
theorem lw_p51 : lw_okq (⟨"RoomsOfHoursModel", "thingsOf", "(I)I"⟩, 45) := ⟨⟨by decide +kernel, by decide +kernel⟩, List.mem_of_getElem? (i := 778) (by decide +kernel), List.mem_of_getElem? (i := 1059) (by decide +kernel), List.mem_of_getElem? (i := 1060) (by decide +kernel)⟩
theorem lw_p52 : lw_okq (⟨"RoomsOfHoursModel", "isThing", "(I)Z"⟩, 45) := ⟨⟨by decide +kernel, by decide +kernel⟩, List.mem_of_getElem? (i := 778) (by decide +kernel), List.mem_of_getElem? (i := 1067) (by decide +kernel), List.mem_of_getElem? (i := 1068) (by decide +kernel)⟩
theorem lw_p53 : lw_okq (⟨"RoomsOfHoursModel", "worthOf", "(II)I"⟩, 45) := ⟨⟨by decide +kernel, by decide +kernel⟩, List.mem_of_getElem? (i := 778) (by decide +kernel), List.mem_of_getElem? (i := 1076) (by decide +kernel), List.mem_of_getElem? (i := 1077) (by decide +kernel)⟩
theorem lw_p54 : lw_okq (⟨"RoomsOfHoursModel", "note", "(III)V"⟩, 45) := ⟨⟨by decide +kernel, by decide +kernel⟩, List.mem_of_getElem? (i := 778) (by decide +kernel), List.mem_of_getElem? (i := 1085) (by decide +kernel), List.mem_of_getElem? (i := 1086) (by decide +kernel)⟩
theorem lw_p55 : lw_okq (⟨"RoomsOfHoursModel", "layLow", "(II)V"⟩, 45) := ⟨⟨by decide +kernel, by decide +kernel⟩, List.mem_of_getElem? (i := 778) (by decide +kernel), List.mem_of_getElem? (i := 1118) (by decide +kernel), List.mem_of_getElem? (i := 1119) (by decide +kernel)⟩
theorem lw_p56 : lw_okq (⟨"RoomsOfHoursModel", "costOf", "(II)I"⟩, 45) := ⟨⟨by decide +kernel, by decide +kernel⟩, List.mem_of_getElem? (i := 778) (by decide +kernel), List.mem_of_getElem? (i := 1122) (by decide +kernel), List.mem_of_getElem? (i := 1123) (by decide +kernel)⟩
theorem lw_p57 : lw_okq (⟨"RoomsOfHoursModel", "layStays", "(I)V"⟩, 45) := ⟨⟨by decide +kernel, by decide +kernel⟩, List.mem_of_getElem? (i := 778) (by decide +kernel), List.mem_of_getElem? (i := 1138) (by decide +kernel), List.mem_of_getElem? (i := 1139) (by decide +kernel)⟩
theorem lw_p58 : lw_okq (⟨"RoomsOfHoursModel", "pacesOf", "(I)I"⟩, 45) := ⟨⟨by decide +kernel, by decide +kernel⟩, List.mem_of_getElem? (i := 778) (by decide +kernel), List.mem_of_getElem? (i := 1172) (by decide +kernel), List.mem_of_getElem? (i := 1173) (by decide +kernel)⟩
theorem lw_p59 : lw_okq (⟨"RoomsOfHoursModel", "copy", "(II)V"⟩, 45) := ⟨⟨by decide +kernel, by decide +kernel⟩, List.mem_of_getElem? (i := 778) (by decide +kernel), List.mem_of_getElem? (i := 1198) (by decide +kernel), List.mem_of_getElem? (i := 1199) (by decide +kernel)⟩
def lw_privs_4 : List (MethodName × Nat) := [(⟨"RoomsOfHoursModel", "isRoom", "(I)Z"⟩, 45), (⟨"RoomsOfHoursModel", "isDoor", "(I)Z"⟩, 45), (⟨"RoomsOfHoursModel", "isPerson", "(I)Z"⟩, 45), (⟨"RoomsOfHoursModel", "thingsOf", "(I)I"⟩, 45), (⟨"RoomsOfHoursModel", "isThing", "(I)Z"⟩, 45), (⟨"RoomsOfHoursModel", "worthOf", "(II)I"⟩, 45), (⟨"RoomsOfHoursModel", "note", "(III)V"⟩, 45), (⟨"RoomsOfHoursModel", "layLow", "(II)V"⟩, 45), (⟨"RoomsOfHoursModel", "costOf", "(II)I"⟩, 45), (⟨"RoomsOfHoursModel", "layStays", "(I)V"⟩, 45), (⟨"RoomsOfHoursModel", "pacesOf", "(I)I"⟩, 45), (⟨"RoomsOfHoursModel", "copy", "(II)V"⟩, 45)]
theorem lw_r4 : ∀ q ∈ lw_privs_4, lw_okq q := List.forall_mem_cons.mpr ⟨lw_p48, List.forall_mem_cons.mpr ⟨lw_p49, List.forall_mem_cons.mpr ⟨lw_p50, List.forall_mem_cons.mpr ⟨lw_p51, List.forall_mem_cons.mpr ⟨lw_p52, List.forall_mem_cons.mpr ⟨lw_p53, List.forall_mem_cons.mpr ⟨lw_p54, List.forall_mem_cons.mpr ⟨lw_p55, List.forall_mem_cons.mpr ⟨lw_p56, List.forall_mem_cons.mpr ⟨lw_p57, List.forall_mem_cons.mpr ⟨lw_p58, List.forall_mem_cons.mpr ⟨lw_p59, fun _ h => absurd h List.not_mem_nil⟩⟩⟩⟩⟩⟩⟩⟩⟩⟩⟩⟩
def lw_privs : List (MethodName × Nat) := lw_privs_1 ++ (lw_privs_2 ++ (lw_privs_3 ++ (lw_privs_4)))
def lw_tbl : List Cond := k2_sels lw_privs ++ tables_1
theorem lw_privs_ok : ∀ q ∈ lw_privs, lw_okq q := by
  show ∀ q ∈ lw_privs_1 ++ (lw_privs_2 ++ (lw_privs_3 ++ (lw_privs_4))), lw_okq q
  exact List.forall_mem_append.mpr ⟨lw_r1, List.forall_mem_append.mpr ⟨lw_r2, List.forall_mem_append.mpr ⟨lw_r3, lw_r4⟩⟩⟩
end
section
/-! THE ABSTRACT MACHINE: heap by cell and place; values int, ref (tag, cell), long; a row: pc, length, instruction, operands, constant -/
abbrev am_H : Type := Nat → Nat → Int32
abbrev am_V : Type := Int32 ⊕ ((Nat × Nat) ⊕ Int64)
abbrev am_L : Type := List (Option am_V)
abbrev am_W : Type := Nat × Nat × Instr × List Nat × Int32
abbrev am_Z : Type := Option (am_H × Option Int32)
abbrev vi (x : Int32) : am_V := Sum.inl x
abbrev vr (t a : Nat) : am_V := Sum.inr (Sum.inl (t, a))
abbrev vl (x : Int64) : am_V := Sum.inr (Sum.inr x)
def am_up (h : am_H) (c i : Nat) (x : Int32) : am_H := va_up h c (upd (h c) i x)
def am_ix : am_L → Nat → Option am_V
  | [], _ => none
  | a :: _, 0 => a
  | _ :: l, n + 1 => am_ix l n
def am_st : am_L → Nat → Option am_V → am_L
  | [], _, _ => []
  | _ :: l, 0, v => v :: l
  | a :: l, n + 1, v => a :: am_st l n v
def am_drp : Nat → List am_W → List am_W
  | 0, l => l
  | _ + 1, [] => []
  | n + 1, _ :: l => am_drp n l
def am_b (n : Nat) (i : Int32) (k : Nat → am_Z) : am_Z := if i < 0 ∨ n ≤ i.toNatClampNeg then none else k i.toNatClampNeg
def am_r1 (r : am_Z) (k : am_H → Int32 → am_Z) : am_Z := match r with
  | some (h, some x) => k h x
  | _ => none
def am_r0 (r : am_Z) (k : am_H → am_Z) : am_Z := match r with
  | some (h, none) => k h
  | _ => none
def am_ldi (l : am_L) (i : Nat) (k : Int32 → am_Z) : am_Z := match am_ix l i with
  | some (Sum.inl x) => k x
  | _ => none
def am_lda (l : am_L) (i : Nat) (k : Nat → Nat → am_Z) : am_Z := match am_ix l i with
  | some (Sum.inr (Sum.inl (t, a))) => k t a
  | _ => none
def am_ldl (l : am_L) (i : Nat) (k : Int64 → am_Z) : am_Z := match am_ix l i with
  | some (Sum.inr (Sum.inr x)) => k x
  | _ => none
/-- no long stands at the place before -/
def am_pre (l : am_L) : Nat → am_Z → am_Z
  | 0, k => k
  | i + 1, k => match am_ix l i with
    | some (Sum.inr (Sum.inr _)) => none
    | _ => k
def am_pi (st : List am_V) (k : Int32 → List am_V → am_Z) : am_Z := match st with
  | Sum.inl x :: r => k x r
  | _ => none
def am_pa (st : List am_V) (k : Nat → Nat → List am_V → am_Z) : am_Z := match st with
  | Sum.inr (Sum.inl (t, a)) :: r => k t a r
  | _ => none
def am_pl (st : List am_V) (k : Int64 → List am_V → am_Z) : am_Z := match st with
  | Sum.inr (Sum.inr x) :: r => k x r
  | _ => none
def am_2 (st : List am_V) (k : Int32 → Int32 → List am_V → am_Z) : am_Z := am_pi st fun b r => am_pi r fun a r => k a b r
def am_2l (st : List am_V) (k : Int64 → Int64 → List am_V → am_Z) : am_Z := am_pl st fun b r => am_pl r fun a r => k a b r
def am_cat : am_V → Nat
  | Sum.inr (Sum.inr _) => 2
  | _ => 1
def am_cats : List am_V → Nat
  | [] => 0
  | v :: l => am_cat v + am_cats l
/-- the n values on top, the lowest first, and the rest -/
def am_tk : Nat → List am_V → List am_V → (List am_V → List am_V → am_Z) → am_Z
  | 0, st, as, k => k as st
  | n + 1, v :: st, as, k => am_tk n st (v :: as) k
  | _ + 1, [], _, _ => none
/-- none of the values is the script -/
def am_n8 : List am_V → Bool
  | [] => true
  | Sum.inr (Sum.inl (t, _)) :: l => if t = 8 then false else am_n8 l
  | _ :: l => am_n8 l
/-- the receiver is an object of that kind -/
def am_rcv (v : Bool) (ci : Nat) (as : List am_V) (k : am_Z) : am_Z := match v, as with
  | false, _ => k
  | true, Sum.inr (Sum.inl (t, _)) :: _ => if t = ci then k else none
  | true, _ => none
def am_sw (x : Int32) (d : Nat) (k : Nat → am_Z) : List Nat → am_Z
  | v :: t :: l => if x = nI v then k t else am_sw x d k l
  | _ => k d
def am_rem (a b : Int32) : Int32 := a - a / b * b
def am_reml (a b : Int64) : Int64 := a - a / b * b
def am_ush (x y : Int32) : Int32 := (x.toUInt32 >>> (y.toUInt32 &&& Int32.toUInt32 31)).toInt32
def am_i2c (x : Int32) : Int32 := (x.toUInt32 % 65536).toInt32
/-- does a jump with this condition go on the branch -/
def am_cnd (c : Jvm.ClassFile.Cond) (a b : Int32) (kt kf : am_Z) : am_Z := match c with
  | .eq => if a = b then kt else kf
  | .ne => if a = b then kf else kt
  | .lt => if a < b then kt else kf
  | .ge => if a < b then kf else kt
  | .gt => if b < a then kt else kf
  | .le => if b < a then kf else kt
section AM
variable (L : Nat) (xs : Nat → Int32) (tb : List am_W) (G : Nat → List am_V → am_H → am_Z) (rc : Nat → am_L → am_H → am_Z) (nx : List am_W → am_L → List am_V → am_H → am_Z)
def am_get (aux : List Nat) (rest : List am_W) (ls : am_L) (st : List am_V) (h : am_H) : am_Z := match aux with
  | kd :: ci :: sl :: tg :: off :: _ => am_pa st fun t o r => if t = ci then (match kd with
    | 0 => nx rest ls (vi (h o sl) :: r) h
    | 1 => nx rest ls (vr tg (o + off) :: r) h
    | _ => nx rest ls (vr tg (h o sl).toNatClampNeg :: r) h) else none
  | _ => none
def am_put (aux : List Nat) (rest : List am_W) (ls : am_L) (st : List am_V) (h : am_H) : am_Z := match aux with
  | kd :: ci :: sl :: tg :: _ => (match kd with
    | 0 => am_pi st fun x r => am_pa r fun t o r => if t = ci then nx rest ls r (am_up h o sl x) else none
    | 2 => am_pa st fun t' a r => am_pa r fun t o r => if t = ci then (if t' = tg then nx rest ls r (am_up h o sl (nI a)) else none) else none
    | _ => none)
  | _ => none
def am_cpy (rest : List am_W) (ls : am_L) (st : List am_V) (h : am_H) : am_Z :=
  am_pi st fun n r => am_pi r fun dp r => am_pa r fun t1 a1 r => am_pi r fun sp r => am_pa r fun t0 a0 r =>
    if t0 < 100 then none else if t1 < 100 then none else if 8 < am_cats r then none else
    if sp < 0 ∨ dp < 0 ∨ n < 0 ∨ t0 - 100 < sp.toNatClampNeg + n.toNatClampNeg ∨ t1 - 100 < dp.toNatClampNeg + n.toNatClampNeg then none else
    nx rest ls r (va_up h a1 (va_cpy (h a0) (h a1) sp.toNatClampNeg dp.toNatClampNeg n.toNatClampNeg))
def am_inv (v : Bool) (aux : List Nat) (rest : List am_W) (ls : am_L) (st : List am_V) (h : am_H) : am_Z := match aux with
  | z :: n :: rt :: ci :: _ => am_tk n st [] fun as r => if 8 < am_cats r then none else if am_n8 as = false then none else am_rcv v ci as (match rt with
    | 0 => am_r0 (G z as h) fun h => nx rest ls r h
    | _ => am_r1 (G z as h) fun h x => nx rest ls (vi x :: r) h)
  | _ => none
def am_ex (ins : Instr) (aux : List Nat) (q : Int32) (rest : List am_W) (ls : am_L) (st : List am_V) (h : am_H) : am_Z := match ins with
  | .nop => (match st, aux with
    | [], i :: _ => rc i ls h
    | _, _ => none)
  | .aload_n n => am_lda ls n.val fun t a => nx rest ls (vr t a :: st) h
  | .aload n => am_lda ls n fun t a => nx rest ls (vr t a :: st) h
  | .iload_n n => am_ldi ls n.val fun x => nx rest ls (vi x :: st) h
  | .iload n => am_ldi ls n fun x => nx rest ls (vi x :: st) h
  | .lload_n n => am_ldl ls n.val fun x => nx rest ls (vl x :: st) h
  | .lload n => am_ldl ls n fun x => nx rest ls (vl x :: st) h
  | .getfield _ => am_get nx aux rest ls st h
  | .putfield _ => am_put nx aux rest ls st h
  | .iconst _ => nx rest ls (vi q :: st) h
  | .bipush _ => nx rest ls (vi q :: st) h
  | .sipush _ => nx rest ls (vi q :: st) h
  | .ldc _ => nx rest ls (vi q :: st) h
  | .ldc_w _ => nx rest ls (vi q :: st) h
  | .lconst _ => nx rest ls (vl q.toInt64 :: st) h
  | .ldc2_w _ => nx rest ls (vl q.toInt64 :: st) h
  | .iaload => am_pi st fun i r => am_pa r fun t a r => if t = 8 then am_b L i (fun j => nx rest ls (vi (xs j) :: r) h) else if t < 100 then none else am_b (t - 100) i (fun j => nx rest ls (vi (h a j) :: r) h)
  | .iastore => am_pi st fun x r => am_pi r fun i r => am_pa r fun t a r => if t < 100 then none else am_b (t - 100) i (fun j => nx rest ls r (am_up h a j x))
  | .caload => am_pi st fun i r => am_pa r fun t a r => if t = 9 then am_b 200 i (fun j => nx rest ls (vi (h a j) :: r) h) else none
  | .castore => am_pi st fun x r => am_pi r fun i r => am_pa r fun t a r => if t = 9 then am_b 200 i (fun j => nx rest ls r (am_up h a j (vp_nar .char x))) else none
  | .arraylength => am_pa st fun t _ r => if t = 8 then nx rest ls (vi (nI L) :: r) h else if t < 100 then none else nx rest ls (vi (nI (t - 100)) :: r) h
  | .istore_n n => am_pi st fun x r => am_pre ls n.val (nx rest (am_st ls n.val (some (vi x))) r h)
  | .istore n => am_pi st fun x r => am_pre ls n (nx rest (am_st ls n (some (vi x))) r h)
  | .astore_n n => am_pa st fun t a r => am_pre ls n.val (nx rest (am_st ls n.val (some (vr t a))) r h)
  | .lstore_n n => am_pl st fun x r => am_pre ls n.val (nx rest (am_st (am_st ls n.val (some (vl x))) (n.val + 1) none) r h)
  | .lstore n => am_pl st fun x r => am_pre ls n (nx rest (am_st (am_st ls n (some (vl x))) (n + 1) none) r h)
  | .iinc n _ => am_ldi ls n fun x => am_pre ls n (nx rest (am_st ls n (some (vi (x + q)))) st h)
  | .iadd => am_2 st fun a b r => nx rest ls (vi (a + b) :: r) h
  | .isub => am_2 st fun a b r => nx rest ls (vi (a - b) :: r) h
  | .imul => am_2 st fun a b r => nx rest ls (vi (a * b) :: r) h
  | .iand => am_2 st fun a b r => nx rest ls (vi (a &&& b) :: r) h
  | .ior => am_2 st fun a b r => nx rest ls (vi (a ||| b) :: r) h
  | .ixor => am_2 st fun a b r => nx rest ls (vi (a ^^^ b) :: r) h
  | .ishl => am_2 st fun a b r => nx rest ls (vi (a <<< (b &&& 31)) :: r) h
  | .ishr => am_2 st fun a b r => nx rest ls (vi (a >>> (b &&& 31)) :: r) h
  | .iushr => am_2 st fun a b r => nx rest ls (vi (am_ush a b) :: r) h
  | .idiv => am_2 st fun a b r => if b = 0 then none else nx rest ls (vi (a / b) :: r) h
  | .irem => am_2 st fun a b r => if b = 0 then none else nx rest ls (vi (am_rem a b) :: r) h
  | .ineg => am_pi st fun a r => nx rest ls (vi (-a) :: r) h
  | .i2c => am_pi st fun a r => nx rest ls (vi (am_i2c a) :: r) h
  | .i2l => am_pi st fun a r => nx rest ls (vl a.toInt64 :: r) h
  | .l2i => am_pl st fun a r => nx rest ls (vi a.toInt32 :: r) h
  | .ladd => am_2l st fun a b r => nx rest ls (vl (a + b) :: r) h
  | .lmul => am_2l st fun a b r => nx rest ls (vl (a * b) :: r) h
  | .lrem => am_2l st fun a b r => if b = 0 then none else nx rest ls (vl (am_reml a b) :: r) h
  | .lcmp => am_2l st fun a b r => nx rest ls (vi (lg_cmp a b) :: r) h
  | .dup => (match st with
    | v :: r => if am_cat v = 1 then nx rest ls (v :: v :: r) h else none
    | _ => none)
  | .dup2 => (match st with
    | v :: w :: r => if am_cat v = 1 then (if am_cat w = 1 then nx rest ls (v :: w :: v :: w :: r) h else none) else none
    | _ => none)
  | .pop => (match st with
    | v :: r => if am_cat v = 1 then nx rest ls r h else none
    | _ => none)
  | .goto _ => (match aux with
    | t :: _ => nx (am_drp t tb) ls st h
    | _ => none)
  | .if_icmp c _ => (match aux with
    | t :: _ => am_2 st fun a b r => am_cnd c a b (nx (am_drp t tb) ls r h) (nx rest ls r h)
    | _ => none)
  | .ifCond c _ => (match aux with
    | t :: _ => am_pi st fun a r => am_cnd c a 0 (nx (am_drp t tb) ls r h) (nx rest ls r h)
    | _ => none)
  | .tableswitch _ _ _ _ => (match aux with
    | d :: l => am_pi st fun x r => am_sw x d (fun t => nx (am_drp t tb) ls r h) l
    | _ => none)
  | .lookupswitch _ _ => (match aux with
    | d :: l => am_pi st fun x r => am_sw x d (fun t => nx (am_drp t tb) ls r h) l
    | _ => none)
  | .invokevirtual _ => am_inv G nx true aux rest ls st h
  | .invokestatic _ => (match aux with
    | 999 :: _ => am_cpy nx rest ls st h
    | _ => am_inv G nx false aux rest ls st h)
  | .ireturn => (match st, aux with
    | [Sum.inl v], 1 :: _ => if v &&& 1 = v then some (h, some v) else none
    | [Sum.inl v], 0 :: _ => some (h, some v)
    | _, _ => none)
  | .return_ => (match st with
    | [] => some (h, none)
    | _ => none)
  | _ => none
end AM
def am_seg (L : Nat) (xs : Nat → Int32) (tb : List am_W) (G : Nat → List am_V → am_H → am_Z) (rc : Nat → am_L → am_H → am_Z) : Nat → List am_W → am_L → List am_V → am_H → am_Z
  | 0, _, _, _, _ => none
  | _ + 1, [], _, _, _ => none
  | k + 1, (_, _, ins, aux, q) :: rest, ls, st, h => am_ex L xs tb G rc (am_seg L xs tb G rc k) ins aux q rest ls st h
def am_run (L : Nat) (xs : Nat → Int32) (tb : List am_W) (G : Nat → List am_V → am_H → am_Z) : Nat → Nat → am_L → am_H → am_Z
  | 0, _, _, _ => none
  | n + 1, i, ls, h => am_seg L xs tb G (am_run L xs tb G n) 1000 (am_drp i tb) ls [] h
def am_ent : List am_V → Nat → am_L
  | [], n => List.replicate n none
  | v :: l, n => match am_cat v with
    | 2 => some v :: none :: am_ent l (n - 2)
    | _ => some v :: am_ent l (n - 1)
def am_G (mt : Nat → List am_W × Nat) : Nat → Nat → List am_V → am_H → am_Z
  | 0, _, _, _ => none
  | D + 1, z, as, h => if (mt z).2 < am_cats as then none else am_run 0 (fun _ => 0) (mt z).1 (am_G mt D) 1000000 0 (am_ent as (mt z).2) h
end
section
/-- the words that a call may carry on -/
def am_tbl : List Cond := lw_tbl.filter goodWord
theorem am_ins {ws : List Cond} (ps : List Nat) (h : ps.map (fun i => lw_tbl[i]?) = ws.map some) (hg : ws.all goodWord = true) : ∀ w ∈ ws, w ∈ am_tbl := by
  intro w hw
  refine List.mem_filter.mpr ⟨?_, List.all_eq_true.mp hg w hw⟩
  have h1 : some w ∈ ws.map some := List.mem_map.mpr ⟨w, hw, rfl⟩
  rw [← h] at h1
  obtain ⟨i, -, hi⟩ := List.mem_map.mp h1
  exact List.mem_of_getElem? hi
/-! LAYOUT: the classes, their fields, the cells; by program -/
def am_R0 : String := "RoomsOfHours$Acts"
def am_T0 : u_T := fun k => match k with
  | 0 => ("RoomsOfHours$Acts", "kind", "[I", true)
  | 1 => ("RoomsOfHours$Acts", "who", "[I", true)
  | 2 => ("RoomsOfHours$Acts", "with", "[I", true)
  | _ => ("RoomsOfHours$Acts", "count", "I", false)
def am_R1 : String := "RoomsOfHours$Course"
def am_T1 : u_T := fun k => match k with
  | 0 => ("RoomsOfHours$Course", "house", "LRoomsOfHours$House;", false)
  | 1 => ("RoomsOfHours$Course", "mendedRoom", "I", false)
  | 2 => ("RoomsOfHours$Course", "in", "[I", true)
  | 3 => ("RoomsOfHours$Course", "tick", "[I", true)
  | 4 => ("RoomsOfHours$Course", "age", "[I", true)
  | 5 => ("RoomsOfHours$Course", "latest", "[I", true)
  | 6 => ("RoomsOfHours$Course", "lies", "[I", true)
  | 7 => ("RoomsOfHours$Course", "holder", "[I", true)
  | 8 => ("RoomsOfHours$Course", "since", "[I", true)
  | 9 => ("RoomsOfHours$Course", "worn", "[I", true)
  | 10 => ("RoomsOfHours$Course", "visitor", "[I", true)
  | 11 => ("RoomsOfHours$Course", "visited", "[I", true)
  | 12 => ("RoomsOfHours$Course", "came", "[I", true)
  | 13 => ("RoomsOfHours$Course", "left", "[I", true)
  | _ => ("RoomsOfHours$Course", "visits", "I", false)
def am_R2 : String := "RoomsOfHours$House"
def am_T2 : u_T := fun k => match k with
  | 0 => ("RoomsOfHours$House", "pace", "[I", true)
  | 1 => ("RoomsOfHours$House", "paceBy", "[I", true)
  | 2 => ("RoomsOfHours$House", "shows", "[I", true)
  | 3 => ("RoomsOfHours$House", "hourTicks", "[I", true)
  | 4 => ("RoomsOfHours$House", "partsOfTick", "[I", true)
  | 5 => ("RoomsOfHours$House", "from", "[I", true)
  | 6 => ("RoomsOfHours$House", "to", "[I", true)
  | 7 => ("RoomsOfHours$House", "leads", "[I", true)
  | 8 => ("RoomsOfHours$House", "personIn", "[I", true)
  | 9 => ("RoomsOfHours$House", "personAge", "[I", true)
  | 10 => ("RoomsOfHours$House", "thingIn", "[I", true)
  | 11 => ("RoomsOfHours$House", "kind", "[I", true)
  | 12 => ("RoomsOfHours$House", "size", "[I", true)
  | 13 => ("RoomsOfHours$House", "numbers", "[I", true)
  | 14 => ("RoomsOfHours$House", "rooms", "I", false)
  | 15 => ("RoomsOfHours$House", "doors", "I", false)
  | 16 => ("RoomsOfHours$House", "persons", "I", false)
  | 17 => ("RoomsOfHours$House", "things", "I", false)
  | _ => ("RoomsOfHours$House", "crossing", "I", false)
def am_R3 : String := "RoomsOfHours$Sights"
def am_T3 : u_T := fun k => match k with
  | 0 => ("RoomsOfHours$Sights", "room", "[I", true)
  | 1 => ("RoomsOfHours$Sights", "hours", "[I", true)
  | 2 => ("RoomsOfHours$Sights", "shown", "[I", true)
  | _ => ("RoomsOfHours$Sights", "count", "I", false)
def am_R4 : String := "RoomsOfHours$Tour"
def am_T4 : u_T := fun k => match k with
  | 0 => ("RoomsOfHours$Tour", "ticks", "[I", false)
  | 1 => ("RoomsOfHours$Tour", "nextTicks", "[I", false)
  | 2 => ("RoomsOfHours$Tour", "soonest", "I", false)
  | _ => ("RoomsOfHours$Tour", "fewest", "I", false)
def am_R5 : String := "RoomsOfHours$Walk"
def am_T5 : u_T := fun k => match k with
  | 0 => ("RoomsOfHours$Walk", "ticks", "[I", true)
  | 1 => ("RoomsOfHours$Walk", "nextTicks", "[I", true)
  | 2 => ("RoomsOfHours$Walk", "firsts", "[I", true)
  | _ => ("RoomsOfHours$Walk", "nextFirsts", "[I", true)
def am_R6 : String := "RoomsOfHours"
def am_T6 : u_T := fun k => match k with
  | 0 => ("RoomsOfHours", "text", "[C", true)
  | 1 => ("RoomsOfHours", "letters", "I", false)
  | 2 => ("RoomsOfHours", "house", "LRoomsOfHours$House;", false)
  | 3 => ("RoomsOfHours", "readHouse", "LRoomsOfHours$House;", false)
  | 4 => ("RoomsOfHours", "course", "LRoomsOfHours$Course;", true)
  | 5 => ("RoomsOfHours", "otherCourse", "LRoomsOfHours$Course;", true)
  | 6 => ("RoomsOfHours", "acts", "LRoomsOfHours$Acts;", true)
  | 7 => ("RoomsOfHours", "keptFirst", "LRoomsOfHours$Acts;", true)
  | 8 => ("RoomsOfHours", "keptLast", "LRoomsOfHours$Acts;", true)
  | 9 => ("RoomsOfHours", "kept", "I", false)
  | 10 => ("RoomsOfHours", "sights", "LRoomsOfHours$Sights;", true)
  | 11 => ("RoomsOfHours", "walk", "LRoomsOfHours$Walk;", true)
  | _ => ("RoomsOfHours", "tour", "LRoomsOfHours$Tour;", true)
def am_R7 : String := "RoomsOfHoursModel"
def am_T7 : u_T := fun k => match k with
  | 0 => ("RoomsOfHoursModel", "length", "I", false)
  | 1 => ("RoomsOfHoursModel", "text", "[I", true)
  | 2 => ("RoomsOfHoursModel", "rooms", "[I", true)
  | 3 => ("RoomsOfHoursModel", "paceP", "[I", true)
  | 4 => ("RoomsOfHoursModel", "paceQ", "[I", true)
  | 5 => ("RoomsOfHoursModel", "shows", "[I", true)
  | 6 => ("RoomsOfHoursModel", "doors", "[I", true)
  | 7 => ("RoomsOfHoursModel", "doorA", "[I", true)
  | 8 => ("RoomsOfHoursModel", "doorB", "[I", true)
  | 9 => ("RoomsOfHoursModel", "leads", "[I", true)
  | 10 => ("RoomsOfHoursModel", "persons", "[I", true)
  | 11 => ("RoomsOfHoursModel", "startRoom", "[I", true)
  | 12 => ("RoomsOfHoursModel", "startAge", "[I", true)
  | 13 => ("RoomsOfHoursModel", "things", "[I", true)
  | 14 => ("RoomsOfHoursModel", "thingRoom", "[I", true)
  | 15 => ("RoomsOfHoursModel", "kinds", "[I", true)
  | 16 => ("RoomsOfHoursModel", "ns", "[I", true)
  | 17 => ("RoomsOfHoursModel", "walk", "[I", true)
  | 18 => ("RoomsOfHoursModel", "acts", "[I", true)
  | 19 => ("RoomsOfHoursModel", "actKind", "[I", true)
  | 20 => ("RoomsOfHoursModel", "actWho", "[I", true)
  | 21 => ("RoomsOfHoursModel", "actWhat", "[I", true)
  | 22 => ("RoomsOfHoursModel", "keptMany", "I", false)
  | 23 => ("RoomsOfHoursModel", "seenMany", "I", false)
  | 24 => ("RoomsOfHoursModel", "seenRoom", "[I", true)
  | 25 => ("RoomsOfHoursModel", "seenHours", "[I", true)
  | 26 => ("RoomsOfHoursModel", "seenOn", "[I", true)
  | 27 => ("RoomsOfHoursModel", "spot", "I", false)
  | 28 => ("RoomsOfHoursModel", "told", "[I", true)
  | 29 => ("RoomsOfHoursModel", "at", "[I", true)
  | 30 => ("RoomsOfHoursModel", "tick", "[I", true)
  | 31 => ("RoomsOfHoursModel", "age", "[I", true)
  | 32 => ("RoomsOfHoursModel", "lies", "[I", true)
  | 33 => ("RoomsOfHoursModel", "holder", "[I", true)
  | 34 => ("RoomsOfHoursModel", "since", "[I", true)
  | 35 => ("RoomsOfHoursModel", "old", "[I", true)
  | 36 => ("RoomsOfHoursModel", "visits", "[I", true)
  | 37 => ("RoomsOfHoursModel", "visitRoom", "[I", true)
  | 38 => ("RoomsOfHoursModel", "visitFrom", "[I", true)
  | 39 => ("RoomsOfHoursModel", "visitTo", "[I", true)
  | 40 => ("RoomsOfHoursModel", "low", "[I", true)
  | 41 => ("RoomsOfHoursModel", "leadTo", "[I", true)
  | 42 => ("RoomsOfHoursModel", "here", "[I", true)
  | 43 => ("RoomsOfHoursModel", "there", "[I", true)
  | _ => ("RoomsOfHoursModel", "ticksOf", "[I", true)
abbrev am_cls : List vw_C := [(am_R0, am_T0, 4), (am_R1, am_T1, 15), (am_R2, am_T2, 19), (am_R3, am_T3, 4), (am_R4, am_T4, 4), (am_R5, am_T5, 4), (am_R6, am_T6, 13), (am_R7, am_T7, 45)]
def am_y0 : Nat → FieldType := fun k => match k with
  | 0 => .array .int
  | 1 => .array .int
  | 2 => .array .int
  | _ => .int
theorem am_y0_ok : ∀ k, k < 4 → parseFieldDescriptor (am_T0 k).2.2.1 = some (am_y0 k) := by decide +kernel
theorem am_n0 : ∀ a, a < 4 → ∀ b, b < 4 → a ≠ b → (am_T0 a).2.1 ≠ (am_T0 b).2.1 := by decide +kernel
theorem am_i0 : ∀ w ∈ u_ws am_R0 am_T0 4, w ∈ am_tbl := am_ins [258, 260, 262, 264] (by decide +kernel) (by decide +kernel)
def am_y1 : Nat → FieldType := fun k => match k with
  | 0 => .object "RoomsOfHours$House"
  | 1 => .int
  | 2 => .array .int
  | 3 => .array .int
  | 4 => .array .int
  | 5 => .array .int
  | 6 => .array .int
  | 7 => .array .int
  | 8 => .array .int
  | 9 => .array .int
  | 10 => .array .int
  | 11 => .array .int
  | 12 => .array .int
  | 13 => .array .int
  | _ => .int
theorem am_y1_ok : ∀ k, k < 15 → parseFieldDescriptor (am_T1 k).2.2.1 = some (am_y1 k) := by decide +kernel
theorem am_n1 : ∀ a, a < 15 → ∀ b, b < 15 → a ≠ b → (am_T1 a).2.1 ≠ (am_T1 b).2.1 := by decide +kernel
theorem am_i1 : ∀ w ∈ u_ws am_R1 am_T1 15, w ∈ am_tbl := am_ins [213, 215, 217, 219, 221, 223, 225, 227, 229, 231, 233, 235, 237, 239, 241] (by decide +kernel) (by decide +kernel)
def am_y2 : Nat → FieldType := fun k => match k with
  | 0 => .array .int
  | 1 => .array .int
  | 2 => .array .int
  | 3 => .array .int
  | 4 => .array .int
  | 5 => .array .int
  | 6 => .array .int
  | 7 => .array .int
  | 8 => .array .int
  | 9 => .array .int
  | 10 => .array .int
  | 11 => .array .int
  | 12 => .array .int
  | 13 => .array .int
  | 14 => .int
  | 15 => .int
  | 16 => .int
  | 17 => .int
  | _ => .int
theorem am_y2_ok : ∀ k, k < 19 → parseFieldDescriptor (am_T2 k).2.2.1 = some (am_y2 k) := by decide +kernel
theorem am_n2 : ∀ a, a < 19 → ∀ b, b < 19 → a ≠ b → (am_T2 a).2.1 ≠ (am_T2 b).2.1 := by decide +kernel
theorem am_i2 : ∀ w ∈ u_ws am_R2 am_T2 19, w ∈ am_tbl := am_ins [141, 143, 145, 147, 149, 151, 153, 155, 157, 159, 161, 163, 165, 167, 169, 171, 173, 175, 177] (by decide +kernel) (by decide +kernel)
def am_y3 : Nat → FieldType := fun k => match k with
  | 0 => .array .int
  | 1 => .array .int
  | 2 => .array .int
  | _ => .int
theorem am_y3_ok : ∀ k, k < 4 → parseFieldDescriptor (am_T3 k).2.2.1 = some (am_y3 k) := by decide +kernel
theorem am_n3 : ∀ a, a < 4 → ∀ b, b < 4 → a ≠ b → (am_T3 a).2.1 ≠ (am_T3 b).2.1 := by decide +kernel
theorem am_i3 : ∀ w ∈ u_ws am_R3 am_T3 4, w ∈ am_tbl := am_ins [278, 280, 282, 284] (by decide +kernel) (by decide +kernel)
def am_y4 : Nat → FieldType := fun k => match k with
  | 0 => .array .int
  | 1 => .array .int
  | 2 => .int
  | _ => .int
theorem am_y4_ok : ∀ k, k < 4 → parseFieldDescriptor (am_T4 k).2.2.1 = some (am_y4 k) := by decide +kernel
theorem am_n4 : ∀ a, a < 4 → ∀ b, b < 4 → a ≠ b → (am_T4 a).2.1 ≠ (am_T4 b).2.1 := by decide +kernel
theorem am_i4 : ∀ w ∈ u_ws am_R4 am_T4 4, w ∈ am_tbl := am_ins [320, 322, 324, 326] (by decide +kernel) (by decide +kernel)
def am_y5 : Nat → FieldType := fun k => match k with
  | 0 => .array .int
  | 1 => .array .int
  | 2 => .array .int
  | _ => .array .int
theorem am_y5_ok : ∀ k, k < 4 → parseFieldDescriptor (am_T5 k).2.2.1 = some (am_y5 k) := by decide +kernel
theorem am_n5 : ∀ a, a < 4 → ∀ b, b < 4 → a ≠ b → (am_T5 a).2.1 ≠ (am_T5 b).2.1 := by decide +kernel
theorem am_i5 : ∀ w ∈ u_ws am_R5 am_T5 4, w ∈ am_tbl := am_ins [299, 301, 303, 305] (by decide +kernel) (by decide +kernel)
def am_y6 : Nat → FieldType := fun k => match k with
  | 0 => .array .char
  | 1 => .int
  | 2 => .object "RoomsOfHours$House"
  | 3 => .object "RoomsOfHours$House"
  | 4 => .object "RoomsOfHours$Course"
  | 5 => .object "RoomsOfHours$Course"
  | 6 => .object "RoomsOfHours$Acts"
  | 7 => .object "RoomsOfHours$Acts"
  | 8 => .object "RoomsOfHours$Acts"
  | 9 => .int
  | 10 => .object "RoomsOfHours$Sights"
  | 11 => .object "RoomsOfHours$Walk"
  | _ => .object "RoomsOfHours$Tour"
theorem am_y6_ok : ∀ k, k < 13 → parseFieldDescriptor (am_T6 k).2.2.1 = some (am_y6 k) := by decide +kernel
theorem am_n6 : ∀ a, a < 13 → ∀ b, b < 13 → a ≠ b → (am_T6 a).2.1 ≠ (am_T6 b).2.1 := by decide +kernel
theorem am_i6 : ∀ w ∈ u_ws am_R6 am_T6 13, w ∈ am_tbl := am_ins [447, 449, 451, 453, 455, 457, 459, 461, 463, 465, 467, 469, 471] (by decide +kernel) (by decide +kernel)
def am_y7 : Nat → FieldType := fun k => match k with
  | 0 => .int
  | 1 => .array .int
  | 2 => .array .int
  | 3 => .array .int
  | 4 => .array .int
  | 5 => .array .int
  | 6 => .array .int
  | 7 => .array .int
  | 8 => .array .int
  | 9 => .array .int
  | 10 => .array .int
  | 11 => .array .int
  | 12 => .array .int
  | 13 => .array .int
  | 14 => .array .int
  | 15 => .array .int
  | 16 => .array .int
  | 17 => .array .int
  | 18 => .array .int
  | 19 => .array .int
  | 20 => .array .int
  | 21 => .array .int
  | 22 => .int
  | 23 => .int
  | 24 => .array .int
  | 25 => .array .int
  | 26 => .array .int
  | 27 => .int
  | 28 => .array .int
  | 29 => .array .int
  | 30 => .array .int
  | 31 => .array .int
  | 32 => .array .int
  | 33 => .array .int
  | 34 => .array .int
  | 35 => .array .int
  | 36 => .array .int
  | 37 => .array .int
  | 38 => .array .int
  | 39 => .array .int
  | 40 => .array .int
  | 41 => .array .int
  | 42 => .array .int
  | 43 => .array .int
  | _ => .array .int
theorem am_y7_ok : ∀ k, k < 45 → parseFieldDescriptor (am_T7 k).2.2.1 = some (am_y7 k) := by decide +kernel
theorem am_n7 : ∀ a, a < 45 → ∀ b, b < 45 → a ≠ b → (am_T7 a).2.1 ≠ (am_T7 b).2.1 := by decide +kernel
theorem am_i7 : ∀ w ∈ u_ws am_R7 am_T7 45, w ∈ am_tbl := am_ins [948, 950, 952, 954, 956, 958, 960, 962, 964, 966, 968, 970, 972, 974, 976, 978, 980, 982, 984, 986, 988, 990, 992, 994, 996, 998, 1000, 1002, 1004, 1006, 1008, 1010, 1012, 1014, 1016, 1018, 1020, 1022, 1024, 1026, 1028, 1030, 1032, 1034, 1036] (by decide +kernel) (by decide +kernel)
def am_CT : List Nat := [6, 9, 2, 106, 106, 106, 106, 106, 108, 108, 108, 104, 104, 105, 105, 105, 104, 2, 106, 106, 106, 106, 106, 108, 108, 108, 104, 104, 105, 105, 105, 104, 1, 104, 104, 104, 104, 105, 105, 105, 105, 144, 144, 144, 144, 1, 104, 104, 104, 104, 105, 105, 105, 105, 144, 144, 144, 144, 0, 140, 140, 140, 0, 140, 140, 140, 0, 140, 140, 140, 3, 108, 108, 108, 5, 106, 106, 106, 106, 4, 484, 484, 7, 300, 102, 112, 112, 112, 102, 116, 116, 116, 102, 108, 108, 102, 110, 110, 110, 102, 103, 220, 220, 220, 108, 108, 108, 104, 104, 104, 104, 105, 105, 105, 105, 104, 264, 264, 264, 154, 106, 484, 484, 104]
def am_lk : List Nat → Nat → Nat
  | [], _ => 8
  | a :: _, 0 => a
  | _ :: l, n + 1 => am_lk l n
def am_ct (k : Nat) : Nat := am_lk am_CT k
def am_FT : List (List (Nat × Nat × Nat)) := [[(1, 140, 1), (1, 140, 2), (1, 140, 3), (0, 0, 0)], [(2, 2, 0), (0, 0, 0), (1, 104, 1), (1, 104, 2), (1, 104, 3), (1, 104, 4), (1, 105, 5), (1, 105, 6), (1, 105, 7), (1, 105, 8), (1, 144, 9), (1, 144, 10), (1, 144, 11), (1, 144, 12), (0, 0, 0)], [(1, 106, 1), (1, 106, 2), (1, 106, 3), (1, 106, 4), (1, 106, 5), (1, 108, 6), (1, 108, 7), (1, 108, 8), (1, 104, 9), (1, 104, 10), (1, 105, 11), (1, 105, 12), (1, 105, 13), (1, 104, 14), (0, 0, 0), (0, 0, 0), (0, 0, 0), (0, 0, 0), (0, 0, 0)], [(1, 108, 1), (1, 108, 2), (1, 108, 3), (0, 0, 0)], [(2, 484, 0), (2, 484, 0), (0, 0, 0), (0, 0, 0)], [(1, 106, 1), (1, 106, 2), (1, 106, 3), (1, 106, 4)], [(1, 9, 1), (0, 0, 0), (2, 2, 0), (2, 2, 0), (1, 1, 32), (1, 1, 45), (1, 0, 58), (1, 0, 62), (1, 0, 66), (0, 0, 0), (1, 3, 70), (1, 5, 74), (1, 4, 79)], [(0, 0, 0), (1, 300, 1), (1, 102, 2), (1, 112, 3), (1, 112, 4), (1, 112, 5), (1, 102, 6), (1, 116, 7), (1, 116, 8), (1, 116, 9), (1, 102, 10), (1, 108, 11), (1, 108, 12), (1, 102, 13), (1, 110, 14), (1, 110, 15), (1, 110, 16), (1, 102, 17), (1, 103, 18), (1, 220, 19), (1, 220, 20), (1, 220, 21), (0, 0, 0), (0, 0, 0), (1, 108, 22), (1, 108, 23), (1, 108, 24), (0, 0, 0), (1, 104, 25), (1, 104, 26), (1, 104, 27), (1, 104, 28), (1, 105, 29), (1, 105, 30), (1, 105, 31), (1, 105, 32), (1, 104, 33), (1, 264, 34), (1, 264, 35), (1, 264, 36), (1, 154, 37), (1, 106, 38), (1, 484, 39), (1, 484, 40), (1, 104, 41)]]
def am_ft (t j : Nat) : Nat × Nat × Nat := (am_FT.getD t []).getD j (0, 0, 0)
def am_nf (t : Nat) : Nat := (am_FT.getD t []).length
/-- the fields of the cells below n that are final references lead to cells below n, of the kind that the table says -/
def am_clo (n : Nat) : Bool := (List.range n).all fun o => (List.range (am_nf (am_ct o))).all fun j => !(decide (am_ct o < 8) && (am_ft (am_ct o) j).1 == 1) || (decide (o + (am_ft (am_ct o) j).2.2 < n) && am_ct (o + (am_ft (am_ct o) j).2.2) == (am_ft (am_ct o) j).2.1)
theorem am_clo82 : am_clo 82 = true := by decide +kernel
theorem am_clo124 : am_clo 124 = true := by decide +kernel
theorem am_clo_of {n o j : Nat} (h : am_clo n = true) (ho : o < n) (h8 : am_ct o < 8) (hj : j < am_nf (am_ct o)) {t off : Nat} (hf : am_ft (am_ct o) j = (1, t, off)) : o + off < n ∧ am_ct (o + off) = t := by
  have h1 := List.all_eq_true.mp h o (List.mem_range.mpr ho)
  have h2 := List.all_eq_true.mp h1 j (List.mem_range.mpr hj)
  rw [hf] at h2
  simp [h8] at h2
  exact h2
/-- every cell is an object, the letters, or a row of ints -/
def am_kdB (n : Nat) : Bool := (List.range n).all fun o => decide (am_ct o < 8) || am_ct o == 9 || decide (100 ≤ am_ct o)
def am_cv (b0 bS : Nat) : am_V → Value
  | Sum.inl x => .int x
  | Sum.inr (Sum.inl (t, a)) => .ref (if t = 8 then bS else b0 + a)
  | Sum.inr (Sum.inr x) => .long x
theorem am_cv_cat (b0 bS : Nat) (v : am_V) : (am_cv b0 bS v).category = am_cat v := by
  rcases v with x | ⟨t, a⟩ | x <;> rfl
def am_ok (nC : Nat) (sc : Prop) : am_V → Prop
  | Sum.inr (Sum.inl (t, a)) => if t = 8 then sc else a < nC ∧ am_ct a = t
  | _ => True
def am_lv (f : am_V → Value) : Nat → am_L → List (Nat × Value)
  | _, [] => []
  | i, none :: l => am_lv f (i + 1) l
  | i, some v :: l => (i, f v) :: am_lv f (i + 1) l
theorem am_lv_mem {f : am_V → Value} (l : am_L) : ∀ (i : Nat) (q : Nat × Value), q ∈ am_lv f i l ↔ ∃ (j : Nat) (v : am_V), am_ix l j = some v ∧ q = (i + j, f v) := by
  induction l with
  | nil => intro i q; simp [am_lv, am_ix]
  | cons a l ih =>
    intro i q
    have key : (∃ (j : Nat) (v : am_V), am_ix (a :: l) j = some v ∧ q = (i + j, f v)) ↔ (∃ v, a = some v ∧ q = (i, f v)) ∨ ∃ (j : Nat) (v : am_V), am_ix l j = some v ∧ q = (i + 1 + j, f v) := by
      constructor
      · rintro ⟨j, v, h1, h2⟩
        match j, h1, h2 with
        | 0, h1, h2 => exact Or.inl ⟨v, h1, h2⟩
        | j + 1, h1, h2 => exact Or.inr ⟨j, v, h1, by rw [h2]; congr 1; omega⟩
      · rintro (⟨v, h1, h2⟩ | ⟨j, v, h1, h2⟩)
        · exact ⟨0, v, h1, h2⟩
        · exact ⟨j + 1, v, h1, by rw [h2]; congr 1; omega⟩
    rw [key]
    cases a with
    | none => simp [am_lv, ih]
    | some v => simp [am_lv, ih]
theorem am_ix_st (l : am_L) : ∀ (i j : Nat) (w : Option am_V), am_ix (am_st l i w) j = if j = i ∧ i < l.length then w else am_ix l j := by
  induction l with
  | nil => intro i j w; simp [am_st, am_ix]
  | cons a l ih =>
    intro i j w
    match i, j with
    | 0, 0 => simp [am_st, am_ix]
    | 0, j + 1 => simp [am_st, am_ix]
    | i + 1, 0 => simp [am_st, am_ix]
    | i + 1, j + 1 => simp [am_st, am_ix, ih]
theorem am_st_len (l : am_L) : ∀ (i : Nat) (w : Option am_V), (am_st l i w).length = l.length := by
  induction l with
  | nil => intro i w; rfl
  | cons a l ih =>
    intro i w
    match i with
    | 0 => rfl
    | i + 1 => simp [am_st, ih]
theorem am_ix_lt {l : am_L} : ∀ {i : Nat} {v : am_V}, am_ix l i = some v → i < l.length := by
  induction l with
  | nil => intro i v h; simp [am_ix] at h
  | cons a l ih =>
    intro i v h
    match i, h with
    | 0, _ => simp
    | i + 1, h => have := ih (i := i) h; simp; omega
/-- the locals -/
def am_LR (f : am_V → Value) (nL : Nat) (ls : am_L) (sl : Array Slot) : Prop := ls.length = nL ∧ lv_has sl nL (am_lv f 0 ls)
theorem am_LR.ld {f : am_V → Value} {nL : Nat} {ls : am_L} {sl : Array Slot} (h : am_LR f nL ls sl) {i : Nat} {v : am_V} (hi : am_ix ls i = some v) : sl[i]? = some (.val (f v)) :=
  h.2.2.2 (i, f v) ((am_lv_mem ls 0 _).mpr ⟨i, v, hi, by simp⟩)
theorem am_LR.at {f : am_V → Value} {nL : Nat} {ls : am_L} {sl : Array Slot} (h : am_LR f nL ls sl) {i : Nat} {v : am_V} (hi : am_ix ls i = some v) : ∃ k : Nat, (am_lv f 0 ls)[k]? = some (i, f v) :=
  List.getElem?_of_mem ((am_lv_mem ls 0 _).mpr ⟨i, v, hi, by simp⟩)
theorem am_pre_some {ls : am_L} {i : Nat} {k : am_Z} {r : am_H × Option Int32} (h : am_pre ls i k = some r) : k = some r ∧ ∀ (j : Nat) (w : am_V), j + 1 = i → am_ix ls j = some w → am_cat w = 1 := by
  match i, h with
  | 0, h => exact ⟨h, fun j w hj => by omega⟩
  | i + 1, h =>
    have h : (match am_ix ls i with
      | some (Sum.inr (Sum.inr _)) => none
      | _ => k) = some r := h
    split at h
    · cases h
    · rename_i hn
      refine ⟨h, fun j w hj hw => ?_⟩
      have : j = i := by omega
      subst this
      rcases w with x | ⟨t, a⟩ | x
      · rfl
      · rfl
      · exact absurd hw (hn x)
theorem am_LR.st1 {f : am_V → Value} (hf : ∀ v, (f v).category = am_cat v) {nL : Nat} {ls : am_L} {sl sl' : Array Slot} (h : am_LR f nL ls sl) {i : Nat} {v : am_V} (hpre : ∀ (j : Nat) (w : am_V), j + 1 = i → am_ix ls j = some w → am_cat w = 1)
    (h' : lv_has sl' nL ((i, f v) :: (am_lv f 0 ls).filter (fun q => !(q.1 == i) && !(q.1 + 1 == i && q.2.category == 2)))) : am_LR f nL (am_st ls i (some v)) sl' := by
  refine ⟨by rw [am_st_len]; exact h.1, h'.1, h'.2.1, fun q hq => h'.2.2 q ?_⟩
  obtain ⟨j, w, h1, rfl⟩ := (am_lv_mem _ 0 q).mp hq
  rw [am_ix_st] at h1
  split at h1
  · rename_i hc
    cases h1
    rw [hc.1]
    simp
  · rename_i hc
    have hj : j ≠ i := fun e => hc ⟨e, by rw [← e]; exact am_ix_lt (by first | exact h1)⟩
    refine List.mem_cons_of_mem _ (List.mem_filter.mpr ⟨(am_lv_mem ls 0 _).mpr ⟨j, w, h1, rfl⟩, ?_⟩)
    simp only [Nat.zero_add, Bool.and_eq_true, Bool.not_eq_true', beq_eq_false_iff_ne, ne_eq]
    refine ⟨hj, ?_⟩
    by_cases e : j + 1 = i
    · have := hpre j w e h1
      simp [hf, this]
    · simp [e]
theorem am_LR.st2 {f : am_V → Value} (hf : ∀ v, (f v).category = am_cat v) {nL : Nat} {ls : am_L} {sl sl' : Array Slot} (h : am_LR f nL ls sl) {i : Nat} {v : am_V} (hpre : ∀ (j : Nat) (w : am_V), j + 1 = i → am_ix ls j = some w → am_cat w = 1)
    (h' : lv_has sl' nL ((i, f v) :: (am_lv f 0 ls).filter (fun q => !(q.1 == i) && (!(q.1 == i + 1) && !(q.1 + 1 == i && q.2.category == 2))))) : am_LR f nL (am_st (am_st ls i (some v)) (i + 1) none) sl' := by
  refine ⟨by rw [am_st_len, am_st_len]; exact h.1, h'.1, h'.2.1, fun q hq => h'.2.2 q ?_⟩
  obtain ⟨j, w, h1, rfl⟩ := (am_lv_mem _ 0 q).mp hq
  have hj1 : j ≠ i + 1 := by
    intro e
    have hl := am_ix_lt h1
    rw [am_st_len] at hl
    rw [am_ix_st, if_pos ⟨e, by omega⟩] at h1
    cases h1
  rw [am_ix_st, if_neg (fun q => hj1 q.1), am_ix_st] at h1
  split at h1
  · rename_i hc
    cases h1
    rw [hc.1]
    simp
  · rename_i hc
    have hj : j ≠ i := fun e => hc ⟨e, by rw [← e]; exact am_ix_lt h1⟩
    refine List.mem_cons_of_mem _ (List.mem_filter.mpr ⟨(am_lv_mem ls 0 _).mpr ⟨j, w, h1, rfl⟩, ?_⟩)
    simp only [Nat.zero_add, Bool.and_eq_true, Bool.not_eq_true', beq_eq_false_iff_ne, ne_eq]
    refine ⟨hj, hj1, ?_⟩
    by_cases e : j + 1 = i
    · have := hpre j w e h1
      simp [hf, this]
    · simp [e]
/-- the world -/
def am_fv (b0 t k j : Nat) (x : Int32) : Value := match am_ft t j with
  | (0, _, _) => .int x
  | (1, _, off) => .ref (b0 + (k + off))
  | _ => .ref (b0 + x.toNatClampNeg)
def am_en (b0 : Nat) (cI cH : ClassId) (k : Nat) (f : Nat → Int32) : va_E :=
  if am_ct k < 8 then .inr (am_ct k, (List.range (am_nf (am_ct k))).map (fun j => am_fv b0 (am_ct k) k j (f j))) else if am_ct k = 9 then .inl (cH, 200, .inl f) else .inl (cI, am_ct k - 100, .inl f)
def am_w (b0 : Nat) (cI cH : ClassId) (nC : Nat) (h : am_H) : va_W := (List.range nC).map (fun k => (b0 + k, am_en b0 cI cH k (h k)))
theorem am_w_get {b0 : Nat} {cI cH : ClassId} {nC : Nat} {h : am_H} {k : Nat} (hk : k < nC) : (am_w b0 cI cH nC h)[k]? = some (b0 + k, am_en b0 cI cH k (h k)) := by
  simp [am_w, hk]
theorem am_w_D (b0 : Nat) (cI cH : ClassId) (nC : Nat) (h : am_H) : va_D (fun q => b0 ≤ q) (am_w b0 cI cH nC h) := by
  have key : ∀ (k : Nat) (p : Nat × va_E), (am_w b0 cI cH nC h)[k]? = some p → p.1 = b0 + k := by
    intro k p hp
    by_cases hk : k < nC
    · rw [am_w_get hk] at hp
      cases hp
      rfl
    · simp [am_w, hk] at hp
  refine ⟨fun i j p q hp hq e => ?_, fun k q hq => ?_⟩
  · have h1 := key i p hp
    have h2 := key j q hq
    omega
  · have h1 := key k q hq
    show b0 ≤ q.1
    omega
theorem am_w_set {b0 : Nat} {cI cH : ClassId} {nC : Nat} {h : am_H} {k : Nat} (f : Nat → Int32) : (am_w b0 cI cH nC h).set k (b0 + k, am_en b0 cI cH k f) = am_w b0 cI cH nC (va_up h k f) := by
  apply List.ext_getElem?
  intro i
  by_cases hi : i < nC
  · by_cases e : k = i
    · subst e
      rw [List.getElem?_set_self (by simp [am_w, hi]), am_w_get hi]
      simp [va_up]
    · rw [List.getElem?_set_ne e, am_w_get hi, am_w_get hi]
      have : i ≠ k := fun q => e q.symm
      simp [va_up, this]
  · simp [am_w, hi]
/-- the fields that hold changing references -/
def am_wf (nC : Nat) (h : am_H) : Prop := ∀ o : Nat, o < nC → am_ct o < 8 → ∀ j : Nat, j < am_nf (am_ct o) → ∀ t off : Nat, am_ft (am_ct o) j = (2, t, off) → (h o j).toNatClampNeg < nC ∧ am_ct (h o j).toNatClampNeg = t
theorem am_wf_arr {nC : Nat} {h : am_H} {a : Nat} {f : Nat → Int32} (hw : am_wf nC h) (ha : ¬ am_ct a < 8) : am_wf nC (va_up h a f) := by
  intro o ho h8 j hj t off hf
  have : o ≠ a := fun e => ha (e ▸ h8)
  have e1 : va_up h a f o = h o := by simp [va_up, this]
  rw [e1]
  exact hw o ho h8 j hj t off hf
theorem am_wf_int {nC : Nat} {h : am_H} {a k : Nat} {x : Int32} (hw : am_wf nC h) (hk : ∀ t off : Nat, am_ft (am_ct a) k ≠ (2, t, off)) : am_wf nC (am_up h a k x) := by
  intro o ho h8 j hj t off hf
  have e1 : am_up h a k x o j = h o j := by
    unfold am_up va_up
    by_cases e : o = a
    · subst e
      have : j ≠ k := fun q => hk t off (q ▸ hf)
      simp [upd, this]
    · simp [e]
  rw [e1]
  exact hw o ho h8 j hj t off hf
theorem am_wf_ref {nC : Nat} {h : am_H} {a k b t' off' : Nat} (hw : am_wf nC h) (hk : am_ft (am_ct a) k = (2, t', off')) (hb : b < nC) (hb' : b < 2 ^ 31) (ht : am_ct b = t') : am_wf nC (am_up h a k (nI b)) := by
  intro o ho h8 j hj t off hf
  by_cases e : o = a ∧ j = k
  · obtain ⟨rfl, rfl⟩ := e
    have e1 : am_up h o j (nI b) o j = nI b := by simp [am_up, va_up, upd]
    rw [e1, nI_clamp hb']
    rw [hk] at hf
    cases hf
    exact ⟨hb, ht⟩
  · have e1 : am_up h a k (nI b) o j = h o j := by
      unfold am_up va_up
      by_cases e2 : o = a
      · subst e2
        have : j ≠ k := fun q => e ⟨rfl, q⟩
        simp [upd, this]
      · simp [e2]
    rw [e1]
    exact hw o ho h8 j hj t off hf
/-! WHAT IS CHECKED OF A ROW, and the methods' table -/
def am_pcI (l : List am_W) (x : Int) : Bool := match l with
  | (pc, _) :: _ => decide ((pc : Int) = x)
  | [] => false
def am_pc (l : List am_W) : Nat := match l with
  | (pc, _) :: _ => pc
  | [] => 0
theorem am_pcI_pc {l : List am_W} {x : Int} (h : am_pcI l x = true) : ((am_pc l : Nat) : Int) = x := by
  match l, h with
  | (pc, _) :: _, h => exact of_decide_eq_true h
def am_tsk (tb : List am_W) (pc : Nat) : Nat → List Int → List Nat → Bool
  | _, [], [] => true
  | v, o :: os, v' :: t :: l => v' == v && am_pcI (am_drp t tb) ((pc : Int) + o) && am_tsk tb pc (v + 1) os l
  | _, _, _ => false
def am_lsk (tb : List am_W) (pc : Nat) : List (Int × Int) → List Nat → Bool
  | [], [] => true
  | (a, o) :: os, v :: t :: l => decide (a = (v : Int)) && decide (v < 2 ^ 31) && am_pcI (am_drp t tb) ((pc : Int) + o) && am_lsk tb pc os l
  | _, _ => false
/-- a method: its name, its bytes, its locals, what it returns, whether it is static; the places of its words: code, static or instance, selects, initialized -/
abbrev am_M : Type := MethodName × ByteArray × Nat × Option FieldType × Bool × List Nat
def am_word (i : Nat) (w : Cond) : Bool := decide (lw_tbl[i]? = some w) && goodWord w
theorem am_word_mem {i : Nat} {w : Cond} (h : am_word i w = true) : w ∈ am_tbl := by
  unfold am_word at h
  rw [Bool.and_eq_true] at h
  exact List.mem_filter.mpr ⟨List.mem_of_getElem? (of_decide_eq_true h.1), h.2⟩
def am_fck (own : String) (idx : Nat) (aux : List Nat) : Bool := match aux with
  | kd :: ci :: sl :: tg :: off :: wi :: _ => (match am_cls[ci]? with
    | some (C, T, N) => decide (sl < N) && decide (N = am_nf ci) && decide ((T sl).1 = C) && decide (am_ft ci sl = (kd, tg, off)) && decide (ci < 8) && decide (kd ≤ 2) && decide (tg ≠ 8) && am_word wi (.fieldLink own idx C (T sl).2.1 (T sl).2.2.1)
    | none => false)
  | _ => false
def am_pck (aux : List Nat) : Bool := match aux with
  | kd :: ci :: sl :: _ => (match am_cls[ci]? with
    | some (_, T, _) => decide ((T sl).2.2.2 = false) && (match kd with
      | 0 => decide (parseFieldDescriptor (T sl).2.2.1 = some .int)
      | _ => (match parseFieldDescriptor (T sl).2.2.1 with
        | some (.object _) => true
        | some (.array _) => true
        | _ => false))
    | none => false)
  | _ => false
section CHK
variable (mt : Nat → am_M) (own : String) (cc : ByteArray) (tb : List am_W) (nL : Nat) (rt : Option FieldType)
def am_ick (st : Bool) (idx : Nat) (aux : List Nat) : Bool := match aux with
  | z :: n :: rv :: ci :: wi :: _ => decide ((mt z).2.2.2.2.1 = st) && (st || decide (am_cls[ci]?.map (fun q => q.1) = some (mt z).1.cls)) && am_word wi (.methodLink own idx (mt z).1) && decide ((parseMethodDescriptor (mt z).1.desc).map (fun d => d.parameters.length) = some (if st then n else n - 1)) && (st || decide (0 < n)) && decide ((mt z).2.2.2.1 = none ↔ rv = 0)
  | _ => false
def am_il : Instr → Nat
  | .iload _ | .aload _ | .lload _ | .istore _ | .lstore _ | .bipush _ | .ldc _ => 2
  | .getfield _ | .putfield _ | .invokevirtual _ | .invokestatic _ | .if_icmp _ _ | .ifCond _ _ | .goto _ | .iinc _ _ | .sipush _ | .ldc_w _ | .ldc2_w _ => 3
  | _ => 1
def am_dck (pc len : Nat) (ins : Instr) : Bool := decide (decode cc pc = .ok (ins, len))
/-- what is to be checked beside the bytes -/
def am_xck (pc len : Nat) (ins : Instr) (aux : List Nat) (q : Int32) (rest : List am_W) : Bool := match ins with
  | .goto off => (match aux with
    | t :: _ => am_pcI (am_drp t tb) ((pc : Int) + off)
    | _ => false)
  | .if_icmp _ off => am_pcI rest ((pc + len : Nat) : Int) && (match aux with
    | t :: _ => am_pcI (am_drp t tb) ((pc : Int) + off)
    | _ => false)
  | .ifCond _ off => am_pcI rest ((pc + len : Nat) : Int) && (match aux with
    | t :: _ => am_pcI (am_drp t tb) ((pc : Int) + off)
    | _ => false)
  | .tableswitch d lo hi offs => (match aux with
    | t :: l => am_pcI (am_drp t tb) ((pc : Int) + d) && decide (0 ≤ lo) && decide (hi + 1 = lo + offs.toList.length) && am_tsk tb pc lo.toNat offs.toList l && decide (hi < 2 ^ 31)
    | _ => false)
  | .lookupswitch d ps => (match aux with
    | t :: l => am_pcI (am_drp t tb) ((pc : Int) + d) && (ps.toList.zip (ps.toList.drop 1)).all (fun (a, next) => a.1 < next.1) && am_lsk tb pc ps.toList l
    | _ => false)
  | .ireturn => (match aux with
    | 0 :: _ => decide (rt = some .int)
    | 1 :: _ => decide (rt = some .boolean)
    | _ => false)
  | .return_ => decide (rt = none)
  | .getfield idx => am_pcI rest ((pc + len : Nat) : Int) && am_fck own idx aux
  | .putfield idx => am_pcI rest ((pc + len : Nat) : Int) && am_fck own idx aux && am_pck aux
  | .invokevirtual idx => am_pcI rest ((pc + len : Nat) : Int) && am_ick mt own false idx aux
  | .invokestatic idx => am_pcI rest ((pc + len : Nat) : Int) && (match aux with
    | 999 :: wi :: _ => am_word wi (.methodLink own idx arraycopyName)
    | _ => am_ick mt own true idx aux)
  | .ldc idx => am_pcI rest ((pc + len : Nat) : Int) && (match aux with
    | wi :: _ => am_word wi (.constant own idx q)
    | _ => false)
  | .ldc_w idx => am_pcI rest ((pc + len : Nat) : Int) && (match aux with
    | wi :: _ => am_word wi (.constant own idx q)
    | _ => false)
  | .ldc2_w idx => am_pcI rest ((pc + len : Nat) : Int) && (match aux with
    | wi :: _ => am_word wi (.constantLong own idx q.toInt64)
    | _ => false)
  | .iconst n => am_pcI rest ((pc + len : Nat) : Int) && decide (Int32.ofInt n = q)
  | .bipush n => am_pcI rest ((pc + len : Nat) : Int) && decide ((Int8.ofInt n).toInt32 = q)
  | .sipush n => am_pcI rest ((pc + len : Nat) : Int) && decide ((Int16.ofInt n).toInt32 = q)
  | .lconst n => am_pcI rest ((pc + len : Nat) : Int) && decide (Int64.ofNat (n : Nat) = q.toInt64)
  | .iinc n k => am_pcI rest ((pc + len : Nat) : Int) && decide (Int32.ofInt k = q) && decide (n < nL)
  | .istore n => am_pcI rest ((pc + len : Nat) : Int) && decide (n < nL)
  | .istore_n n => am_pcI rest ((pc + len : Nat) : Int) && decide (n.val < nL)
  | .astore_n n => am_pcI rest ((pc + len : Nat) : Int) && decide (n.val < nL)
  | .lstore n => am_pcI rest ((pc + len : Nat) : Int) && decide (n + 1 < nL)
  | .lstore_n n => am_pcI rest ((pc + len : Nat) : Int) && decide (n.val + 1 < nL)
  | _ => am_pcI rest ((pc + len : Nat) : Int)
def am_sw? : Instr → Bool
  | .tableswitch _ _ _ _ => true
  | .lookupswitch _ _ => true
  | _ => false
def am_chk (w : am_W) (rest : List am_W) : Bool := match w with
  | (pc, len, ins, aux, q) => (match ins with
    | .nop => (match aux with
      | i :: _ => am_pcI (am_drp i tb) ((pc : Nat) : Int)
      | _ => false)
    | ins => am_dck cc pc len ins && (am_sw? ins || len == am_il ins) && am_xck mt own tb nL rt pc len ins aux q rest)
def am_chks : List am_W → Bool
  | [] => true
  | w :: rest => am_chk mt own cc tb nL rt w rest && am_chks rest
end CHK
theorem am_chks_drp {mt : Nat → am_M} {own : String} {cc : ByteArray} {tb : List am_W} {nL : Nat} {rt : Option FieldType} : ∀ (i : Nat) (l : List am_W), am_chks mt own cc tb nL rt l = true → am_chks mt own cc tb nL rt (am_drp i l) = true := by
  intro i
  induction i with
  | zero => intro l h; exact h
  | succ i ih =>
    intro l h
    match l, h with
    | [], h => exact h
    | w :: l, h =>
      simp only [am_chks, Bool.and_eq_true] at h
      exact ih l h.2
theorem am_drp_succ {w : am_W} {rest : List am_W} : ∀ {i : Nat} {tb : List am_W}, am_drp i tb = w :: rest → rest = am_drp (i + 1) tb := by
  intro i
  induction i with
  | zero =>
    intro tb h
    match tb, h with
    | w' :: l, h => cases h; rfl
  | succ i ih =>
    intro tb h
    match tb, h with
    | w' :: l, h => exact ih (tb := l) h
end
section
/-! SMALL INVERSIONS -/
theorem am_pi_some {st : List am_V} {k : Int32 → List am_V → am_Z} {Z : am_H × Option Int32} (h : am_pi st k = some Z) : ∃ x r, st = vi x :: r ∧ k x r = some Z := by
  match st, h with
  | Sum.inl x :: r, h => exact ⟨x, r, rfl, h⟩
theorem am_pa_some {st : List am_V} {k : Nat → Nat → List am_V → am_Z} {Z : am_H × Option Int32} (h : am_pa st k = some Z) : ∃ t a r, st = vr t a :: r ∧ k t a r = some Z := by
  match st, h with
  | Sum.inr (Sum.inl (t, a)) :: r, h => exact ⟨t, a, r, rfl, h⟩
theorem am_pl_some {st : List am_V} {k : Int64 → List am_V → am_Z} {Z : am_H × Option Int32} (h : am_pl st k = some Z) : ∃ x r, st = vl x :: r ∧ k x r = some Z := by
  match st, h with
  | Sum.inr (Sum.inr x) :: r, h => exact ⟨x, r, rfl, h⟩
theorem am_2_some {st : List am_V} {k : Int32 → Int32 → List am_V → am_Z} {Z : am_H × Option Int32} (h : am_2 st k = some Z) : ∃ a b r, st = vi b :: vi a :: r ∧ k a b r = some Z := by
  obtain ⟨b, r, rfl, h1⟩ := am_pi_some h
  obtain ⟨a, r, rfl, h2⟩ := am_pi_some h1
  exact ⟨a, b, r, rfl, h2⟩
theorem am_2l_some {st : List am_V} {k : Int64 → Int64 → List am_V → am_Z} {Z : am_H × Option Int32} (h : am_2l st k = some Z) : ∃ a b r, st = vl b :: vl a :: r ∧ k a b r = some Z := by
  obtain ⟨b, r, rfl, h1⟩ := am_pl_some h
  obtain ⟨a, r, rfl, h2⟩ := am_pl_some h1
  exact ⟨a, b, r, rfl, h2⟩
theorem am_ldi_some {l : am_L} {i : Nat} {k : Int32 → am_Z} {Z : am_H × Option Int32} (h : am_ldi l i k = some Z) : ∃ x, am_ix l i = some (vi x) ∧ k x = some Z := by
  unfold am_ldi at h
  split at h
  · rename_i x hx; exact ⟨x, hx, h⟩
  · cases h
theorem am_lda_some {l : am_L} {i : Nat} {k : Nat → Nat → am_Z} {Z : am_H × Option Int32} (h : am_lda l i k = some Z) : ∃ t a, am_ix l i = some (vr t a) ∧ k t a = some Z := by
  unfold am_lda at h
  split at h
  · rename_i t a hx; exact ⟨t, a, hx, h⟩
  · cases h
theorem am_ldl_some {l : am_L} {i : Nat} {k : Int64 → am_Z} {Z : am_H × Option Int32} (h : am_ldl l i k = some Z) : ∃ x, am_ix l i = some (vl x) ∧ k x = some Z := by
  unfold am_ldl at h
  split at h
  · rename_i x hx; exact ⟨x, hx, h⟩
  · cases h
theorem am_b_some {n : Nat} {i : Int32} {k : Nat → am_Z} {Z : am_H × Option Int32} (h : am_b n i k = some Z) : vp_in i n ∧ k i.toNatClampNeg = some Z := by
  unfold am_b at h
  split at h
  · cases h
  · rename_i q; exact ⟨q, h⟩
theorem am_if_some {c : Prop} [Decidable c] {k : am_Z} {Z : am_H × Option Int32} (h : (if c then k else none) = some Z) : c ∧ k = some Z := by
  split at h
  · rename_i q; exact ⟨q, h⟩
  · cases h
theorem am_ifn_some {c : Prop} [Decidable c] {k : am_Z} {Z : am_H × Option Int32} (h : (if c then none else k) = some Z) : ¬ c ∧ k = some Z := by
  split at h
  · cases h
  · rename_i q; exact ⟨q, h⟩
theorem am_r1_some {r : am_Z} {k : am_H → Int32 → am_Z} {Z : am_H × Option Int32} (h : am_r1 r k = some Z) : ∃ h' x, r = some (h', some x) ∧ k h' x = some Z := by
  match r, h with
  | some (h', some x), h => exact ⟨h', x, rfl, h⟩
theorem am_r0_some {r : am_Z} {k : am_H → am_Z} {Z : am_H × Option Int32} (h : am_r0 r k = some Z) : ∃ h', r = some (h', none) ∧ k h' = some Z := by
  match r, h with
  | some (h', none), h => exact ⟨h', rfl, h⟩
theorem am_tk_some {Z : am_H × Option Int32} {k : List am_V → List am_V → am_Z} : ∀ {n : Nat} {st as : List am_V}, am_tk n st as k = some Z → ∃ ts r, st = ts ++ r ∧ ts.length = n ∧ k (ts.reverse ++ as) r = some Z := by
  intro n
  induction n with
  | zero => intro st as h; exact ⟨[], st, rfl, rfl, h⟩
  | succ n ih =>
    intro st as h
    match st, h with
    | v :: st, h =>
      obtain ⟨ts, r, rfl, hl, hk⟩ := ih (st := st) h
      exact ⟨v :: ts, r, rfl, by simp [hl], by simpa using hk⟩
theorem am_cats_sum (b0 bS : Nat) : ∀ (r : List am_V), ((r.map (am_cv b0 bS)).map fun v => v.category).sum = am_cats r := by
  intro r
  induction r with
  | nil => rfl
  | cons v r ih => simp only [List.map_cons, List.sum_cons, am_cats, ih, am_cv_cat]
theorem am_rcv_some {ci : Nat} {as : List am_V} {k : am_Z} {Z : am_H × Option Int32} (h : am_rcv true ci as k = some Z) : ∃ a as', as = vr ci a :: as' ∧ k = some Z := by
  match as, h with
  | Sum.inr (Sum.inl (t, a)) :: as', h =>
    have h : (if t = ci then k else none) = some Z := h
    obtain ⟨rfl, h1⟩ := am_if_some h
    exact ⟨a, as', rfl, h1⟩
theorem am_rcv_any {v : Bool} {ci : Nat} {as : List am_V} {k : am_Z} {Z : am_H × Option Int32} (h : am_rcv v ci as k = some Z) : k = some Z := by
  cases v with
  | false => exact h
  | true => obtain ⟨a, as', -, h1⟩ := am_rcv_some h; exact h1
theorem am_nxt {l : List am_W} {n : Nat} (h : am_pcI l (n : Int) = true) : am_pc l = n := by
  have := am_pcI_pc h
  omega
theorem am_split {mt : Nat → am_M} {own : String} {cc : ByteArray} {tb rest : List am_W} {nL pc len : Nat} {rt : Option FieldType} {ins : Instr} {aux : List Nat} {q : Int32} (h : am_chk mt own cc tb nL rt (pc, len, ins, aux, q) rest = true) (hn : ins ≠ .nop) :
    decode cc pc = .ok (ins, len) ∧ (am_sw? ins = true ∨ len = am_il ins) ∧ am_xck mt own tb nL rt pc len ins aux q rest = true := by
  unfold am_chk at h
  split at h
  rename_i e
  cases e
  split at h
  · exact absurd rfl hn
  · simp only [Bool.and_eq_true, Bool.or_eq_true, beq_iff_eq] at h
    exact ⟨of_decide_eq_true h.1.1, h.1.2, h.2⟩
theorem am_split1 {mt : Nat → am_M} {own : String} {cc : ByteArray} {tb rest : List am_W} {nL pc len : Nat} {rt : Option FieldType} {ins : Instr} {aux : List Nat} {q : Int32} (h : am_chk mt own cc tb nL rt (pc, len, ins, aux, q) rest = true) (hn : ins ≠ .nop) (hs : am_sw? ins = false) :
    decode cc pc = .ok (ins, am_il ins) ∧ am_xck mt own tb nL rt pc (am_il ins) ins aux q rest = true := by
  obtain ⟨h1, h2, h3⟩ := am_split h hn
  rw [hs] at h2
  have h2 : len = am_il ins := by simpa using h2
  subst h2
  exact ⟨h1, h3⟩
/-! WHAT A METHOD'S CONTRACT SAYS -/
/-- the room of a level -/
def am_rm (d : Nat) : Room := { frames := d, cells := 0, slots := 0, locals := 35 * d }
def am_mw (mt : Nat → am_M) (z : Nat) : List Cond := Cond.code (mt z).1 (mt z).2.1 (mt z).2.2.1 (mt z).2.2.2.1 :: am_tbl
abbrev am_A (b0 : Nat) : Nat → Prop := fun q => b0 ≤ q
def am_Pc (b0 nC : Nat) (D : va_G) (cI cH : ClassId) (as : List am_V) (h : am_H) : Array Value → State → Prop := fun v U => v = (as.map (am_cv b0 0)).toArray ∧ va_P D am_cls (am_w b0 cI cH nC h) U.heap ∧ va_K D am_cls [(cI, .int), (cH, .char)] U
def am_Qc (b0 nC : Nat) (D : va_G) (cI cH : ClassId) (h : am_H) (r : Option Int32) : Array Value → State → Outcome → State → Prop := match r with
  | some v => va_Qi (fun x (_ : Unit) => x = v ∧ am_wf nC h) (fun _ t => va_P D am_cls (am_w b0 cI cH nC h) t.heap) (am_A b0)
  | none => va_Qv (fun (_ : Unit) => am_wf nC h) (fun _ t => va_P D am_cls (am_w b0 cI cH nC h) t.heap) (am_A b0)
/-- what G answers, the methods do, in the room of level d -/
def am_GO (l : Launch) (mt : Nat → am_M) (b0 nC : Nat) (D : va_G) (cI cH : ClassId) (d : Nat) (G : Nat → List am_V → am_H → am_Z) : Prop :=
  ∀ (z : Nat) (as : List am_V) (h h' : am_H) (r : Option Int32), G z as h = some (h', r) → (∀ v ∈ as, am_ok nC False v) → am_wf nC h →
    Met l (mt z).1 (am_mw mt z) (am_rm d) (am_Pc b0 nC D cI cH as h) (am_Qc b0 nC D cI cH h' r) 0 0 (am_A b0)
/-- what is known of the methods of the table -/
def am_mck (q : am_M) : Bool := match q with
  | (y, bs, ml, rt, st, g) => decide (y.cls ≠ "java/lang/invoke/MethodHandle") && decide (y.cls ≠ "java/lang/invoke/VarHandle") && decide (ml ≤ 16) && plainFor y && (match g with
    | w0 :: w1 :: w2 :: w3 :: _ => am_word w0 (.code y bs ml rt) && am_word w3 (.initialized y.cls) && (if st then am_word w1 (.static y) else am_word w1 (.instanceMethod y) && am_word w2 (.selects y.cls y y))
    | _ => false)
def am_MT (mt : Nat → am_M) : Prop := ∀ z, am_mck (mt z) = true
theorem am_goodIn {Ts ws : List Cond} (hT : ∀ w ∈ am_tbl, w ∈ Ts) (h : ∀ w ∈ ws, w ∈ am_tbl) : GoodIn Ts ws := fun w hw => ⟨hT w (h w hw), good_of_word (List.mem_filter.mp (h w hw)).2⟩
theorem am_n8_cv {b0 bS : Nat} : ∀ {as : List am_V}, am_n8 as = true → as.map (am_cv b0 bS) = as.map (am_cv b0 0) := by
  intro as
  induction as with
  | nil => intro _; rfl
  | cons v as ih =>
    intro h
    rcases v with x | ⟨t, a⟩ | x
    · simp only [List.map_cons, ih (show am_n8 as = true from h)]
      rfl
    · have h : (if t = 8 then false else am_n8 as) = true := h
      split at h
      · cases h
      · rename_i ht
        simp only [List.map_cons, ih h, am_cv, ht, if_false]
    · simp only [List.map_cons, ih (show am_n8 as = true from h)]
      rfl
theorem am_n8_ok {nC : Nat} {sc : Prop} : ∀ {as : List am_V}, am_n8 as = true → (∀ v ∈ as, am_ok nC sc v) → ∀ v ∈ as, am_ok nC False v := by
  intro as
  induction as with
  | nil => intro _ _ v hv; cases hv
  | cons w as ih =>
    intro h hk v hv
    have htl : ∀ v ∈ as, am_ok nC sc v := fun v hv => hk v (List.mem_cons_of_mem _ hv)
    rcases w with x | ⟨t, a⟩ | x
    · rcases List.mem_cons.mp hv with rfl | hv
      · trivial
      · exact ih (show am_n8 as = true from h) htl v hv
    · have h : (if t = 8 then false else am_n8 as) = true := h
      split at h
      · cases h
      · rename_i ht
        rcases List.mem_cons.mp hv with rfl | hv
        · have := hk _ List.mem_cons_self
          simp only [am_ok, ht, if_false] at this ⊢
          exact this
        · exact ih h htl v hv
    · rcases List.mem_cons.mp hv with rfl | hv
      · trivial
      · exact ih (show am_n8 as = true from h) htl v hv
section SIM
variable {p : Program} {l : Launch} {e : Env} {R : Room} {s : State} {m : MethodId} {args : Array Value} {below : List Frame} {meth : Method} {c : Code} {cells slots : Nat} {Q : State → Prop}
variable {mt : Nat → am_M} {own : String} {cc : ByteArray} {tb : List am_W} {nL b0 bS nC L d : Nat} {xs : Nat → Int32} {D : va_G} {cI cH : ClassId} {sc : Prop} {rt : Option FieldType} {G : Nat → List am_V → am_H → am_Z}
/-- what holds throughout a method's walk -/
def am_Cx (p : Program) (s : State) (m : MethodId) (args : Array Value) (c : Code) (R : Room) (mt : Nat → am_M) (own : String) (cc : ByteArray) (tb : List am_W) (nL b0 bS nC L d : Nat) (xs : Nat → Int32) (D : va_G) (cI cH : ClassId) (sc : Prop) (rt : Option FieldType) : Prop :=
  p.tables.exec = Jvm.exec ∧ c.code = cc ∧ c.maxLocals = nL ∧ s.vm.findClass own = some m.cls ∧ (∀ w ∈ am_tbl, w.before args s = true) ∧ va_K D am_cls [(cI, .int), (cH, .char)] s ∧ am_chks mt own cc tb nL rt tb = true ∧ am_clo nC = true ∧ nC < 1000 ∧ (d + 1 ≤ R.frames ∧ 35 * d + 35 ≤ R.locals) ∧ (sc → va_X bS L xs s s.heap ∧ bS < s.heap.size ∧ ¬ b0 ≤ bS) ∧ am_MT mt
/-- what holds of a frame -/
def am_S (s : State) (nL b0 bS nC : Nat) (D : va_G) (cI cH : ClassId) (sc : Prop) (ls : am_L) (st : List am_V) (h : am_H) (sl : Array Slot) (H : Heap) (locs : List Loc) : Prop :=
  am_LR (am_cv b0 bS) nL ls sl ∧ (∀ i v, am_ix ls i = some v → am_ok nC sc v) ∧ (∀ v ∈ st, am_ok nC sc v) ∧ va_P D am_cls (am_w b0 cI cH nC h) H ∧ am_wf nC h ∧ va_S (am_A b0) s.heap H locs
theorem am_S.stk {ls : am_L} {st st' : List am_V} {h : am_H} {sl : Array Slot} {H : Heap} {locs : List Loc} (S : am_S s nL b0 bS nC D cI cH sc ls st h sl H locs) (hs : ∀ v ∈ st', am_ok nC sc v) : am_S s nL b0 bS nC D cI cH sc ls st' h sl H locs := ⟨S.1, S.2.1, hs, S.2.2.2⟩
theorem am_S.tl {ls : am_L} {v : am_V} {st : List am_V} {h : am_H} {sl : Array Slot} {H : Heap} {locs : List Loc} (S : am_S s nL b0 bS nC D cI cH sc ls (v :: st) h sl H locs) : am_S s nL b0 bS nC D cI cH sc ls st h sl H locs := S.stk fun w hw => S.2.2.1 w (List.mem_cons_of_mem _ hw)
theorem am_S.ps {ls : am_L} {v : am_V} {st : List am_V} {h : am_H} {sl : Array Slot} {H : Heap} {locs : List Loc} (S : am_S s nL b0 bS nC D cI cH sc ls st h sl H locs) (hv : am_ok nC sc v) : am_S s nL b0 bS nC D cI cH sc ls (v :: st) h sl H locs := S.stk fun w hw => (List.mem_cons.mp hw).elim (fun e => e ▸ hv) (S.2.2.1 w)
theorem am_S.hd {ls : am_L} {v : am_V} {st : List am_V} {h : am_H} {sl : Array Slot} {H : Heap} {locs : List Loc} (S : am_S s nL b0 bS nC D cI cH sc ls (v :: st) h sl H locs) : am_ok nC sc v := S.2.2.1 v List.mem_cons_self
theorem am_S.loc {ls ls' : am_L} {st : List am_V} {h : am_H} {sl sl' : Array Slot} {H : Heap} {locs : List Loc} (S : am_S s nL b0 bS nC D cI cH sc ls st h sl H locs) (h1 : am_LR (am_cv b0 bS) nL ls' sl') (h2 : ∀ i v, am_ix ls' i = some v → am_ok nC sc v) : am_S s nL b0 bS nC D cI cH sc ls' st h sl' H locs := ⟨h1, h2, S.2.2⟩
theorem am_okst {ls : am_L} {i : Nat} {v : am_V} (h : ∀ i v, am_ix ls i = some v → am_ok nC sc v) (hv : am_ok nC sc v) : ∀ j w, am_ix (am_st ls i (some v)) j = some w → am_ok nC sc w := by
  intro j w hw
  rw [am_ix_st] at hw
  split at hw
  · cases hw; exact hv
  · exact h j w hw
theorem am_okst0 {ls : am_L} {i : Nat} (h : ∀ i v, am_ix ls i = some v → am_ok nC sc v) : ∀ j w, am_ix (am_st ls i none) j = some w → am_ok nC sc w := by
  intro j w hw
  rw [am_ix_st] at hw
  split at hw
  · cases hw
  · exact h j w hw
/-- from the next row on -/
def am_Nx (p : Program) (l : Launch) (e : Env) (R : Room) (s : State) (m : MethodId) (args : Array Value) (below : List Frame) (meth : Method) (c : Code) (cells slots : Nat) (Q : State → Prop) (nL b0 bS nC : Nat) (D : va_G) (cI cH : ClassId) (sc : Prop) (n : Nat) (k : am_L → List am_V → am_H → am_Z) (Z : am_H × Option Int32) : Prop :=
  ∀ (ls : am_L) (st : List am_V) (h : am_H) (sl : Array Slot) (H : Heap) (locs : List Loc), k ls st h = some Z → am_S s nL b0 bS nC D cI cH sc ls st h sl H locs → W p l e R s m args below meth c H locs cells slots Q (F0 m n sl (st.map (am_cv b0 bS)))
/-- a reference to a cell that stands -/
theorem am_obj {h : am_H} {a t : Nat} (hok : am_ok nC sc (vr t a)) (h8 : t ≠ 8) : a < nC ∧ am_ct a = t := by
  simpa [am_ok, h8] using hok
theorem am_at_obj {h : am_H} {a t : Nat} (ha : a < nC) (ht : am_ct a = t) (h8 : t < 8) : (am_w b0 cI cH nC h)[a]? = some (b0 + a, .inr (t, (List.range (am_nf t)).map (fun j => am_fv b0 t a j (h a j)))) := by
  rw [am_w_get ha]
  simp [am_en, ht, h8]
theorem am_at_int {h : am_H} {a t : Nat} (ha : a < nC) (ht : am_ct a = t) (h8 : 100 ≤ t) : (am_w b0 cI cH nC h)[a]? = some (b0 + a, .inl (cI, t - 100, .inl (h a))) := by
  rw [am_w_get ha]
  have h1 : ¬ t < 8 := by omega
  have h2 : ¬ t = 9 := by omega
  simp [am_en, ht, h1, h2]
theorem am_at_chr {h : am_H} {a : Nat} (ha : a < nC) (ht : am_ct a = 9) : (am_w b0 cI cH nC h)[a]? = some (b0 + a, .inl (cH, 200, .inl (h a))) := by
  rw [am_w_get ha]
  simp [am_en, ht]
theorem am_en_int {a t : Nat} (ht : am_ct a = t) (h8 : 100 ≤ t) (f : Nat → Int32) : am_en b0 cI cH a f = .inl (cI, t - 100, .inl f) := by
  have h1 : ¬ t < 8 := by omega
  have h2 : ¬ t = 9 := by omega
  simp [am_en, ht, h1, h2]
theorem am_en_chr {a : Nat} (ht : am_ct a = 9) (f : Nat → Int32) : am_en b0 cI cH a f = .inl (cH, 200, .inl f) := by
  simp [am_en, ht]
/-- the new world behind a write into a cell -/
theorem am_S.wr {ls : am_L} {st : List am_V} {h : am_H} {sl : Array Slot} {H H1 : Heap} {locs locs1 : List Loc} {a : Nat} {f : Nat → Int32} (S : am_S s nL b0 bS nC D cI cH sc ls st h sl H locs) {en : va_E} (hen : am_en b0 cI cH a f = en)
    (hP : va_P D am_cls ((am_w b0 cI cH nC h).set a (b0 + a, en)) H1) (hw : am_wf nC (va_up h a f)) (hS : va_S (am_A b0) s.heap H1 locs1) : am_S s nL b0 bS nC D cI cH sc ls st (va_up h a f) sl H1 locs1 := by
  refine ⟨S.1, S.2.1, S.2.2.1, ?_, hw, hS⟩
  rw [← hen, am_w_set] at hP
  exact hP
end SIM
theorem am_cin : ∀ {ci : Nat} {C : String} {T : u_T} {N : Nat}, am_cls[ci]? = some (C, T, N) → (∀ w ∈ u_ws C T N, w ∈ am_tbl) ∧ ∃ y : Nat → FieldType, (∀ k, k < N → parseFieldDescriptor (T k).2.2.1 = some (y k)) ∧ ∀ a, a < N → ∀ b, b < N → a ≠ b → (T a).2.1 ≠ (T b).2.1 := by
  intro ci C T N h
  match ci, h with
  | 0, h => cases h; exact ⟨am_i0, am_y0, am_y0_ok, am_n0⟩
  | 1, h => cases h; exact ⟨am_i1, am_y1, am_y1_ok, am_n1⟩
  | 2, h => cases h; exact ⟨am_i2, am_y2, am_y2_ok, am_n2⟩
  | 3, h => cases h; exact ⟨am_i3, am_y3, am_y3_ok, am_n3⟩
  | 4, h => cases h; exact ⟨am_i4, am_y4, am_y4_ok, am_n4⟩
  | 5, h => cases h; exact ⟨am_i5, am_y5, am_y5_ok, am_n5⟩
  | 6, h => cases h; exact ⟨am_i6, am_y6, am_y6_ok, am_n6⟩
  | 7, h => cases h; exact ⟨am_i7, am_y7, am_y7_ok, am_n7⟩
  | k + 8, h => simp [am_cls] at h
theorem am_fck_spec {own : String} {idx kd ci sl tg off wi : Nat} {x : List Nat} (h : am_fck own idx (kd :: ci :: sl :: tg :: off :: wi :: x) = true) :
    ∃ C T N, am_cls[ci]? = some (C, T, N) ∧ sl < N ∧ N = am_nf ci ∧ (T sl).1 = C ∧ am_ft ci sl = (kd, tg, off) ∧ ci < 8 ∧ kd ≤ 2 ∧ tg ≠ 8 ∧ Cond.fieldLink own idx C (T sl).2.1 (T sl).2.2.1 ∈ am_tbl := by
  unfold am_fck at h
  dsimp only at h
  split at h
  · rename_i C T N hc
    simp only [Bool.and_eq_true, decide_eq_true_eq] at h
    obtain ⟨⟨⟨⟨⟨⟨⟨h1, h2⟩, h3⟩, h4⟩, h5⟩, h6⟩, h7⟩, h8⟩ := h
    exact ⟨C, T, N, hc, h1, h2, h3, h4, h5, h6, h7, am_word_mem h8⟩
  · cases h
theorem am_fck_aux {own : String} {idx : Nat} {aux : List Nat} (h : am_fck own idx aux = true) : ∃ kd ci sl tg off wi x, aux = kd :: ci :: sl :: tg :: off :: wi :: x := by
  match aux, h with
  | kd :: ci :: sl :: tg :: off :: wi :: x, _ => exact ⟨kd, ci, sl, tg, off, wi, x, rfl⟩
theorem am_fv_set {b0 t a sl : Nat} {f : Nat → Int32} {x : Int32} {v : Value} (hv : am_fv b0 t a sl x = v) : ((List.range (am_nf t)).map (fun j => am_fv b0 t a j (f j))).set sl v = (List.range (am_nf t)).map (fun j => am_fv b0 t a j (upd f sl x j)) := by
  apply List.ext_getElem?
  intro i
  by_cases hi : i < am_nf t
  · by_cases e : sl = i
    · subst e
      rw [List.getElem?_set_self (by simpa using hi)]
      simp [hi, upd, hv]
    · rw [List.getElem?_set_ne e]
      have : i ≠ sl := fun q => e q.symm
      simp [hi, upd, this]
  · simp [hi]
theorem am_narO {C : String} {a : Nat} : narrow (.object C) (.ref a) = .ref a ∧ fits (.object C) (.ref a) = true := ⟨rfl, rfl⟩
theorem am_narA {t : FieldType} {a : Nat} : narrow (.array t) (.ref a) = .ref a ∧ fits (.array t) (.ref a) = true := ⟨rfl, rfl⟩
theorem am_cp1 : Cond.native arraycopyName ∈ am_tbl := am_word_mem (i := 701) (by decide +kernel)
theorem am_cp2 : Cond.static arraycopyName ∈ am_tbl := am_word_mem (i := 700) (by decide +kernel)
theorem am_cp3 : Cond.initialized "java/lang/System" ∈ am_tbl := am_word_mem (i := 76) (by decide +kernel)
theorem am_tsw {x : Int32} {dd pc : Nat} {tb : List am_W} {k : Nat → am_Z} {r : am_H × Option Int32} : ∀ (os : List Int) (v : Nat) (l : List Nat), am_tsk tb pc v os l = true → v + os.length ≤ 2 ^ 31 → am_sw x dd k l = some r →
    (∃ (j : Nat) (t : Nat) (o : Int), x.toInt = (v : Int) + j ∧ os[j]? = some o ∧ k t = some r ∧ am_pcI (am_drp t tb) ((pc : Int) + o) = true) ∨ ((x.toInt < (v : Int) ∨ (v : Int) + os.length ≤ x.toInt) ∧ k dd = some r) := by
  intro os
  induction os with
  | nil =>
    intro v l h hv hs
    match l, h, hs with
    | [], _, hs => exact Or.inr ⟨by simp; omega, hs⟩
  | cons o os ih =>
    intro v l h hv hs
    match l, h, hs with
    | v' :: t :: l, h, hs =>
      simp only [am_tsk, Bool.and_eq_true, beq_iff_eq] at h
      obtain ⟨⟨h1, h2⟩, h3⟩ := h
      subst h1
      have hlen : (o :: os).length = os.length + 1 := rfl
      have hv1 : v' < 2 ^ 31 := by omega
      unfold am_sw at hs
      split at hs
      · rename_i e
        refine Or.inl ⟨0, t, o, ?_, rfl, hs, h2⟩
        rw [e, nI_toInt hv1]
        simp
      · rename_i e
        rcases ih (v' + 1) l h3 (by omega) hs with ⟨j, t', o', a1, a2, a3, a4⟩ | ⟨a1, a2⟩
        · exact Or.inl ⟨j + 1, t', o', by rw [a1]; push_cast; omega, by simpa using a2, a3, a4⟩
        · refine Or.inr ⟨?_, a2⟩
          have hne : x.toInt ≠ (v' : Int) := by
            intro q
            apply e
            apply Int32.toInt.inj
            rw [q, nI_toInt hv1]
          push_cast at a1
          rw [hlen]
          push_cast
          omega
theorem am_lsw {x : Int32} {dd pc : Nat} {tb : List am_W} {k : Nat → am_Z} {r : am_H × Option Int32} {df : Int} (hd : am_pcI (am_drp dd tb) ((pc : Int) + df) = true) : ∀ (os : List (Int × Int)) (l : List Nat), am_lsk tb pc os l = true → am_sw x dd k l = some r →
    ∃ t : Nat, am_pcI (am_drp t tb) ((pc : Int) + Op.lookupswitch.offset os df x.toInt) = true ∧ k t = some r := by
  intro os
  induction os with
  | nil =>
    intro l h hs
    match l, h, hs with
    | [], _, hs => exact ⟨dd, hd, hs⟩
  | cons o os ih =>
    intro l h hs
    match o, l, h, hs with
    | (a, o), v :: t :: l, h, hs =>
      simp only [am_lsk, Bool.and_eq_true, decide_eq_true_eq] at h
      obtain ⟨⟨⟨h1, h0⟩, h2⟩, h3⟩ := h
      unfold am_sw at hs
      rw [Op.lookupswitch.offset_cons]
      split at hs
      · rename_i e
        have : a = x.toInt := by rw [e, nI_toInt h0, h1]
        rw [if_pos this]
        exact ⟨t, h2, hs⟩
      · rename_i e
        have : ¬ a = x.toInt := by
          intro q
          apply e
          apply Int32.toInt.inj
          rw [nI_toInt h0, ← q, h1]
        rw [if_neg this]
        exact ih l h3 hs
theorem am_ick_aux {mt : Nat → am_M} {own : String} {st : Bool} {idx : Nat} {aux : List Nat} (h : am_ick mt own st idx aux = true) : ∃ z n rv ci wi x, aux = z :: n :: rv :: ci :: wi :: x ∧ (mt z).2.2.2.2.1 = st ∧ (st = false → am_cls[ci]?.map (fun q => q.1) = some (mt z).1.cls) ∧ Cond.methodLink own idx (mt z).1 ∈ am_tbl ∧ (parseMethodDescriptor (mt z).1.desc).map (fun d => d.parameters.length) = some (if st then n else n - 1) ∧ (st = false → 0 < n) ∧ ((mt z).2.2.2.1 = none ↔ rv = 0) := by
  match aux, h with
  | z :: n :: rv :: ci :: wi :: x, h =>
    simp only [am_ick, Bool.and_eq_true, Bool.or_eq_true, decide_eq_true_eq] at h
    obtain ⟨⟨⟨⟨⟨h1, h2⟩, h3⟩, h4⟩, h5⟩, h6⟩ := h
    refine ⟨z, n, rv, ci, wi, x, rfl, h1, fun e => ?_, am_word_mem h3, h4, fun e => ?_, h6⟩
    · rw [e] at h2
      simpa using h2
    · rw [e] at h5
      simpa using h5
/-- what the table says of a method -/
theorem am_mck_spec {q : am_M} (h : am_mck q = true) : q.1.cls ≠ "java/lang/invoke/MethodHandle" ∧ q.1.cls ≠ "java/lang/invoke/VarHandle" ∧ q.2.2.1 ≤ 16 ∧ plainFor q.1 = true ∧ Cond.code q.1 q.2.1 q.2.2.1 q.2.2.2.1 ∈ am_tbl ∧ Cond.initialized q.1.cls ∈ am_tbl ∧ (q.2.2.2.2.1 = true → Cond.static q.1 ∈ am_tbl) ∧ (q.2.2.2.2.1 = false → Cond.instanceMethod q.1 ∈ am_tbl ∧ Cond.selects q.1.cls q.1 q.1 ∈ am_tbl) := by
  obtain ⟨y, bs, ml, rt, st, g⟩ := q
  simp only [am_mck, Bool.and_eq_true, decide_eq_true_eq] at h
  obtain ⟨⟨⟨⟨h1, h2⟩, h3⟩, h4⟩, h5⟩ := h
  split at h5
  · rename_i w0 w1 w2 w3 x
    simp only [Bool.and_eq_true] at h5
    obtain ⟨⟨h6, h7⟩, h8⟩ := h5
    refine ⟨h1, h2, h3, h4, am_word_mem h6, am_word_mem h7, fun e => ?_, fun e => ?_⟩
    · have e : st = true := e
      subst e
      exact am_word_mem h8
    · have e : st = false := e
      subst e
      simp only [Bool.false_eq_true, if_false, Bool.and_eq_true] at h8
      exact ⟨am_word_mem h8.1, am_word_mem h8.2⟩
  · cases h5
section SIM
variable {p : Program} {l : Launch} {e : Env} {R : Room} {s : State} {m : MethodId} {args : Array Value} {below : List Frame} {meth : Method} {c : Code} {cells slots : Nat} {Q : State → Prop}
variable {mt : Nat → am_M} {own : String} {cc : ByteArray} {tb : List am_W} {nL b0 bS nC L d : Nat} {xs : Nat → Int32} {D : va_G} {cI cH : ClassId} {sc : Prop} {rt : Option FieldType} {G : Nat → List am_V → am_H → am_Z}
variable {ls : am_L} {st : List am_V} {h : am_H} {sl : Array Slot} {H : Heap} {locs : List Loc} {Z : am_H × Option Int32} {n : Nat} {k : am_L → List am_V → am_H → am_Z} {pc idx : Nat} {aux : List Nat}
/-- getfield -/
theorem am_sget (C : am_Cx p s m args c R mt own cc tb nL b0 bS nC L d xs D cI cH sc rt) (hN : am_Nx p l e R s m args below meth c cells slots Q nL b0 bS nC D cI cH sc (pc + 3) k Z) (hd : decode cc pc = .ok (.getfield idx, 3)) (hf : am_fck own idx aux = true) {nx : List am_W → am_L → List am_V → am_H → am_Z} {rest : List am_W} (hk : nx rest = k)
    (hE : am_get nx aux rest ls st h = some Z) (S : am_S s nL b0 bS nC D cI cH sc ls st h sl H locs) : W p l e R s m args below meth c H locs cells slots Q (F0 m pc sl (st.map (am_cv b0 bS))) := by
  obtain ⟨hx, hb, hml, hown, hts, hK, hchk, hclo, hnC, hroom, hsc, hmt⟩ := C
  obtain ⟨kd, ci, sl', tg, off, wi, x, rfl⟩ := am_fck_aux hf
  obtain ⟨Cn, T, N, hc, h1, h2, h3, h4, h5, h6, h7, h8⟩ := am_fck_spec hf
  obtain ⟨t, o, r, rfl, hE1⟩ := am_pa_some hE
  obtain ⟨rfl, hE2⟩ := am_if_some hE1
  subst hk
  have ht8 : t ≠ 8 := by omega
  obtain ⟨ho, hct⟩ := am_obj (h := h) S.hd ht8
  have hst : (vr t o :: r).map (am_cv b0 bS) = .ref (b0 + o) :: r.map (am_cv b0 bS) := by simp [am_cv, ht8]
  rw [hst]
  obtain ⟨hin, -⟩ := am_cin hc
  refine va_get (v := am_fv b0 t o sl' (h o sl')) hx hb hts hin hown hK S.2.2.2.1 o (am_at_obj ho hct h5) hc sl' h1 (hts _ h8) (fun x hx => by rw [h3] at hx; exact hx) (by simp [← h2, h1]) hd ?_
  match kd, h4, h6, hE2 with
  | 0, h4, _, hE =>
    have : am_fv b0 t o sl' (h o sl') = .int (h o sl') := by simp [am_fv, h4]
    rw [this]
    exact hN _ _ _ _ _ _ hE (S.tl.ps trivial)
  | 1, h4, _, hE =>
    have : am_fv b0 t o sl' (h o sl') = am_cv b0 bS (vr tg (o + off)) := by simp [am_fv, h4, am_cv, h7]
    rw [this]
    have hcl := am_clo_of hclo ho (by rw [hct]; exact h5) (j := sl') (by rw [hct, ← h2]; exact h1) (by rw [hct]; exact h4)
    exact hN _ _ _ _ _ _ hE (S.tl.ps (by simpa [am_ok, h7] using hcl))
  | 2, h4, _, hE =>
    have : am_fv b0 t o sl' (h o sl') = am_cv b0 bS (vr tg (h o sl').toNatClampNeg) := by simp [am_fv, h4, am_cv, h7]
    rw [this]
    have hcl := S.2.2.2.2.1 o ho (by rw [hct]; exact h5) sl' (by rw [hct, ← h2]; exact h1) _ _ (by rw [hct]; exact h4)
    exact hN _ _ _ _ _ _ hE (S.tl.ps (by simpa [am_ok, h7] using hcl))
  | kd + 3, _, h6, _ => omega
/-- putfield -/
theorem am_sput (C : am_Cx p s m args c R mt own cc tb nL b0 bS nC L d xs D cI cH sc rt) (hN : am_Nx p l e R s m args below meth c cells slots Q nL b0 bS nC D cI cH sc (pc + 3) k Z) (hd : decode cc pc = .ok (.putfield idx, 3)) (hf : am_fck own idx aux = true) (hp : am_pck aux = true) {nx : List am_W → am_L → List am_V → am_H → am_Z} {rest : List am_W} (hk : nx rest = k)
    (hE : am_put nx aux rest ls st h = some Z) (S : am_S s nL b0 bS nC D cI cH sc ls st h sl H locs) : W p l e R s m args below meth c H locs cells slots Q (F0 m pc sl (st.map (am_cv b0 bS))) := by
  obtain ⟨hx, hb, hml, hown, hts, hK, hchk, hclo, hnC, hroom, hsc, hmt⟩ := C
  obtain ⟨kd, ci, sl', tg, off, wi, x, rfl⟩ := am_fck_aux hf
  obtain ⟨Cn, T, N, hc, h1, h2, h3, h4, h5, h6, h7, h8⟩ := am_fck_spec hf
  subst hk
  obtain ⟨hin, y0, hy0, hnm⟩ := am_cin hc
  unfold am_pck at hp
  dsimp only at hp
  rw [hc] at hp
  dsimp only at hp
  simp only [Bool.and_eq_true, decide_eq_true_eq] at hp
  obtain ⟨hfin, hp⟩ := hp
  match kd, h4, h6, hE, hp with
  | 0, h4, _, hE, hp =>
    obtain ⟨x, r, rfl, hE1⟩ := am_pi_some hE
    obtain ⟨t, o, r, rfl, hE2⟩ := am_pa_some hE1
    obtain ⟨rfl, hE3⟩ := am_if_some hE2
    have ht8 : t ≠ 8 := by omega
    obtain ⟨ho, hct⟩ := am_obj (h := h) S.tl.hd ht8
    have hst : (vi x :: vr t o :: r).map (am_cv b0 bS) = .int x :: .ref (b0 + o) :: r.map (am_cv b0 bS) := by simp [am_cv, ht8]
    rw [hst]
    refine va_put (v := .int x) (ty := .int) hx hb hts hin y0 hy0 hnm hown hK S.2.2.2.1 (am_w_D b0 cI cH nC h) S.2.2.2.2.2 o (am_at_obj ho hct h5) hc sl' h1 (hts _ h8) (fun x hx => by rw [h3] at hx; exact hx) hfin (of_decide_eq_true hp) rfl rfl (by simp [← h2, h1]) hd (fun H1 locs1 hP1 hD1 hS1 => ?_)
    refine hN _ _ _ _ _ _ hE3 (am_S.wr S.tl.tl (f := upd (h o) sl' x) ?_ hP1 (am_wf_int S.2.2.2.2.1 (by rw [hct, h4]; intro t off q; cases q)) hS1)
    simp only [am_en, hct, h5, if_true]
    rw [am_fv_set (x := x) (by simp [am_fv, h4])]
  | 1, _, _, hE, _ => cases hE
  | 2, h4, _, hE, hp =>
    obtain ⟨t', a, r, rfl, hE4⟩ := am_pa_some hE
    obtain ⟨t, o, r, rfl, hE5⟩ := am_pa_some hE4
    obtain ⟨rfl, hE6⟩ := am_if_some hE5
    obtain ⟨rfl, hE7⟩ := am_if_some hE6
    have ht8 : t ≠ 8 := by omega
    obtain ⟨ho, hct⟩ := am_obj (h := h) S.tl.hd ht8
    obtain ⟨ha, hca⟩ := am_obj (h := h) S.hd h7
    have hst : (vr t' a :: vr t o :: r).map (am_cv b0 bS) = .ref (b0 + a) :: .ref (b0 + o) :: r.map (am_cv b0 bS) := by simp [am_cv, ht8, h7]
    rw [hst]
    have ha31 : a < 2 ^ 31 := by omega
    obtain ⟨ty, hty, hn, hfi⟩ : ∃ ty, parseFieldDescriptor (T sl').2.2.1 = some ty ∧ narrow ty (.ref (b0 + a)) = .ref (b0 + a) ∧ fits ty (.ref (b0 + a)) = true := by
      have hp : (match parseFieldDescriptor (T sl').2.2.1 with
        | some (.object _) => true
        | some (.array _) => true
        | _ => false) = true := hp
      split at hp
      · rename_i ty hty; exact ⟨_, hty, rfl, rfl⟩
      · rename_i ty hty; exact ⟨_, hty, rfl, rfl⟩
      · cases hp
    refine va_put (v := .ref (b0 + a)) (ty := ty) hx hb hts hin y0 hy0 hnm hown hK S.2.2.2.1 (am_w_D b0 cI cH nC h) S.2.2.2.2.2 o (am_at_obj ho hct h5) hc sl' h1 (hts _ h8) (fun x hx => by rw [h3] at hx; exact hx) hfin hty hn hfi (by simp [← h2, h1]) hd (fun H1 locs1 hP1 hD1 hS1 => ?_)
    refine hN _ _ _ _ _ _ hE7 (am_S.wr S.tl.tl (f := upd (h o) sl' (nI a)) ?_ hP1 (am_wf_ref S.2.2.2.2.1 (by rw [hct]; exact h4) ha ha31 hca) hS1)
    simp only [am_en, hct, h5, if_true]
    rw [am_fv_set (x := nI a) (by simp [am_fv, h4, nI_clamp ha31])]
  | kd + 3, _, h6, _, _ => omega
/-- the copy of a row -/
theorem am_scpy (C : am_Cx p s m args c R mt own cc tb nL b0 bS nC L d xs D cI cH sc rt) (hN : am_Nx p l e R s m args below meth c cells slots Q nL b0 bS nC D cI cH sc (pc + 3) k Z) (hd : decode cc pc = .ok (.invokestatic idx, 3)) (hw : Cond.methodLink own idx arraycopyName ∈ am_tbl) {nx : List am_W → am_L → List am_V → am_H → am_Z} {rest : List am_W} (hk : nx rest = k)
    (hE : am_cpy nx rest ls st h = some Z) (S : am_S s nL b0 bS nC D cI cH sc ls st h sl H locs) : W p l e R s m args below meth c H locs cells slots Q (F0 m pc sl (st.map (am_cv b0 bS))) := by
  obtain ⟨hx, hb, hml, hown, hts, hK, hchk, hclo, hnC, hroom, hsc, hmt⟩ := C
  subst hk
  obtain ⟨n, r, rfl, hE1⟩ := am_pi_some hE
  obtain ⟨dp, r, rfl, hE2⟩ := am_pi_some hE1
  obtain ⟨t1, a1, r, rfl, hE3⟩ := am_pa_some hE2
  obtain ⟨sp, r, rfl, hE4⟩ := am_pi_some hE3
  obtain ⟨t0, a0, r, rfl, hE5⟩ := am_pa_some hE4
  obtain ⟨ht0, hE6⟩ := am_ifn_some hE5
  obtain ⟨ht1, hE7⟩ := am_ifn_some hE6
  obtain ⟨hcat, hE8⟩ := am_ifn_some hE7
  obtain ⟨hin, hE9⟩ := am_ifn_some hE8
  have e0 : t0 ≠ 8 := by omega
  have e1 : t1 ≠ 8 := by omega
  obtain ⟨ho0, hc0⟩ := am_obj (h := h) S.tl.tl.tl.tl.hd e0
  obtain ⟨ho1, hc1⟩ := am_obj (h := h) S.tl.tl.hd e1
  have hst : (vi n :: vi dp :: vr t1 a1 :: vi sp :: vr t0 a0 :: r).map (am_cv b0 bS) = .int n :: .int dp :: .ref (b0 + a1) :: .int sp :: .ref (b0 + a0) :: r.map (am_cv b0 bS) := by simp [am_cv, e0, e1]
  rw [hst]
  simp only [not_or, Nat.not_lt] at hin
  obtain ⟨i1, i2, i3, i4, i5⟩ := hin
  refine va_copyi (ty := .int) hx hb (hml.trans S.1.2.1.symm) hown (hts _ hw) (hts _ am_cp1) (hts _ am_cp2) (hts _ am_cp3) hK S.2.2.2.1 (am_w_D b0 cI cH nC h) S.2.2.2.2.2 a0 a1 0 0 (am_at_int ho0 hc0 (by omega)) (am_at_int ho1 hc1 (by omega)) rfl rfl rfl i1 i2 i3 i4 i5 (fun _ _ => rfl) (by omega) ?_ hd (fun H1 locs1 hP1 hD1 hS1 => ?_)
  · have hq := am_cats_sum b0 bS r
    have hq2 : (List.map (fun v => Value.category v) (List.map (am_cv b0 bS) r)).sum = am_cats r := hq
    have hnw : nativeFrameWords "java/lang/System" "arraycopy" 5 = 7 := by decide
    rw [hq2, hnw]
    omega
  · refine hN _ _ _ _ _ _ hE9 (am_S.wr S.tl.tl.tl.tl.tl (f := va_cpy (h a0) (h a1) sp.toNatClampNeg dp.toNatClampNeg n.toNatClampNeg) (am_en_int hc1 (by omega) _) hP1 (am_wf_arr S.2.2.2.2.1 (by omega)) hS1)
/-- what comes back from a call -/
theorem am_back {h' : am_H} {r' : Option Int32} {st0 rest : List am_V} {a : Array Value} (hr : va_Run p l e R s m args below meth c H locs cells slots 0 0 (F0 m pc sl (st0.map (am_cv b0 bS))) (rest.map (am_cv b0 bS)) (am_Qc b0 nC D cI cH h' r' a) (am_A b0)) (S : am_S s nL b0 bS nC D cI cH sc ls rest h sl H locs)
    (hN : am_Nx p l e R s m args below meth c cells slots Q nL b0 bS nC D cI cH sc (pc + 3) k Z) (hk : k ls (match r' with | some x => vi x :: rest | none => rest) h' = some Z) : W p l e R s m args below meth c H locs cells slots Q (F0 m pc sl (st0.map (am_cv b0 bS))) := by
  match r', hr, hk with
  | some v, hr, hk =>
    refine va_calli (a := a) (A0 := am_A b0) (H0 := s.heap) hr S.2.2.2.2.2 (fun _ _ h => h) (fun _ h => h) (fun r u t H1 locs1 ht hvm hp hB hz hq hS1 => ?_)
    obtain ⟨rfl, hwf⟩ := hp
    refine hN _ _ _ _ _ _ hk ⟨S.1, S.2.1, ?_, by rw [← ht]; exact hB, hwf, hS1⟩
    intro w hw
    rcases List.mem_cons.mp hw with rfl | hw
    · trivial
    · exact S.2.2.1 w hw
  | none, hr, hk =>
    refine va_callv (a := a) (A0 := am_A b0) (H0 := s.heap) hr S.2.2.2.2.2 (fun _ _ h => h) (fun _ h => h) (fun u t H1 locs1 ht hvm hp hB hz hq hS1 => ?_)
    exact hN _ _ _ _ _ _ hk ⟨S.1, S.2.1, S.2.2.1, by rw [← ht]; exact hB, hp, hS1⟩
theorem am_blind {as : List am_V} : FrameBlind (am_Pc b0 nC D cI cH as h) := fun a U g mk q => ⟨q.1, q.2.1, va_K.moved (u := U) (U := U.calling g mk a) (Vm.Alike.refl U.vm) q.2.2⟩
/-- a call -/
theorem am_sinv (C : am_Cx p s m args c R mt own cc tb nL b0 bS nC L d xs D cI cH sc rt) (hG : am_GO l mt b0 nC D cI cH d G) (hcs : cells ≤ R.cells ∧ slots ≤ R.slots) (hN : am_Nx p l e R s m args below meth c cells slots Q nL b0 bS nC D cI cH sc (pc + 3) k Z) (v : Bool) (hd : decode cc pc = .ok (if v then .invokevirtual idx else .invokestatic idx, 3)) (hi : am_ick mt own (!v) idx aux = true) {nx : List am_W → am_L → List am_V → am_H → am_Z} {rest : List am_W} (hk : nx rest = k)
    (hE : am_inv G nx v aux rest ls st h = some Z) (S : am_S s nL b0 bS nC D cI cH sc ls st h sl H locs) : W p l e R s m args below meth c H locs cells slots Q (F0 m pc sl (st.map (am_cv b0 bS))) := by
  have C0 := C
  obtain ⟨hx, hb, hml, hown, hts, hK, hchk, hclo, hnC, hroom, hsc, hmt⟩ := C
  subst hk
  obtain ⟨z, n, rv, ci, wi, x, rfl, i1, i2, i3, i4, i5, i6⟩ := am_ick_aux hi
  obtain ⟨ts, r, rfl, hlen, hE1⟩ := am_tk_some hE
  obtain ⟨hcat, hE2⟩ := am_ifn_some hE1
  obtain ⟨hn8, hE3⟩ := am_ifn_some hE2
  have hn8 : am_n8 (ts.reverse ++ []) = true := by simpa using hn8
  rw [List.append_nil] at hn8 hE3
  obtain ⟨m1, m2, m3, m4, m5, m6, m7, m8⟩ := am_mck_spec (hmt z)
  have hok : ∀ v ∈ ts.reverse, am_ok nC sc v := fun v hv => S.2.2.1 v (List.mem_append_left _ (List.mem_reverse.mp hv))
  have hok0 := am_n8_ok hn8 hok
  have Sr : am_S s nL b0 bS nC D cI cH sc ls r h sl H locs := S.stk fun w hw => S.2.2.1 w (List.mem_append_right _ hw)
  have hW : 2 * (F0 m pc sl ((ts ++ r).map (am_cv b0 bS))).monitorRoom + ((r.map (am_cv b0 bS)).map fun v => v.category).sum ≤ 8 := lv_room (by rw [am_cats_sum]; omega)
  have hws : ∀ w ∈ am_mw mt z, w ∈ am_tbl := fun w hw => (List.mem_cons.mp hw).elim (fun e => e ▸ m5) id
  have hR : (am_rm d).frames + 1 ≤ R.frames ∧ 8 + ((mt z).2.2.1 + 11) + (am_rm d).locals ≤ R.locals := by
    refine ⟨hroom.1, ?_⟩
    show 8 + ((mt z).2.2.1 + 11) + 35 * d ≤ R.locals
    omega
  have hpre : ∀ U : State, U.heap = H → s.WarmedH U.vm → am_Pc b0 nC D cI cH ts.reverse h (ts.reverse.map (am_cv b0 bS)).toArray U := fun U hU hWm => ⟨by rw [am_n8_cv hn8], by rw [hU]; exact S.2.2.2.1, va_K.moved hWm.alike hK⟩
  -- the answer
  have key : ∀ rv : Nat, (match rv with
      | 0 => am_r0 (G z ts.reverse h) fun h => nx rest ls r h
      | _ => am_r1 (G z ts.reverse h) fun h x => nx rest ls (vi x :: r) h) = some Z → ∃ h' r', G z ts.reverse h = some (h', r') ∧ nx rest ls (match r' with | some x => vi x :: r | none => r) h' = some Z := by
    intro rv hq
    cases rv with
    | zero => obtain ⟨h', a1, a2⟩ := am_r0_some hq; exact ⟨h', none, a1, a2⟩
    | succ rv => obtain ⟨h', x, a1, a2⟩ := am_r1_some hq; exact ⟨h', some x, a1, a2⟩
  obtain ⟨h', r', hGz, hk⟩ := key rv (am_rcv_any hE3)
  have hM := hG z ts.reverse h h' r' hGz hok0 S.2.2.2.2.1
  have hCB : CallB R s args own idx (mt z).1 (mt z).2.1 (mt z).2.2.1 (mt z).2.2.2.1 (am_mw mt z) (am_rm d) 0 0 (if (!v) then n else n - 1) :=
    callB_of (Ts := am_tbl) (ws := am_mw mt z) (if (!v) then n else n - 1) hts (am_goodIn (fun w h => h) hws) rfl rfl rfl (hts _ m6) (hts _ i3) ⟨m1, m2, i4⟩ hR
  have hf : cells + 0 ≤ R.cells ∧ slots + 0 ≤ R.slots := hcs
  match v, hE3, hd, i1, i2, i5, hCB with
  | false, hE, hd, i1, i2, i5, hCB =>
    have hrun := va_runS (p := p) (e := e) (below := below) (meth := meth) (H := H) (locs := locs) (cells := cells) (slots := slots) (Ts := am_tbl) (g := F0 m pc sl ((ts ++ r).map (am_cv b0 bS))) (As := ts.reverse.map (am_cv b0 bS)) (rest := r.map (am_cv b0 bS)) ⟨hx, hb, hml, hown, hts⟩ hM ⟨hCB, hts _ (m7 i1)⟩ ⟨am_blind, hpre⟩ rfl (by simp [hlen]) S.1.2.1 (by simp [List.map_reverse]) hW hd hf
    exact am_back hrun Sr hN hk
  | true, hE, hd, i1, i2, i5, hCB =>
    obtain ⟨a, as, htr, -⟩ := am_rcv_some hE
    have hcl := i2 rfl
    obtain ⟨q, hq, hq1⟩ := Option.map_eq_some_iff.mp hcl
    have ht8 : ci < 8 := by
      have := (List.getElem?_eq_some_iff.mp hq).1
      simpa [am_cls] using this
    have hne : ci ≠ 8 := by omega
    have hrok : am_ok nC sc (vr ci a) := hok _ (by rw [htr]; exact List.mem_cons_self)
    obtain ⟨ha, hct⟩ := am_obj (h := h) hrok hne
    have hts' : ts = as.reverse ++ [vr ci a] := by
      have := congrArg List.reverse htr
      simpa using this
    have hrv := va_recv hK S.2.2.2.1 hq (am_at_obj ha hct ht8)
    rw [hq1] at hrv
    have hcv : ts.reverse.map (am_cv b0 bS) = .ref (b0 + a) :: as.map (am_cv b0 bS) := by
      rw [htr]
      simp [am_cv, hne]
    rw [hcv] at hpre
    have hrun := va_runV (p := p) (e := e) (below := below) (meth := meth) (H := H) (locs := locs) (cells := cells) (slots := slots) (Ts := am_tbl) (g := F0 m pc sl ((ts ++ r).map (am_cv b0 bS))) (b := b0 + a) (As := as.map (am_cv b0 bS)) (rest := r.map (am_cv b0 bS)) ⟨hx, hb, hml, hown, hts⟩ hM ⟨hCB, hts _ (m8 i1).1, hts _ (m8 i1).2⟩ ⟨am_blind, hrv, hpre⟩ rfl (by rw [hts'] at hlen; simp at hlen; simp; omega) S.1.2.1 (by rw [hts']; simp [List.map_reverse, am_cv, hne]) hW hd hf
    exact am_back hrun Sr hN hk
end SIM
end
section
theorem and2 {a b : Bool} (h : (a && b) = true) : a = true ∧ b = true := by simpa using h
theorem am_ipos {c : Prop} [Decidable c] {x y : am_Z} {Z : am_H × Option Int32} (hc : c) (h : (if c then x else y) = some Z) : x = some Z := by rwa [if_pos hc] at h
theorem am_ineg {c : Prop} [Decidable c] {x y : am_Z} {Z : am_H × Option Int32} (hc : ¬ c) (h : (if c then x else y) = some Z) : y = some Z := by rwa [if_neg hc] at h
theorem am_nlt {a b : Int32} (h : b ≤ a) : ¬ a < b := Int32.not_lt.mpr h
theorem am_nle {a b : Int32} (h : ¬ b ≤ a) : a < b := Int32.not_le.mp h
theorem am_is1 {mt : Nat → am_M} {own : String} {i : Nat} {aux : List Nat} (h : (match aux with
    | 999 :: wi :: _ => am_word wi (.methodLink own i arraycopyName)
    | _ => am_ick mt own true i aux) = true) (h9 : ¬ ∃ wi x, aux = 999 :: wi :: x) : am_ick mt own true i aux = true := by
  split at h
  · rename_i wi x; exact absurd ⟨wi, x, rfl⟩ h9
  · exact h
theorem am_is2 {mt : Nat → am_M} {own : String} {i : Nat} {aux : List Nat} {G : Nat → List am_V → am_H → am_Z} {nx : List am_W → am_L → List am_V → am_H → am_Z} {rest : List am_W} {ls : am_L} {st : List am_V} {h : am_H} {Z : am_H × Option Int32} (hE : (match aux with
    | 999 :: _ => am_cpy nx rest ls st h
    | _ => am_inv G nx false aux rest ls st h) = some Z) (h9 : ¬ ∃ wi x, aux = 999 :: wi :: x) (hi : am_ick mt own true i aux = true) : am_inv G nx false aux rest ls st h = some Z := by
  obtain ⟨z, n, rv, ci, wi, x, he, -⟩ := am_ick_aux hi
  split at hE
  · rename_i y
    cases he
    exact absurd ⟨n, _, rfl⟩ h9
  · exact hE
section SIM
variable {p : Program} {l : Launch} {e : Env} {R : Room} {s : State} {m : MethodId} {args : Array Value} {below : List Frame} {meth : Method} {c : Code} {cells slots : Nat} {Q : State → Prop}
variable {mt : Nat → am_M} {own : String} {cc : ByteArray} {tb : List am_W} {nL b0 bS nC L d : Nat} {xs : Nat → Int32} {D : va_G} {cI cH : ClassId} {sc : Prop} {rt : Option FieldType} {G : Nat → List am_V → am_H → am_Z}
/-- the ends -/
def am_Zi (p : Program) (l : Launch) (e : Env) (R : Room) (s : State) (m : MethodId) (args : Array Value) (below : List Frame) (meth : Method) (c : Code) (cells slots : Nat) (Q : State → Prop) (cc : ByteArray) (nL b0 bS nC : Nat) (D : va_G) (cI cH : ClassId) (sc : Prop) (rt : Option FieldType) (ls : am_L) (Z : am_H × Option Int32) : Prop :=
  ∀ (v : Int32) (h : am_H) (sl : Array Slot) (H : Heap) (locs : List Loc) (pc : Nat), decode cc pc = .ok (.ireturn, 1) → (rt = some .int ∨ rt = some .boolean ∧ v &&& 1 = v) → Z = (h, some v) → am_S s nL b0 bS nC D cI cH sc ls [vi v] h sl H locs → W p l e R s m args below meth c H locs cells slots Q (F0 m pc sl [.int v])
def am_Zv (p : Program) (l : Launch) (e : Env) (R : Room) (s : State) (m : MethodId) (args : Array Value) (below : List Frame) (meth : Method) (c : Code) (cells slots : Nat) (Q : State → Prop) (cc : ByteArray) (nL b0 bS nC : Nat) (D : va_G) (cI cH : ClassId) (sc : Prop) (rt : Option FieldType) (ls : am_L) (Z : am_H × Option Int32) : Prop :=
  ∀ (h : am_H) (sl : Array Slot) (H : Heap) (locs : List Loc) (pc : Nat), decode cc pc = .ok (.return_, 1) → rt = none → Z = (h, none) → am_S s nL b0 bS nC D cI cH sc ls [] h sl H locs → W p l e R s m args below meth c H locs cells slots Q (F0 m pc sl [])
set_option maxHeartbeats 4000000 in
set_option maxRecDepth 10000 in
/-- ONE ROW -/
theorem am_step {nx : List am_W → am_L → List am_V → am_H → am_Z} {rc : Nat → am_L → am_H → am_Z} {Z : am_H × Option Int32} (C : am_Cx p s m args c R mt own cc tb nL b0 bS nC L d xs D cI cH sc rt) (hG : am_GO l mt b0 nC D cI cH d G) (hcs : cells ≤ R.cells ∧ slots ≤ R.slots)
    (hN : ∀ i : Nat, am_Nx p l e R s m args below meth c cells slots Q nL b0 bS nC D cI cH sc (am_pc (am_drp i tb)) (nx (am_drp i tb)) Z)
    (hR : ∀ i : Nat, am_Nx p l e R s m args below meth c cells slots Q nL b0 bS nC D cI cH sc (am_pc (am_drp i tb)) (fun ls st h => match st with | [] => rc i ls h | _ => none) Z)
    (hZi : ∀ ls, am_Zi p l e R s m args below meth c cells slots Q cc nL b0 bS nC D cI cH sc rt ls Z) (hZv : ∀ ls, am_Zv p l e R s m args below meth c cells slots Q cc nL b0 bS nC D cI cH sc rt ls Z)
    {i pc len : Nat} {ins : Instr} {aux : List Nat} {q : Int32} {rest : List am_W} (hrow : am_drp i tb = (pc, len, ins, aux, q) :: rest) : am_Nx p l e R s m args below meth c cells slots Q nL b0 bS nC D cI cH sc pc (am_ex L xs tb G rc nx ins aux q rest) Z := by
  intro ls st h sl H locs hE S
  have hZi := hZi ls
  have hZv := hZv ls
  obtain ⟨hx, hb, hml, hown, hts, hK, hchk, hclo, hnC, hroom, hsc, hmt⟩ := id C
  have hrest : rest = am_drp (i + 1) tb := am_drp_succ hrow
  have hc1 : am_chk mt own cc tb nL rt (pc, len, ins, aux, q) rest = true := by
    have := am_chks_drp i tb hchk
    rw [hrow] at this
    exact (and2 this).1
  have fin : ∀ (n : Nat) (ls : am_L) (st : List am_V) (h : am_H) (sl : Array Slot) (H : Heap) (locs : List Loc), am_pcI rest ((n : Nat) : Int) = true → nx rest ls st h = some Z → am_S s nL b0 bS nC D cI cH sc ls st h sl H locs → W p l e R s m args below meth c H locs cells slots Q (F0 m n sl (st.map (am_cv b0 bS))) := by
    intro n ls st h sl H locs h1 h2 h3
    rw [← am_nxt h1, hrest]
    rw [hrest] at h2
    exact hN (i + 1) ls st h sl H locs h2 h3
  cases ins with
  | iadd =>
    obtain ⟨hd, hck⟩ := am_split1 hc1 (by intro q; cases q) rfl
    obtain ⟨a, b, r, rfl, hE1⟩ := am_2_some hE
    exact lv_iadd hx hb hd (fin (pc + 1) _ _ _ _ _ _ hck hE1 (S.tl.tl.ps trivial))
  | isub =>
    obtain ⟨hd, hck⟩ := am_split1 hc1 (by intro q; cases q) rfl
    obtain ⟨a, b, r, rfl, hE2⟩ := am_2_some hE
    exact lv_isub hx hb hd (fin (pc + 1) _ _ _ _ _ _ hck hE2 (S.tl.tl.ps trivial))
  | imul =>
    obtain ⟨hd, hck⟩ := am_split1 hc1 (by intro q; cases q) rfl
    obtain ⟨a, b, r, rfl, hE3⟩ := am_2_some hE
    exact lv_imul hx hb hd (fin (pc + 1) _ _ _ _ _ _ hck hE3 (S.tl.tl.ps trivial))
  | iand =>
    obtain ⟨hd, hck⟩ := am_split1 hc1 (by intro q; cases q) rfl
    obtain ⟨a, b, r, rfl, hE4⟩ := am_2_some hE
    exact lv_iand hx hb hd (fin (pc + 1) _ _ _ _ _ _ hck hE4 (S.tl.tl.ps trivial))
  | ior =>
    obtain ⟨hd, hck⟩ := am_split1 hc1 (by intro q; cases q) rfl
    obtain ⟨a, b, r, rfl, hE5⟩ := am_2_some hE
    exact lv_ior hx hb hd (fin (pc + 1) _ _ _ _ _ _ hck hE5 (S.tl.tl.ps trivial))
  | ixor =>
    obtain ⟨hd, hck⟩ := am_split1 hc1 (by intro q; cases q) rfl
    obtain ⟨a, b, r, rfl, hE6⟩ := am_2_some hE
    exact lv_ixor hx hb hd (fin (pc + 1) _ _ _ _ _ _ hck hE6 (S.tl.tl.ps trivial))
  | ishl =>
    obtain ⟨hd, hck⟩ := am_split1 hc1 (by intro q; cases q) rfl
    obtain ⟨a, b, r, rfl, hE7⟩ := am_2_some hE
    exact lv_ishl hx hb hd (fin (pc + 1) _ _ _ _ _ _ hck hE7 (S.tl.tl.ps trivial))
  | ishr =>
    obtain ⟨hd, hck⟩ := am_split1 hc1 (by intro q; cases q) rfl
    obtain ⟨a, b, r, rfl, hE8⟩ := am_2_some hE
    exact lv_ishr hx hb hd (fin (pc + 1) _ _ _ _ _ _ hck hE8 (S.tl.tl.ps trivial))
  | iushr =>
    obtain ⟨hd, hck⟩ := am_split1 hc1 (by intro q; cases q) rfl
    obtain ⟨a, b, r, rfl, hE9⟩ := am_2_some hE
    exact lv_iushr (v := am_ush a b) hx hb hd rfl (fin (pc + 1) _ _ _ _ _ _ hck hE9 (S.tl.tl.ps trivial))
  | idiv =>
    obtain ⟨hd, hck⟩ := am_split1 hc1 (by intro q; cases q) rfl
    obtain ⟨a, b, r, rfl, hE10⟩ := am_2_some hE
    obtain ⟨hb0, hE11⟩ := am_ifn_some hE10
    exact lv_idiv hx hb hd hb0 (fin (pc + 1) _ _ _ _ _ _ hck hE11 (S.tl.tl.ps trivial))
  | irem =>
    obtain ⟨hd, hck⟩ := am_split1 hc1 (by intro q; cases q) rfl
    obtain ⟨a, b, r, rfl, hE12⟩ := am_2_some hE
    obtain ⟨hb0, hE13⟩ := am_ifn_some hE12
    exact lv_irem hx hb hd hb0 (fin (pc + 1) _ _ _ _ _ _ hck hE13 (S.tl.tl.ps trivial))
  | ineg =>
    obtain ⟨hd, hck⟩ := am_split1 hc1 (by intro q; cases q) rfl
    obtain ⟨a, r, rfl, hE14⟩ := am_pi_some hE
    exact lv_ineg hx hb hd (fin (pc + 1) _ _ _ _ _ _ hck hE14 (S.tl.ps trivial))
  | i2c =>
    obtain ⟨hd, hck⟩ := am_split1 hc1 (by intro q; cases q) rfl
    obtain ⟨a, r, rfl, hE15⟩ := am_pi_some hE
    exact lv_i2c (v := am_i2c a) hx hb hd rfl (fin (pc + 1) _ _ _ _ _ _ hck hE15 (S.tl.ps trivial))
  | i2l =>
    obtain ⟨hd, hck⟩ := am_split1 hc1 (by intro q; cases q) rfl
    obtain ⟨a, r, rfl, hE16⟩ := am_pi_some hE
    exact lv_i2l hx hb hd rfl (fin (pc + 1) _ _ _ _ _ _ hck hE16 (S.tl.ps trivial))
  | l2i =>
    obtain ⟨hd, hck⟩ := am_split1 hc1 (by intro q; cases q) rfl
    obtain ⟨a, r, rfl, hE17⟩ := am_pl_some hE
    exact lv_l2i hx hb hd rfl (fin (pc + 1) _ _ _ _ _ _ hck hE17 (S.tl.ps trivial))
  | ladd =>
    obtain ⟨hd, hck⟩ := am_split1 hc1 (by intro q; cases q) rfl
    obtain ⟨a, b, r, rfl, hE18⟩ := am_2l_some hE
    exact lv_ladd hx hb hd (fin (pc + 1) _ _ _ _ _ _ hck hE18 (S.tl.tl.ps trivial))
  | lmul =>
    obtain ⟨hd, hck⟩ := am_split1 hc1 (by intro q; cases q) rfl
    obtain ⟨a, b, r, rfl, hE19⟩ := am_2l_some hE
    exact lv_lmul hx hb hd (fin (pc + 1) _ _ _ _ _ _ hck hE19 (S.tl.tl.ps trivial))
  | lcmp =>
    obtain ⟨hd, hck⟩ := am_split1 hc1 (by intro q; cases q) rfl
    obtain ⟨a, b, r, rfl, hE20⟩ := am_2l_some hE
    exact W.lcmp hx hb hd (fin (pc + 1) _ _ _ _ _ _ hck hE20 (S.tl.tl.ps trivial))
  | lrem =>
    obtain ⟨hd, hck⟩ := am_split1 hc1 (by intro q; cases q) rfl
    obtain ⟨a, b, r, rfl, hE21⟩ := am_2l_some hE
    obtain ⟨hb0, hE22⟩ := am_ifn_some hE21
    exact lv_lrem hx hb hd hb0 (fin (pc + 1) _ _ _ _ _ _ hck hE22 (S.tl.tl.ps trivial))
  | iload_n i =>
    obtain ⟨hd, hck⟩ := am_split1 hc1 (by intro q; cases q) rfl
    obtain ⟨x, hi, hE23⟩ := am_ldi_some hE
    exact lv_iload_n hx hb hd rfl (S.1.ld hi) (fin (pc + 1) _ _ _ _ _ _ hck hE23 (S.ps trivial))
  | iload i =>
    obtain ⟨hd, hck⟩ := am_split1 hc1 (by intro q; cases q) rfl
    obtain ⟨x, hi, hE24⟩ := am_ldi_some hE
    exact lv_iload hx hb hd (S.1.ld hi) (fin (pc + 2) _ _ _ _ _ _ hck hE24 (S.ps trivial))
  | aload_n i =>
    obtain ⟨hd, hck⟩ := am_split1 hc1 (by intro q; cases q) rfl
    obtain ⟨t, a, hi, hE25⟩ := am_lda_some hE
    exact lv_aload_n hx hb hd rfl (S.1.ld hi) (fin (pc + 1) _ _ _ _ _ _ hck hE25 (S.ps (S.2.1 _ _ hi)))
  | aload i =>
    obtain ⟨hd, hck⟩ := am_split1 hc1 (by intro q; cases q) rfl
    obtain ⟨t, a, hi, hE26⟩ := am_lda_some hE
    exact lv_aload hx hb hd (S.1.ld hi) (fin (pc + 2) _ _ _ _ _ _ hck hE26 (S.ps (S.2.1 _ _ hi)))
  | lload_n i =>
    obtain ⟨hd, hck⟩ := am_split1 hc1 (by intro q; cases q) rfl
    obtain ⟨x, hi, hE27⟩ := am_ldl_some hE
    exact lv_lload_n hx hb hd rfl (S.1.ld hi) (fin (pc + 1) _ _ _ _ _ _ hck hE27 (S.ps trivial))
  | lload i =>
    obtain ⟨hd, hck⟩ := am_split1 hc1 (by intro q; cases q) rfl
    obtain ⟨x, hi, hE28⟩ := am_ldl_some hE
    exact lv_lload hx hb hd (S.1.ld hi) (fin (pc + 2) _ _ _ _ _ _ hck hE28 (S.ps trivial))
  | getfield i =>
    obtain ⟨hd, hck⟩ := am_split1 hc1 (by intro q; cases q) rfl
    obtain ⟨h1, h2⟩ := and2 hck
    exact am_sget C (fun ls st h sl H locs => fin (pc + 3) ls st h sl H locs h1) hd h2 rfl hE S
  | putfield i =>
    obtain ⟨hd, hck⟩ := am_split1 hc1 (by intro q; cases q) rfl
    obtain ⟨h1, h2⟩ := and2 hck
    obtain ⟨h1, h3⟩ := and2 h1
    exact am_sput C (fun ls st h sl H locs => fin (pc + 3) ls st h sl H locs h1) hd h3 h2 rfl hE S
  | iconst i =>
    obtain ⟨hd, hck⟩ := am_split1 hc1 (by intro q; cases q) rfl
    obtain ⟨h1, h2⟩ := and2 hck
    exact lv_iconst hx hb hd (of_decide_eq_true h2) (fin (pc + 1) _ _ _ _ _ _ h1 hE (S.ps trivial))
  | bipush i =>
    obtain ⟨hd, hck⟩ := am_split1 hc1 (by intro q; cases q) rfl
    obtain ⟨h1, h2⟩ := and2 hck
    exact lv_bipush hx hb hd (of_decide_eq_true h2) (fin (pc + 2) _ _ _ _ _ _ h1 hE (S.ps trivial))
  | sipush i =>
    obtain ⟨hd, hck⟩ := am_split1 hc1 (by intro q; cases q) rfl
    obtain ⟨h1, h2⟩ := and2 hck
    exact lv_sipush hx hb hd (of_decide_eq_true h2) (fin (pc + 3) _ _ _ _ _ _ h1 hE (S.ps trivial))
  | lconst i =>
    obtain ⟨hd, hck⟩ := am_split1 hc1 (by intro q; cases q) rfl
    obtain ⟨h1, h2⟩ := and2 hck
    exact lv_lconst hx hb hd (of_decide_eq_true h2) (fin (pc + 1) _ _ _ _ _ _ h1 hE (S.ps trivial))
  | ldc i =>
    obtain ⟨hd, hck⟩ := am_split1 hc1 (by intro q; cases q) rfl
    obtain ⟨h1, h2⟩ := and2 hck
    match aux, h2 with
    | wi :: _, h2 => exact lv_ldc hx hb hown (hts _ (am_word_mem h2)) hd (fin (pc + 2) _ _ _ _ _ _ h1 hE (S.ps trivial))
  | ldc_w i =>
    obtain ⟨hd, hck⟩ := am_split1 hc1 (by intro q; cases q) rfl
    obtain ⟨h1, h2⟩ := and2 hck
    match aux, h2 with
    | wi :: _, h2 => exact lv_ldcw hx hb hown (hts _ (am_word_mem h2)) hd (fin (pc + 3) _ _ _ _ _ _ h1 hE (S.ps trivial))
  | ldc2_w i =>
    obtain ⟨hd, hck⟩ := am_split1 hc1 (by intro q; cases q) rfl
    obtain ⟨h1, h2⟩ := and2 hck
    match aux, h2 with
    | wi :: _, h2 => exact lv_ldc2 hx hb hown (hts _ (am_word_mem h2)) hd (fin (pc + 3) _ _ _ _ _ _ h1 hE (S.ps trivial))
  | iaload =>
    obtain ⟨hd, hck⟩ := am_split1 hc1 (by intro q; cases q) rfl
    obtain ⟨i, r, rfl, hE29⟩ := am_pi_some hE
    obtain ⟨t, a, r, rfl, hE30⟩ := am_pa_some hE29
    split at hE30
    · rename_i ht
      subst ht
      obtain ⟨hin, hE31⟩ := am_b_some hE30
      obtain ⟨hX, hbl, hbA⟩ := hsc (show sc from S.tl.hd)
      exact va_sld (A := am_A b0) hx hb hX hbl hbA S.2.2.2.2.2 hin hd (fin (pc + 1) _ _ _ _ _ _ hck hE31 (S.tl.tl.ps trivial))
    · rename_i ht
      obtain ⟨h100, hE32⟩ := am_ifn_some hE30
      obtain ⟨hin, hE33⟩ := am_b_some hE32
      obtain ⟨ha, hct⟩ := am_obj (h := h) S.tl.hd ht
      have hst : (vi i :: vr t a :: r).map (am_cv b0 bS) = .int i :: .ref (b0 + a) :: r.map (am_cv b0 bS) := by simp [am_cv, ht]
      rw [hst]
      exact va_iald hx hb hK S.2.2.2.1 a 0 (am_at_int ha hct (by omega)) rfl hin hd (fin (pc + 1) _ _ _ _ _ _ hck hE33 (S.tl.tl.ps trivial))
  | iastore =>
    obtain ⟨hd, hck⟩ := am_split1 hc1 (by intro q; cases q) rfl
    obtain ⟨x, r, rfl, hE34⟩ := am_pi_some hE
    obtain ⟨i, r, rfl, hE35⟩ := am_pi_some hE34
    obtain ⟨t, a, r, rfl, hE36⟩ := am_pa_some hE35
    obtain ⟨h100, hE37⟩ := am_ifn_some hE36
    obtain ⟨hin, hE38⟩ := am_b_some hE37
    have ht : t ≠ 8 := by omega
    obtain ⟨ha, hct⟩ := am_obj (h := h) S.tl.tl.hd ht
    have hst : (vi x :: vi i :: vr t a :: r).map (am_cv b0 bS) = .int x :: .int i :: .ref (b0 + a) :: r.map (am_cv b0 bS) := by simp [am_cv, ht]
    rw [hst]
    exact va_iast hx hb hK S.2.2.2.1 (am_w_D b0 cI cH nC h) S.2.2.2.2.2 a 0 (am_at_int ha hct (by omega)) rfl hin hd (fun H1 locs1 hP1 hD1 hS1 => fin (pc + 1) _ _ _ _ _ _ hck hE38 (am_S.wr S.tl.tl.tl (am_en_int hct (by omega) _) hP1 (am_wf_arr S.2.2.2.2.1 (by omega)) hS1))
  | caload =>
    obtain ⟨hd, hck⟩ := am_split1 hc1 (by intro q; cases q) rfl
    obtain ⟨i, r, rfl, hE39⟩ := am_pi_some hE
    obtain ⟨t, a, r, rfl, hE40⟩ := am_pa_some hE39
    obtain ⟨h9, hE41⟩ := am_if_some hE40
    obtain ⟨hin, hE42⟩ := am_b_some hE41
    have ht : t ≠ 8 := by omega
    obtain ⟨ha, hct⟩ := am_obj (h := h) S.tl.hd ht
    have hst : (vi i :: vr t a :: r).map (am_cv b0 bS) = .int i :: .ref (b0 + a) :: r.map (am_cv b0 bS) := by simp [am_cv, ht]
    rw [hst]
    exact va_cald hx hb hK S.2.2.2.1 a 1 (am_at_chr ha (hct.trans h9)) rfl hin hd (fin (pc + 1) _ _ _ _ _ _ hck hE42 (S.tl.tl.ps trivial))
  | castore =>
    obtain ⟨hd, hck⟩ := am_split1 hc1 (by intro q; cases q) rfl
    obtain ⟨x, r, rfl, hE43⟩ := am_pi_some hE
    obtain ⟨i, r, rfl, hE44⟩ := am_pi_some hE43
    obtain ⟨t, a, r, rfl, hE45⟩ := am_pa_some hE44
    obtain ⟨h9, hE46⟩ := am_if_some hE45
    obtain ⟨hin, hE47⟩ := am_b_some hE46
    have ht : t ≠ 8 := by omega
    obtain ⟨ha, hct⟩ := am_obj (h := h) S.tl.tl.hd ht
    have hst : (vi x :: vi i :: vr t a :: r).map (am_cv b0 bS) = .int x :: .int i :: .ref (b0 + a) :: r.map (am_cv b0 bS) := by simp [am_cv, ht]
    rw [hst]
    exact va_cast hx hb hK S.2.2.2.1 (am_w_D b0 cI cH nC h) S.2.2.2.2.2 a 1 (am_at_chr ha (hct.trans h9)) rfl hin hd (fun H1 locs1 hP1 hD1 hS1 => fin (pc + 1) _ _ _ _ _ _ hck hE47 (am_S.wr S.tl.tl.tl (am_en_chr (hct.trans h9) _) hP1 (am_wf_arr S.2.2.2.2.1 (by omega)) hS1))
  | arraylength =>
    obtain ⟨hd, hck⟩ := am_split1 hc1 (by intro q; cases q) rfl
    obtain ⟨t, a, r, rfl, hE48⟩ := am_pa_some hE
    split at hE48
    · rename_i ht
      subst ht
      obtain ⟨hX, hbl, hbA⟩ := hsc (show sc from S.hd)
      exact va_slen (A := am_A b0) hx hb hX hbl hbA S.2.2.2.2.2 hd (fin (pc + 1) _ _ _ _ _ _ hck hE48 (S.tl.ps trivial))
    · rename_i ht
      obtain ⟨h100, hE49⟩ := am_ifn_some hE48
      obtain ⟨ha, hct⟩ := am_obj (h := h) S.hd ht
      have hst : (vr t a :: r).map (am_cv b0 bS) = .ref (b0 + a) :: r.map (am_cv b0 bS) := by simp [am_cv, ht]
      rw [hst]
      exact va_alen hx hb hK S.2.2.2.1 a 0 (am_at_int ha hct (by omega)) rfl rfl hd (fin (pc + 1) _ _ _ _ _ _ hck hE49 (S.tl.ps trivial))
  | istore_n i =>
    obtain ⟨hd, hck⟩ := am_split1 hc1 (by intro q; cases q) rfl
    obtain ⟨h1, h2⟩ := and2 hck
    obtain ⟨x, r, rfl, hE50⟩ := am_pi_some hE
    obtain ⟨hE50, hpre⟩ := am_pre_some hE50
    exact lv_istore_n (lv := am_lv (am_cv b0 bS) 0 ls) hx hb hd rfl S.1.2 (of_decide_eq_true h2) rfl (fun sl' hl' => fin (pc + 1) _ _ _ _ _ _ h1 hE50 (S.tl.loc (S.1.st1 (am_cv_cat b0 bS) (v := vi x) hpre hl') (am_okst S.2.1 trivial)))
  | istore i =>
    obtain ⟨hd, hck⟩ := am_split1 hc1 (by intro q; cases q) rfl
    obtain ⟨h1, h2⟩ := and2 hck
    obtain ⟨x, r, rfl, hE51⟩ := am_pi_some hE
    obtain ⟨hE51, hpre⟩ := am_pre_some hE51
    exact lv_istore (lv := am_lv (am_cv b0 bS) 0 ls) hx hb hd S.1.2 (of_decide_eq_true h2) rfl (fun sl' hl' => fin (pc + 2) _ _ _ _ _ _ h1 hE51 (S.tl.loc (S.1.st1 (am_cv_cat b0 bS) (v := vi x) hpre hl') (am_okst S.2.1 trivial)))
  | astore_n i =>
    obtain ⟨hd, hck⟩ := am_split1 hc1 (by intro q; cases q) rfl
    obtain ⟨h1, h2⟩ := and2 hck
    obtain ⟨t, a, r, rfl, hE52⟩ := am_pa_some hE
    obtain ⟨hE52, hpre⟩ := am_pre_some hE52
    exact lv_astore_n (lv := am_lv (am_cv b0 bS) 0 ls) hx hb hd rfl S.1.2 (of_decide_eq_true h2) rfl (fun sl' hl' => fin (pc + 1) _ _ _ _ _ _ h1 hE52 (S.tl.loc (S.1.st1 (am_cv_cat b0 bS) (v := vr t a) hpre hl') (am_okst S.2.1 S.hd)))
  | lstore_n i =>
    obtain ⟨hd, hck⟩ := am_split1 hc1 (by intro q; cases q) rfl
    obtain ⟨h1, h2⟩ := and2 hck
    obtain ⟨x, r, rfl, hE53⟩ := am_pl_some hE
    obtain ⟨hE53, hpre⟩ := am_pre_some hE53
    exact lv_lstore_n (lv := am_lv (am_cv b0 bS) 0 ls) hx hb hd rfl S.1.2 (of_decide_eq_true h2) rfl (fun sl' hl' => fin (pc + 1) _ _ _ _ _ _ h1 hE53 (S.tl.loc (S.1.st2 (am_cv_cat b0 bS) (v := vl x) hpre hl') (am_okst0 (am_okst S.2.1 trivial))))
  | lstore i =>
    obtain ⟨hd, hck⟩ := am_split1 hc1 (by intro q; cases q) rfl
    obtain ⟨h1, h2⟩ := and2 hck
    obtain ⟨x, r, rfl, hE54⟩ := am_pl_some hE
    obtain ⟨hE54, hpre⟩ := am_pre_some hE54
    exact lv_lstore (lv := am_lv (am_cv b0 bS) 0 ls) hx hb hd S.1.2 (of_decide_eq_true h2) rfl (fun sl' hl' => fin (pc + 2) _ _ _ _ _ _ h1 hE54 (S.tl.loc (S.1.st2 (am_cv_cat b0 bS) (v := vl x) hpre hl') (am_okst0 (am_okst S.2.1 trivial))))
  | iinc i y =>
    obtain ⟨hd, hck⟩ := am_split1 hc1 (by intro q; cases q) rfl
    obtain ⟨h1, h2⟩ := and2 hck
    obtain ⟨h1, h3⟩ := and2 h1
    obtain ⟨x, hi, hE55⟩ := am_ldi_some hE
    obtain ⟨hE55, hpre⟩ := am_pre_some hE55
    obtain ⟨kk, hkk⟩ := S.1.at hi
    exact lv_iinc (v := x + q) (lv := am_lv (am_cv b0 bS) 0 ls) hx hb hd S.1.2 hkk (by rw [of_decide_eq_true h3]) (of_decide_eq_true h2) rfl (fun sl' hl' => fin (pc + 3) _ _ _ _ _ _ h1 hE55 (S.loc (S.1.st1 (am_cv_cat b0 bS) (v := vi (x + q)) hpre hl') (am_okst S.2.1 trivial)))
  | dup =>
    obtain ⟨hd, hck⟩ := am_split1 hc1 (by intro q; cases q) rfl
    match st, hE, S with
    | v :: r, hE, S =>
      obtain ⟨hc, hE56⟩ := am_if_some hE
      exact lv_dup hx hb hd ((am_cv_cat b0 bS v).trans hc) (fin (pc + 1) _ _ _ _ _ _ hck hE56 (S.ps S.hd))
  | dup2 =>
    obtain ⟨hd, hck⟩ := am_split1 hc1 (by intro q; cases q) rfl
    match st, hE, S with
    | v :: w :: r, hE, S =>
      obtain ⟨hc, hE57⟩ := am_if_some hE
      obtain ⟨hc2, hE58⟩ := am_if_some hE57
      exact lv_dup2_11 hx hb hd ((am_cv_cat b0 bS v).trans hc) ((am_cv_cat b0 bS w).trans hc2) (fin (pc + 1) _ _ _ _ _ _ hck hE58 ((S.ps S.tl.hd).ps S.hd))
  | pop =>
    obtain ⟨hd, hck⟩ := am_split1 hc1 (by intro q; cases q) rfl
    match st, hE, S with
    | v :: r, hE, S =>
      obtain ⟨hc, hE59⟩ := am_if_some hE
      exact lv_pop hx hb hd ((am_cv_cat b0 bS v).trans hc) (fin (pc + 1) _ _ _ _ _ _ hck hE59 S.tl)
  | goto off =>
    obtain ⟨hd, hck⟩ := am_split1 hc1 (by intro q; cases q) rfl
    match aux, hck, hE with
    | t :: _, hck, hE => exact lv_goto hx hb hd (am_pcI_pc hck).symm (hN t _ _ _ _ _ _ hE S)
  | if_icmp cd off =>
    obtain ⟨hd, hck⟩ := am_split1 hc1 (by intro q; cases q) rfl
    obtain ⟨h1, h2⟩ := and2 hck
    match aux, h2, hE with
    | t :: _, h2, hE =>
      obtain ⟨a, b, r, rfl, hE60⟩ := am_2_some hE
      have hj := (am_pcI_pc h2).symm
      cases cd with
      | eq => exact lv_icmp_eq hx hb hd hj (fun q => hN t _ _ _ _ _ _ (am_ipos (c := a = b) (q) hE60) S.tl.tl) (fun q => fin (pc + 3) _ _ _ _ _ _ h1 (am_ineg (c := a = b) (q) hE60) S.tl.tl)
      | ne => exact lv_icmp_ne hx hb hd hj (fun q => hN t _ _ _ _ _ _ (am_ineg (c := a = b) (q) hE60) S.tl.tl) (fun q => fin (pc + 3) _ _ _ _ _ _ h1 (am_ipos (c := a = b) (q) hE60) S.tl.tl)
      | lt => exact lv_icmp_lt hx hb hd hj (fun q => hN t _ _ _ _ _ _ (am_ipos (c := a < b) (q) hE60) S.tl.tl) (fun q => fin (pc + 3) _ _ _ _ _ _ h1 (am_ineg (c := a < b) (q) hE60) S.tl.tl)
      | ge => exact lv_icmp_ge hx hb hd hj (fun q => hN t _ _ _ _ _ _ (am_ineg (c := a < b) (am_nlt q) hE60) S.tl.tl) (fun q => fin (pc + 3) _ _ _ _ _ _ h1 (am_ipos (c := a < b) (am_nle q) hE60) S.tl.tl)
      | gt => exact lv_icmp_gt hx hb hd hj (fun q => hN t _ _ _ _ _ _ (am_ipos (c := b < a) (q) hE60) S.tl.tl) (fun q => fin (pc + 3) _ _ _ _ _ _ h1 (am_ineg (c := b < a) (q) hE60) S.tl.tl)
      | le => exact lv_icmp_le hx hb hd hj (fun q => hN t _ _ _ _ _ _ (am_ineg (c := b < a) (am_nlt q) hE60) S.tl.tl) (fun q => fin (pc + 3) _ _ _ _ _ _ h1 (am_ipos (c := b < a) (am_nle q) hE60) S.tl.tl)
  | ifCond cd off =>
    obtain ⟨hd, hck⟩ := am_split1 hc1 (by intro q; cases q) rfl
    obtain ⟨h1, h2⟩ := and2 hck
    match aux, h2, hE with
    | t :: _, h2, hE =>
      obtain ⟨a, r, rfl, hE61⟩ := am_pi_some hE
      have hj := (am_pcI_pc h2).symm
      cases cd with
      | eq => exact lv_if_eq hx hb hd hj (fun q => hN t _ _ _ _ _ _ (am_ipos (c := a = 0) (q) hE61) S.tl) (fun q => fin (pc + 3) _ _ _ _ _ _ h1 (am_ineg (c := a = 0) (q) hE61) S.tl)
      | ne => exact lv_if_ne hx hb hd hj (fun q => hN t _ _ _ _ _ _ (am_ineg (c := a = 0) (q) hE61) S.tl) (fun q => fin (pc + 3) _ _ _ _ _ _ h1 (am_ipos (c := a = 0) (q) hE61) S.tl)
      | lt => exact lv_if_lt hx hb hd hj (fun q => hN t _ _ _ _ _ _ (am_ipos (c := a < 0) (q) hE61) S.tl) (fun q => fin (pc + 3) _ _ _ _ _ _ h1 (am_ineg (c := a < 0) (q) hE61) S.tl)
      | ge => exact lv_if_ge hx hb hd hj (fun q => hN t _ _ _ _ _ _ (am_ineg (c := a < 0) (am_nlt q) hE61) S.tl) (fun q => fin (pc + 3) _ _ _ _ _ _ h1 (am_ipos (c := a < 0) (am_nle q) hE61) S.tl)
      | gt => exact lv_if_gt hx hb hd hj (fun q => hN t _ _ _ _ _ _ (am_ipos (c := 0 < a) (q) hE61) S.tl) (fun q => fin (pc + 3) _ _ _ _ _ _ h1 (am_ineg (c := 0 < a) (q) hE61) S.tl)
      | le => exact lv_if_le hx hb hd hj (fun q => hN t _ _ _ _ _ _ (am_ineg (c := 0 < a) (am_nlt q) hE61) S.tl) (fun q => fin (pc + 3) _ _ _ _ _ _ h1 (am_ipos (c := 0 < a) (am_nle q) hE61) S.tl)
  | invokevirtual i =>
    obtain ⟨hd, hck⟩ := am_split1 hc1 (by intro q; cases q) rfl
    obtain ⟨h1, h2⟩ := and2 hck
    exact am_sinv C hG hcs (fun ls st h sl H locs => fin (pc + 3) ls st h sl H locs h1) true hd h2 rfl hE S
  | invokestatic i =>
    obtain ⟨hd, hck⟩ := am_split1 hc1 (by intro q; cases q) rfl
    obtain ⟨h1, h2⟩ := and2 hck
    by_cases h9 : ∃ wi x, aux = 999 :: wi :: x
    · obtain ⟨wi, x, rfl⟩ := h9
      exact am_scpy C (fun ls st h sl H locs => fin (pc + 3) ls st h sl H locs h1) hd (am_word_mem h2) rfl hE S
    · have h2 : am_ick mt own true i aux = true := am_is1 h2 h9
      exact am_sinv C hG hcs (fun ls st h sl H locs => fin (pc + 3) ls st h sl H locs h1) false hd h2 rfl (am_is2 hE h9 h2) S
  | ireturn =>
    obtain ⟨hd, hck⟩ := am_split1 hc1 (by intro q; cases q) rfl
    match st, aux, hck, hE, S with
    | [Sum.inl v], 1 :: _, hck, hE, S =>
      obtain ⟨hv, hE62⟩ := am_if_some hE
      cases hE62
      exact hZi v h sl H locs pc hd (Or.inr ⟨of_decide_eq_true hck, hv⟩) rfl S
    | [Sum.inl v], 0 :: _, hck, hE, S =>
      cases hE
      exact hZi v h sl H locs pc hd (Or.inl (of_decide_eq_true hck)) rfl S
    | [], _, _, hE, _ => cases hE
    | Sum.inr _ :: _, _, _, hE, _ => cases hE
    | Sum.inl _ :: _ :: _, _, _, hE, _ => cases hE
    | [Sum.inl _], [], _, hE, _ => cases hE
    | [Sum.inl _], (_ + 2) :: _, _, hE, _ => cases hE
  | return_ =>
    obtain ⟨hd, hck⟩ := am_split1 hc1 (by intro q; cases q) rfl
    match st, hE, S with
    | [], hE, S =>
      cases hE
      exact hZv h sl H locs pc hd (of_decide_eq_true hck) rfl S
    | _ :: _, hE, _ => cases hE
  | tableswitch df lo hi offs =>
    obtain ⟨hd, -, hck⟩ := am_split hc1 (by intro q; cases q)
    match aux, hck, hE with
    | t :: l', hck, hE =>
      obtain ⟨h1, h5⟩ := and2 hck
      obtain ⟨h1, h4⟩ := and2 h1
      obtain ⟨h1, h3⟩ := and2 h1
      obtain ⟨h1, h2⟩ := and2 h1
      have h2 := of_decide_eq_true h2
      have h3 := of_decide_eq_true h3
      have h5 := of_decide_eq_true h5
      obtain ⟨x, r, rfl, hE63⟩ := am_pi_some hE
      have hlo : ((lo.toNat : Nat) : Int) = lo := by omega
      rcases am_tsw _ _ _ h4 (by omega) hE63 with ⟨j, t', o, a1, a2, a3, a4⟩ | ⟨a1, a2⟩
      · have hjl : j < offs.toList.length := (List.getElem?_eq_some_iff.mp a2).1
        exact lv_tableIn hx hb hd (by omega) (by omega) (by rw [show (x.toInt - lo).toNat = j by omega]; simpa using a2) (am_pcI_pc a4).symm (hN t' _ _ _ _ _ _ a3 S.tl)
      · exact lv_tableOut hx hb hd (by omega) (am_pcI_pc h1).symm (hN t _ _ _ _ _ _ a2 S.tl)
  | lookupswitch df ps =>
    obtain ⟨hd, -, hck⟩ := am_split hc1 (by intro q; cases q)
    match aux, hck, hE with
    | t :: l', hck, hE =>
      obtain ⟨h1, h3⟩ := and2 hck
      obtain ⟨h1, h2⟩ := and2 h1
      obtain ⟨x, r, rfl, hE64⟩ := am_pi_some hE
      obtain ⟨t', a1, a2⟩ := am_lsw h1 _ _ h3 hE64
      exact lv_lookup hx hb hd h2 rfl (am_pcI_pc a1).symm (hN t' _ _ _ _ _ _ a2 S.tl)
  | nop =>
    match st, aux, hc1, hE, S with
    | [], t :: _, hc1, hE, S =>
      have hp := am_pcI_pc (show am_pcI (am_drp t tb) ((pc : Nat) : Int) = true from hc1)
      have hp : am_pc (am_drp t tb) = pc := by omega
      rw [← hp]
      exact hR t ls [] h sl H locs hE S
    | [], [], _, hE, _ => cases hE
    | _ :: _, _, _, hE, _ => cases hE
  | _ => exact absurd (show (none : am_Z) = some Z from hE) (fun q => by cases q)
end SIM
end
section
section SIM
variable {p : Program} {l : Launch} {e : Env} {R : Room} {s : State} {m : MethodId} {args : Array Value} {below : List Frame} {meth : Method} {c : Code} {cells slots : Nat} {Q : State → Prop}
variable {mt : Nat → am_M} {own : String} {cc : ByteArray} {tb : List am_W} {nL b0 bS nC L d : Nat} {xs : Nat → Int32} {D : va_G} {cI cH : ClassId} {sc : Prop} {rt : Option FieldType} {G : Nat → List am_V → am_H → am_Z}
theorem am_seg_ok {rc : Nat → am_L → am_H → am_Z} {Z : am_H × Option Int32} (C : am_Cx p s m args c R mt own cc tb nL b0 bS nC L d xs D cI cH sc rt) (hG : am_GO l mt b0 nC D cI cH d G) (hcs : cells ≤ R.cells ∧ slots ≤ R.slots)
    (hR : ∀ i : Nat, am_Nx p l e R s m args below meth c cells slots Q nL b0 bS nC D cI cH sc (am_pc (am_drp i tb)) (fun ls st h => match st with | [] => rc i ls h | _ => none) Z)
    (hZi : ∀ ls, am_Zi p l e R s m args below meth c cells slots Q cc nL b0 bS nC D cI cH sc rt ls Z) (hZv : ∀ ls, am_Zv p l e R s m args below meth c cells slots Q cc nL b0 bS nC D cI cH sc rt ls Z) :
    ∀ (k i : Nat), am_Nx p l e R s m args below meth c cells slots Q nL b0 bS nC D cI cH sc (am_pc (am_drp i tb)) (am_seg L xs tb G rc k (am_drp i tb)) Z := by
  intro k
  induction k with
  | zero => intro i ls st h sl H locs hE; cases hE
  | succ k ih =>
    intro i
    cases hrow : am_drp i tb with
    | nil => intro ls st h sl H locs hE; cases hE
    | cons w rest =>
      obtain ⟨pc, len, ins, aux, q⟩ := w
      exact am_step C hG hcs ih hR hZi hZv hrow
theorem am_run_ok {Z : am_H × Option Int32} (C : am_Cx p s m args c R mt own cc tb nL b0 bS nC L d xs D cI cH sc rt) (hG : am_GO l mt b0 nC D cI cH d G) (hcs : cells ≤ R.cells ∧ slots ≤ R.slots)
    (hZi : ∀ ls, am_Zi p l e R s m args below meth c cells slots Q cc nL b0 bS nC D cI cH sc rt ls Z) (hZv : ∀ ls, am_Zv p l e R s m args below meth c cells slots Q cc nL b0 bS nC D cI cH sc rt ls Z) :
    ∀ (n i : Nat), am_Nx p l e R s m args below meth c cells slots Q nL b0 bS nC D cI cH sc (am_pc (am_drp i tb)) (fun ls st h => match st with | [] => am_run L xs tb G n i ls h | _ => none) Z := by
  intro n
  induction n with
  | zero =>
    intro i ls st h sl H locs hE
    match st, hE with
    | [], hE => cases hE
    | _ :: _, hE => cases hE
  | succ n ih =>
    intro i ls st h sl H locs hE S
    match st, hE, S with
    | [], hE, S => exact am_seg_ok C hG hcs ih hZi hZv 1000 i ls [] h sl H locs hE S
    | _ :: _, hE, _ => cases hE
end SIM
theorem am_ent_len : ∀ (as : List am_V) (n : Nat), am_cats as ≤ n → (am_ent as n).length = n := by
  intro as
  induction as with
  | nil => intro n _; simp [am_ent]
  | cons v as ih =>
    intro n h
    have h : am_cat v + am_cats as ≤ n := h
    unfold am_ent
    split
    · rename_i e
      have := ih (n - 2) (by omega)
      simp [this]
      omega
    · rename_i e
      have e1 : am_cat v = 1 := by rcases v with x | ⟨t, a⟩ | x <;> first | rfl | exact absurd rfl e
      have := ih (n - 1) (by omega)
      simp [this]
      omega
theorem am_lv_nones (f : am_V → Value) : ∀ (n i : Nat), am_lv f i (List.replicate n none) = [] := by
  intro n
  induction n with
  | zero => intro i; rfl
  | succ n ih => intro i; exact ih (i + 1)
theorem am_ent_lv {f : am_V → Value} (hf : ∀ v, (f v).category = am_cat v) : ∀ (as : List am_V) (n i : Nat), am_lv f i (am_ent as n) = lv_args i (as.map f) := by
  intro as
  induction as with
  | nil => intro n i; exact am_lv_nones f n i
  | cons v as ih =>
    intro n i
    have e0 : lv_args i ((v :: as).map f) = (i, f v) :: lv_args (if (f v).category = 2 then i + 2 else i + 1) (as.map f) := rfl
    rw [e0, hf]
    unfold am_ent
    split
    · rename_i e
      rw [e, if_pos rfl]
      show (i, f v) :: am_lv f (i + 1 + 1) (am_ent as (n - 2)) = _
      rw [ih]
    · rename_i e
      rw [if_neg (fun q => e (by rw [q]))]
      show (i, f v) :: am_lv f (i + 1) (am_ent as (n - 1)) = _
      rw [ih]
theorem am_ent_mem : ∀ (as : List am_V) (n i : Nat) (v : am_V), am_ix (am_ent as n) i = some v → v ∈ as := by
  intro as
  induction as with
  | nil =>
    intro n
    have : ∀ (n i : Nat) (v : am_V), am_ix (List.replicate n none) i = some v → False := by
      intro n
      induction n with
      | zero => intro i v h; cases h
      | succ n ih =>
        intro i v h
        match i, h with
        | i + 1, h => exact ih i v h
    intro i v h
    exact (this n i v h).elim
  | cons w as ih =>
    intro n i v h
    unfold am_ent at h
    split at h
    · match i, h with
      | 0, h => cases h; exact List.mem_cons_self
      | 1, h => cases h
      | i + 2, h => exact List.mem_cons_of_mem _ (ih _ i v h)
    · match i, h with
      | 0, h => cases h; exact List.mem_cons_self
      | i + 1, h => exact List.mem_cons_of_mem _ (ih _ i v h)
theorem am_sl_len (f : am_V → Value) (hf : ∀ v, (f v).category = am_cat v) : ∀ (as : List am_V), (lg_sl (as.map f)).length = am_cats as := by
  intro as
  induction as with
  | nil => rfl
  | cons v as ih =>
    have e0 : lg_sl ((v :: as).map f) = (if (f v).category = 2 then [Slot.val (f v), .second] else [.val (f v)]) ++ lg_sl (as.map f) := rfl
    rw [e0, List.length_append, ih, hf]
    show _ = am_cat v + am_cats as
    congr 1
    rcases v with x | ⟨t, a⟩ | x <;> rfl
/-- as Met.ofW, of a method of any class that no native row replaces -/
theorem am_ofW {l : Launch} {y : MethodName} {ws ws' : List Cond} {rm : Room} {Pc : Array Value → State → Prop} {Qc : Array Value → State → Outcome → State → Prop} {mc ms : Nat} {free : Addr → Prop} {cc : ByteArray} {maxL : Nat} {ret : Option FieldType}
    (hy : plainFor y = true) (hw : ws = Cond.code y cc maxL ret :: ws')
    (body : ∀ p e s m args below meth c s₁, BodyLoose p l y (headSpec ws rm) cc maxL ret e s m args below meth c s₁ → c.maxLocals = maxL → Pc args s →
      W p l e (headSpec ws rm).room s m args below meth c s.heap [] 0 0 (MQ below Qc args s mc ms free) (entryFrame m args maxL)) : Met l y ws rm Pc Qc mc ms free := by
  refine MetFree.of_bodySF (code := cc) (maxLocals := maxL) (ret := ret) hy ?_ ?_
  · intro args s m h hn
    obtain ⟨meth, c, h1, h2, h3, h4, h5, h6, -, -⟩ := Cond.code_spec hn (atoms_spec (ws := ws) h _ (by rw [hw]; exact List.mem_cons_self))
    exact ⟨meth, c, h1, h2, h3, h4, h5, h6⟩
  · intro p e s m args below meth c s₁ B hml hP _
    have hh0 : s₁.heap = s.heap := by rw [B.state]; rfl
    obtain ⟨t, a1, o, b1, b2, b3⟩ := body p e s m args below meth c s₁ B hml hP s₁ hh0 (Stand.of_body B)
    exact ⟨t, o, a1, b1, b2, ⟨b3.1, b3.2⟩⟩
set_option maxHeartbeats 1000000 in
/-- WHAT THE ABSTRACT MACHINE ANSWERS, THE METHODS DO: by levels -/
theorem am_lvl (l : Launch) {mt : Nat → am_M} {tbs : Nat → List am_W} (hMT : am_MT mt) (hchk : ∀ z, am_chks mt (mt z).1.cls (mt z).2.1 (tbs z) (mt z).2.2.1 (mt z).2.2.2.1 (tbs z) = true) (hpc : ∀ z, am_pc (tbs z) = 0) {nC : Nat} (hclo : am_clo nC = true) (hnC : nC < 1000) (b0 : Nat) (D : va_G) (cI cH : ClassId) :
    ∀ d : Nat, am_GO l mt b0 nC D cI cH d (am_G (fun z => (tbs z, (mt z).2.2.1)) d) := by
  intro d
  induction d with
  | zero => intro z as h h' r hE; cases hE
  | succ d ih =>
    intro z as h h' r hE hok hwf
    have hE : (if (mt z).2.2.1 < am_cats as then none else am_run 0 (fun _ => 0) (tbs z) (am_G (fun z => (tbs z, (mt z).2.2.1)) d) 1000000 0 (am_ent as (mt z).2.2.1) h) = some (h', r) := hE
    obtain ⟨hcat, hE1⟩ := am_ifn_some hE
    obtain ⟨m1, m2, m3, m4, m5, m6, m7, m8⟩ := am_mck_spec (hMT z)
    refine am_ofW (cc := (mt z).2.1) (maxL := (mt z).2.2.1) (ret := (mt z).2.2.2.1) m4 rfl ?_
    intro p e s m args below meth c s₁ B hml hv
    obtain ⟨rfl, hP, hK⟩ := hv
    have hts := atoms_spec (ws := am_mw mt z) B.pre
    have hown : s.vm.findClass (mt z).1.cls = some m.cls := findClass_of_methodNamed B.named
    have hlocks := B.notSynchronized
    have hx := B.exec
    have hb := B.bytes
    have hr := B.returns
    have hl := lv_entry (as.map (am_cv b0 0)) (n := (mt z).2.2.1) (by rw [am_sl_len _ (am_cv_cat b0 0)]; omega)
    rw [lg_entry_eq]
    generalize (lg_sl (as.map (am_cv b0 0)) ++ List.replicate ((mt z).2.2.1 - (lg_sl (as.map (am_cv b0 0))).length) Slot.unset).toArray = sl at hl ⊢
    have hLR : am_LR (am_cv b0 0) (mt z).2.2.1 (am_ent as (mt z).2.2.1) sl := ⟨am_ent_len _ _ (by omega), by rw [am_ent_lv (am_cv_cat b0 0)]; exact hl⟩
    have C : am_Cx p s m (as.map (am_cv b0 0)).toArray c (headSpec (am_mw mt z) (am_rm (d + 1))).room mt (mt z).1.cls (mt z).2.1 (tbs z) (mt z).2.2.1 b0 0 nC 0 d (fun _ => 0) D cI cH False (mt z).2.2.2.1 :=
      ⟨hx, hb, hml, hown, fun w hw => hts w (List.mem_cons_of_mem _ hw), hK, hchk z, hclo, hnC, ⟨Nat.le_refl _, by show 35 * d + 35 ≤ 35 * (d + 1); omega⟩, fun q => q.elim, hMT⟩
    have key := am_run_ok (l := l) (e := e) (below := below) (meth := meth) (cells := 0) (slots := 0) (Q := MQ below (am_Qc b0 nC D cI cH h' r) (as.map (am_cv b0 0)).toArray s 0 0 (am_A b0)) (Z := (h', r)) C ih ⟨Nat.zero_le _, Nat.zero_le _⟩ ?_ ?_ 1000000 0 (am_ent as (mt z).2.2.1) [] h sl s.heap [] hE1 ⟨hLR, fun i v hi => hok v (am_ent_mem _ _ _ _ hi), (fun v hv => absurd hv (List.not_mem_nil)), hP, hwf, va_S.rf⟩
    · rw [show am_pc (am_drp 0 (tbs z)) = 0 from hpc z] at key
      exact key
    · intro ls v h1 sl1 H1 locs1 pc1 hd hrt hZ S
      cases hZ
      have hq : ∀ t : State, t.heap = H1 → s.WarmedH t.vm → am_Qc b0 nC D cI cH h' (some v) (as.map (am_cv b0 0)).toArray s (.returned (some (.int v))) t := fun t ht _ => ⟨⟨v, (), rfl, ⟨rfl, S.2.2.2.2.1⟩, (by show va_P _ _ _ t.heap; rw [ht]; exact S.2.2.2.1)⟩, S.2.2.2.2.2.F ht⟩
      rcases hrt with e1 | ⟨e1, e2⟩
      · exact W.zret (ty := .int) hx hb (hr.trans e1) rfl hq S.2.2.2.2.2.2.2 hd
      · exact W.zret (ty := .boolean) hx hb (hr.trans e1) (by show Value.int (v &&& 1) = _; rw [e2]) hq S.2.2.2.2.2.2.2 hd
    · intro ls h1 sl1 H1 locs1 pc1 hd hrt hZ S
      cases hZ
      exact W.vret hx hb (hr.trans hrt) (fun t ht _ => ⟨⟨(), rfl, S.2.2.2.2.1, (by show va_P _ _ _ t.heap; rw [ht]; exact S.2.2.2.1)⟩, S.2.2.2.2.2.F ht⟩) S.2.2.2.2.2.2.2 hd
end
section
theorem tt_eJ_floorMod : am_mck (⟨"java/lang/Math", "floorMod", "(II)I"⟩, prog_11_method_50_code, 3, some .int, true, [511, 510, 0, 69]) = true := by decide +kernel
theorem tt_eJ_max : am_mck (⟨"java/lang/Math", "max", "(II)I"⟩, prog_11_method_65_code, 2, some .int, true, [517, 516, 0, 69]) = true := by decide +kernel
end
